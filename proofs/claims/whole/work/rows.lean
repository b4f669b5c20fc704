section
-- ===== PART A: goes FIRST, ahead of the names: the tables' words, and 'selects' of the private methods out of them =====
/-- a private method of a class that the tables say can be made, by its rows of tables_1 -/
def lw_okq (q : MethodName × Nat) : Prop := (q.1.cls ≠ "java/lang/invoke/MethodHandle" ∧ q.1.cls ≠ "java/lang/invoke/VarHandle") ∧ Cond.instantiable q.1.cls q.2 ∈ tables_1 ∧ Cond.privateMethod q.1 ∈ tables_1 ∧ Cond.instanceMethod q.1 ∈ tables_1
theorem lw_p0 : lw_okq (⟨"VeneerDesk$Log", "markFlaw", "(LVeneerDesk$Flaw;)V"⟩, 12) := ⟨⟨by decide +kernel, by decide +kernel⟩, List.mem_of_getElem? (i := 130) (by decide +kernel), List.mem_of_getElem? (i := 416) (by decide +kernel), List.mem_of_getElem? (i := 417) (by decide +kernel)⟩
theorem lw_p1 : lw_okq (⟨"VeneerDesk$Reader", "readRow", "(III)Z"⟩, 7) := ⟨⟨by decide +kernel, by decide +kernel⟩, List.mem_of_getElem? (i := 41) (by decide +kernel), List.mem_of_getElem? (i := 490) (by decide +kernel), List.mem_of_getElem? (i := 491) (by decide +kernel)⟩
theorem lw_p2 : lw_okq (⟨"VeneerDesk$Reader", "readColumn", "(III)Z"⟩, 7) := ⟨⟨by decide +kernel, by decide +kernel⟩, List.mem_of_getElem? (i := 41) (by decide +kernel), List.mem_of_getElem? (i := 494) (by decide +kernel), List.mem_of_getElem? (i := 495) (by decide +kernel)⟩
theorem lw_p3 : lw_okq (⟨"VeneerDesk$Reader", "readPart", "(III)Z"⟩, 7) := ⟨⟨by decide +kernel, by decide +kernel⟩, List.mem_of_getElem? (i := 41) (by decide +kernel), List.mem_of_getElem? (i := 498) (by decide +kernel), List.mem_of_getElem? (i := 499) (by decide +kernel)⟩
theorem lw_p4 : lw_okq (⟨"VeneerDesk$Reader", "nextByte", "()I"⟩, 7) := ⟨⟨by decide +kernel, by decide +kernel⟩, List.mem_of_getElem? (i := 41) (by decide +kernel), List.mem_of_getElem? (i := 502) (by decide +kernel), List.mem_of_getElem? (i := 503) (by decide +kernel)⟩
theorem lw_p5 : lw_okq (⟨"VeneerDesk$Reader", "refuse", "(II)Z"⟩, 7) := ⟨⟨by decide +kernel, by decide +kernel⟩, List.mem_of_getElem? (i := 41) (by decide +kernel), List.mem_of_getElem? (i := 514) (by decide +kernel), List.mem_of_getElem? (i := 515) (by decide +kernel)⟩
theorem lw_p6 : lw_okq (⟨"VeneerDesk$Reader", "drawPiece", "(III)Z"⟩, 7) := ⟨⟨by decide +kernel, by decide +kernel⟩, List.mem_of_getElem? (i := 41) (by decide +kernel), List.mem_of_getElem? (i := 518) (by decide +kernel), List.mem_of_getElem? (i := 519) (by decide +kernel)⟩
theorem lw_p7 : lw_okq (⟨"VeneerDesk$Reader", "readRepeated", "(IIII)Z"⟩, 7) := ⟨⟨by decide +kernel, by decide +kernel⟩, List.mem_of_getElem? (i := 41) (by decide +kernel), List.mem_of_getElem? (i := 526) (by decide +kernel), List.mem_of_getElem? (i := 527) (by decide +kernel)⟩
theorem lw_p8 : lw_okq (⟨"VeneerDesk$Reader", "readBracket", "(III)Z"⟩, 7) := ⟨⟨by decide +kernel, by decide +kernel⟩, List.mem_of_getElem? (i := 41) (by decide +kernel), List.mem_of_getElem? (i := 539) (by decide +kernel), List.mem_of_getElem? (i := 540) (by decide +kernel)⟩
theorem lw_p9 : lw_okq (⟨"VeneerDesk$Reader", "readChanged", "(IIIZ)Z"⟩, 7) := ⟨⟨by decide +kernel, by decide +kernel⟩, List.mem_of_getElem? (i := 41) (by decide +kernel), List.mem_of_getElem? (i := 543) (by decide +kernel), List.mem_of_getElem? (i := 544) (by decide +kernel)⟩
theorem lw_p10 : lw_okq (⟨"VeneerDesk$Door", "countOffsets", "()V"⟩, 12) := ⟨⟨by decide +kernel, by decide +kernel⟩, List.mem_of_getElem? (i := 218) (by decide +kernel), List.mem_of_getElem? (i := 567) (by decide +kernel), List.mem_of_getElem? (i := 568) (by decide +kernel)⟩
theorem lw_p11 : lw_okq (⟨"VeneerDesk$Finder", "findFrom", "(LVeneerDesk$Door;LVeneerDesk$Log;I)Z"⟩, 4) := ⟨⟨by decide +kernel, by decide +kernel⟩, List.mem_of_getElem? (i := 106) (by decide +kernel), List.mem_of_getElem? (i := 677) (by decide +kernel), List.mem_of_getElem? (i := 678) (by decide +kernel)⟩
theorem lw_p12 : lw_okq (⟨"VeneerDesk$Log", "changeCuts", "(LVeneerDesk$Door;I)V"⟩, 12) := ⟨⟨by decide +kernel, by decide +kernel⟩, List.mem_of_getElem? (i := 130) (by decide +kernel), List.mem_of_getElem? (i := 720) (by decide +kernel), List.mem_of_getElem? (i := 721) (by decide +kernel)⟩
theorem lw_p13 : lw_okq (⟨"VeneerDesk$Planner", "gatherWaiting", "()Z"⟩, 7) := ⟨⟨by decide +kernel, by decide +kernel⟩, List.mem_of_getElem? (i := 298) (by decide +kernel), List.mem_of_getElem? (i := 734) (by decide +kernel), List.mem_of_getElem? (i := 735) (by decide +kernel)⟩
theorem lw_p14 : lw_okq (⟨"VeneerDesk$Planner", "tryDoor", "(II)V"⟩, 7) := ⟨⟨by decide +kernel, by decide +kernel⟩, List.mem_of_getElem? (i := 298) (by decide +kernel), List.mem_of_getElem? (i := 739) (by decide +kernel), List.mem_of_getElem? (i := 740) (by decide +kernel)⟩
theorem lw_p15 : lw_okq (⟨"VeneerDeskModel", "goes", "(II)V"⟩, 67) := ⟨⟨by decide +kernel, by decide +kernel⟩, List.mem_of_getElem? (i := 768) (by decide +kernel), List.mem_of_getElem? (i := 983) (by decide +kernel), List.mem_of_getElem? (i := 984) (by decide +kernel)⟩
def lw_privs_1 : List (MethodName × Nat) := [(⟨"VeneerDesk$Log", "markFlaw", "(LVeneerDesk$Flaw;)V"⟩, 12), (⟨"VeneerDesk$Reader", "readRow", "(III)Z"⟩, 7), (⟨"VeneerDesk$Reader", "readColumn", "(III)Z"⟩, 7), (⟨"VeneerDesk$Reader", "readPart", "(III)Z"⟩, 7), (⟨"VeneerDesk$Reader", "nextByte", "()I"⟩, 7), (⟨"VeneerDesk$Reader", "refuse", "(II)Z"⟩, 7), (⟨"VeneerDesk$Reader", "drawPiece", "(III)Z"⟩, 7), (⟨"VeneerDesk$Reader", "readRepeated", "(IIII)Z"⟩, 7), (⟨"VeneerDesk$Reader", "readBracket", "(III)Z"⟩, 7), (⟨"VeneerDesk$Reader", "readChanged", "(IIIZ)Z"⟩, 7), (⟨"VeneerDesk$Door", "countOffsets", "()V"⟩, 12), (⟨"VeneerDesk$Finder", "findFrom", "(LVeneerDesk$Door;LVeneerDesk$Log;I)Z"⟩, 4), (⟨"VeneerDesk$Log", "changeCuts", "(LVeneerDesk$Door;I)V"⟩, 12), (⟨"VeneerDesk$Planner", "gatherWaiting", "()Z"⟩, 7), (⟨"VeneerDesk$Planner", "tryDoor", "(II)V"⟩, 7), (⟨"VeneerDeskModel", "goes", "(II)V"⟩, 67)]
theorem lw_r1 : ∀ q ∈ lw_privs_1, lw_okq q := List.forall_mem_cons.mpr ⟨lw_p0, List.forall_mem_cons.mpr ⟨lw_p1, List.forall_mem_cons.mpr ⟨lw_p2, List.forall_mem_cons.mpr ⟨lw_p3, List.forall_mem_cons.mpr ⟨lw_p4, List.forall_mem_cons.mpr ⟨lw_p5, List.forall_mem_cons.mpr ⟨lw_p6, List.forall_mem_cons.mpr ⟨lw_p7, List.forall_mem_cons.mpr ⟨lw_p8, List.forall_mem_cons.mpr ⟨lw_p9, List.forall_mem_cons.mpr ⟨lw_p10, List.forall_mem_cons.mpr ⟨lw_p11, List.forall_mem_cons.mpr ⟨lw_p12, List.forall_mem_cons.mpr ⟨lw_p13, List.forall_mem_cons.mpr ⟨lw_p14, List.forall_mem_cons.mpr ⟨lw_p15, fun _ h => absurd h List.not_mem_nil⟩⟩⟩⟩⟩⟩⟩⟩⟩⟩⟩⟩⟩⟩⟩⟩
theorem lw_p16 : lw_okq (⟨"VeneerDeskModel", "isLog", "(I)Z"⟩, 67) := ⟨⟨by decide +kernel, by decide +kernel⟩, List.mem_of_getElem? (i := 768) (by decide +kernel), List.mem_of_getElem? (i := 991) (by decide +kernel), List.mem_of_getElem? (i := 992) (by decide +kernel)⟩
theorem lw_p17 : lw_okq (⟨"VeneerDeskModel", "isLeaf", "(II)Z"⟩, 67) := ⟨⟨by decide +kernel, by decide +kernel⟩, List.mem_of_getElem? (i := 768) (by decide +kernel), List.mem_of_getElem? (i := 999) (by decide +kernel), List.mem_of_getElem? (i := 1000) (by decide +kernel)⟩
theorem lw_p18 : lw_okq (⟨"VeneerDeskModel", "widthOf", "(II)I"⟩, 67) := ⟨⟨by decide +kernel, by decide +kernel⟩, List.mem_of_getElem? (i := 768) (by decide +kernel), List.mem_of_getElem? (i := 1011) (by decide +kernel), List.mem_of_getElem? (i := 1012) (by decide +kernel)⟩
theorem lw_p19 : lw_okq (⟨"VeneerDeskModel", "toneOf", "(II)I"⟩, 67) := ⟨⟨by decide +kernel, by decide +kernel⟩, List.mem_of_getElem? (i := 768) (by decide +kernel), List.mem_of_getElem? (i := 1015) (by decide +kernel), List.mem_of_getElem? (i := 1016) (by decide +kernel)⟩
theorem lw_p20 : lw_okq (⟨"VeneerDeskModel", "isFlawed", "(IIIIII)Z"⟩, 67) := ⟨⟨by decide +kernel, by decide +kernel⟩, List.mem_of_getElem? (i := 768) (by decide +kernel), List.mem_of_getElem? (i := 1019) (by decide +kernel), List.mem_of_getElem? (i := 1020) (by decide +kernel)⟩
theorem lw_p21 : lw_okq (⟨"VeneerDeskModel", "isWithin", "(IIJJII)Z"⟩, 67) := ⟨⟨by decide +kernel, by decide +kernel⟩, List.mem_of_getElem? (i := 768) (by decide +kernel), List.mem_of_getElem? (i := 1030) (by decide +kernel), List.mem_of_getElem? (i := 1031) (by decide +kernel)⟩
theorem lw_p22 : lw_okq (⟨"VeneerDeskModel", "flawIn", "(IIIIII)I"⟩, 67) := ⟨⟨by decide +kernel, by decide +kernel⟩, List.mem_of_getElem? (i := 768) (by decide +kernel), List.mem_of_getElem? (i := 1034) (by decide +kernel), List.mem_of_getElem? (i := 1035) (by decide +kernel)⟩
theorem lw_p23 : lw_okq (⟨"VeneerDeskModel", "draws", "()V"⟩, 67) := ⟨⟨by decide +kernel, by decide +kernel⟩, List.mem_of_getElem? (i := 768) (by decide +kernel), List.mem_of_getElem? (i := 1050) (by decide +kernel), List.mem_of_getElem? (i := 1051) (by decide +kernel)⟩
theorem lw_p24 : lw_okq (⟨"VeneerDeskModel", "begins", "()V"⟩, 67) := ⟨⟨by decide +kernel, by decide +kernel⟩, List.mem_of_getElem? (i := 768) (by decide +kernel), List.mem_of_getElem? (i := 1054) (by decide +kernel), List.mem_of_getElem? (i := 1055) (by decide +kernel)⟩
theorem lw_p25 : lw_okq (⟨"VeneerDeskModel", "parts", "()Z"⟩, 67) := ⟨⟨by decide +kernel, by decide +kernel⟩, List.mem_of_getElem? (i := 768) (by decide +kernel), List.mem_of_getElem? (i := 1058) (by decide +kernel), List.mem_of_getElem? (i := 1059) (by decide +kernel)⟩
theorem lw_p26 : lw_okq (⟨"VeneerDeskModel", "next", "()I"⟩, 67) := ⟨⟨by decide +kernel, by decide +kernel⟩, List.mem_of_getElem? (i := 768) (by decide +kernel), List.mem_of_getElem? (i := 1062) (by decide +kernel), List.mem_of_getElem? (i := 1063) (by decide +kernel)⟩
theorem lw_p27 : lw_okq (⟨"VeneerDeskModel", "opens", "(IIII)V"⟩, 67) := ⟨⟨by decide +kernel, by decide +kernel⟩, List.mem_of_getElem? (i := 768) (by decide +kernel), List.mem_of_getElem? (i := 1066) (by decide +kernel), List.mem_of_getElem? (i := 1067) (by decide +kernel)⟩
theorem lw_p28 : lw_okq (⟨"VeneerDeskModel", "fail", "(II)V"⟩, 67) := ⟨⟨by decide +kernel, by decide +kernel⟩, List.mem_of_getElem? (i := 768) (by decide +kernel), List.mem_of_getElem? (i := 1070) (by decide +kernel), List.mem_of_getElem? (i := 1071) (by decide +kernel)⟩
theorem lw_p29 : lw_okq (⟨"VeneerDeskModel", "comes", "()V"⟩, 67) := ⟨⟨by decide +kernel, by decide +kernel⟩, List.mem_of_getElem? (i := 768) (by decide +kernel), List.mem_of_getElem? (i := 1074) (by decide +kernel), List.mem_of_getElem? (i := 1075) (by decide +kernel)⟩
theorem lw_p30 : lw_okq (⟨"VeneerDeskModel", "repeats", "(II)V"⟩, 67) := ⟨⟨by decide +kernel, by decide +kernel⟩, List.mem_of_getElem? (i := 768) (by decide +kernel), List.mem_of_getElem? (i := 1078) (by decide +kernel), List.mem_of_getElem? (i := 1079) (by decide +kernel)⟩
theorem lw_p31 : lw_okq (⟨"VeneerDeskModel", "turns", "(ZZ)V"⟩, 67) := ⟨⟨by decide +kernel, by decide +kernel⟩, List.mem_of_getElem? (i := 768) (by decide +kernel), List.mem_of_getElem? (i := 1082) (by decide +kernel), List.mem_of_getElem? (i := 1083) (by decide +kernel)⟩
def lw_privs_2 : List (MethodName × Nat) := [(⟨"VeneerDeskModel", "isLog", "(I)Z"⟩, 67), (⟨"VeneerDeskModel", "isLeaf", "(II)Z"⟩, 67), (⟨"VeneerDeskModel", "widthOf", "(II)I"⟩, 67), (⟨"VeneerDeskModel", "toneOf", "(II)I"⟩, 67), (⟨"VeneerDeskModel", "isFlawed", "(IIIIII)Z"⟩, 67), (⟨"VeneerDeskModel", "isWithin", "(IIJJII)Z"⟩, 67), (⟨"VeneerDeskModel", "flawIn", "(IIIIII)I"⟩, 67), (⟨"VeneerDeskModel", "draws", "()V"⟩, 67), (⟨"VeneerDeskModel", "begins", "()V"⟩, 67), (⟨"VeneerDeskModel", "parts", "()Z"⟩, 67), (⟨"VeneerDeskModel", "next", "()I"⟩, 67), (⟨"VeneerDeskModel", "opens", "(IIII)V"⟩, 67), (⟨"VeneerDeskModel", "fail", "(II)V"⟩, 67), (⟨"VeneerDeskModel", "comes", "()V"⟩, 67), (⟨"VeneerDeskModel", "repeats", "(II)V"⟩, 67), (⟨"VeneerDeskModel", "turns", "(ZZ)V"⟩, 67)]
theorem lw_r2 : ∀ q ∈ lw_privs_2, lw_okq q := List.forall_mem_cons.mpr ⟨lw_p16, List.forall_mem_cons.mpr ⟨lw_p17, List.forall_mem_cons.mpr ⟨lw_p18, List.forall_mem_cons.mpr ⟨lw_p19, List.forall_mem_cons.mpr ⟨lw_p20, List.forall_mem_cons.mpr ⟨lw_p21, List.forall_mem_cons.mpr ⟨lw_p22, List.forall_mem_cons.mpr ⟨lw_p23, List.forall_mem_cons.mpr ⟨lw_p24, List.forall_mem_cons.mpr ⟨lw_p25, List.forall_mem_cons.mpr ⟨lw_p26, List.forall_mem_cons.mpr ⟨lw_p27, List.forall_mem_cons.mpr ⟨lw_p28, List.forall_mem_cons.mpr ⟨lw_p29, List.forall_mem_cons.mpr ⟨lw_p30, List.forall_mem_cons.mpr ⟨lw_p31, fun _ h => absurd h List.not_mem_nil⟩⟩⟩⟩⟩⟩⟩⟩⟩⟩⟩⟩⟩⟩⟩⟩
theorem lw_p32 : lw_okq (⟨"VeneerDeskModel", "ends", "()V"⟩, 67) := ⟨⟨by decide +kernel, by decide +kernel⟩, List.mem_of_getElem? (i := 768) (by decide +kernel), List.mem_of_getElem? (i := 1086) (by decide +kernel), List.mem_of_getElem? (i := 1087) (by decide +kernel)⟩
theorem lw_p33 : lw_okq (⟨"VeneerDeskModel", "rowIsPart", "()V"⟩, 67) := ⟨⟨by decide +kernel, by decide +kernel⟩, List.mem_of_getElem? (i := 768) (by decide +kernel), List.mem_of_getElem? (i := 1090) (by decide +kernel), List.mem_of_getElem? (i := 1091) (by decide +kernel)⟩
theorem lw_p34 : lw_okq (⟨"VeneerDeskModel", "isDoor", "(I)Z"⟩, 67) := ⟨⟨by decide +kernel, by decide +kernel⟩, List.mem_of_getElem? (i := 768) (by decide +kernel), List.mem_of_getElem? (i := 1102) (by decide +kernel), List.mem_of_getElem? (i := 1103) (by decide +kernel)⟩
theorem lw_p35 : lw_okq (⟨"VeneerDeskModel", "pieceOf", "(III)I"⟩, 67) := ⟨⟨by decide +kernel, by decide +kernel⟩, List.mem_of_getElem? (i := 768) (by decide +kernel), List.mem_of_getElem? (i := 1106) (by decide +kernel), List.mem_of_getElem? (i := 1107) (by decide +kernel)⟩
theorem lw_p36 : lw_okq (⟨"VeneerDeskModel", "greatest", "(I)I"⟩, 67) := ⟨⟨by decide +kernel, by decide +kernel⟩, List.mem_of_getElem? (i := 768) (by decide +kernel), List.mem_of_getElem? (i := 1117) (by decide +kernel), List.mem_of_getElem? (i := 1118) (by decide +kernel)⟩
theorem lw_p37 : lw_okq (⟨"VeneerDeskModel", "joints", "(II)I"⟩, 67) := ⟨⟨by decide +kernel, by decide +kernel⟩, List.mem_of_getElem? (i := 768) (by decide +kernel), List.mem_of_getElem? (i := 1121) (by decide +kernel), List.mem_of_getElem? (i := 1122) (by decide +kernel)⟩
theorem lw_p38 : lw_okq (⟨"VeneerDeskModel", "isCut", "(IIIIII)Z"⟩, 67) := ⟨⟨by decide +kernel, by decide +kernel⟩, List.mem_of_getElem? (i := 768) (by decide +kernel), List.mem_of_getElem? (i := 1138) (by decide +kernel), List.mem_of_getElem? (i := 1139) (by decide +kernel)⟩
theorem lw_p39 : lw_okq (⟨"VeneerDeskModel", "hasTones", "(III)Z"⟩, 67) := ⟨⟨by decide +kernel, by decide +kernel⟩, List.mem_of_getElem? (i := 768) (by decide +kernel), List.mem_of_getElem? (i := 1142) (by decide +kernel), List.mem_of_getElem? (i := 1143) (by decide +kernel)⟩
theorem lw_p40 : lw_okq (⟨"VeneerDeskModel", "places", "(II)Z"⟩, 67) := ⟨⟨by decide +kernel, by decide +kernel⟩, List.mem_of_getElem? (i := 768) (by decide +kernel), List.mem_of_getElem? (i := 1150) (by decide +kernel), List.mem_of_getElem? (i := 1151) (by decide +kernel)⟩
theorem lw_p41 : lw_okq (⟨"VeneerDeskModel", "counts", "(I)V"⟩, 67) := ⟨⟨by decide +kernel, by decide +kernel⟩, List.mem_of_getElem? (i := 768) (by decide +kernel), List.mem_of_getElem? (i := 1154) (by decide +kernel), List.mem_of_getElem? (i := 1155) (by decide +kernel)⟩
theorem lw_p42 : lw_okq (⟨"VeneerDeskModel", "hasLeaves", "(III)Z"⟩, 67) := ⟨⟨by decide +kernel, by decide +kernel⟩, List.mem_of_getElem? (i := 768) (by decide +kernel), List.mem_of_getElem? (i := 1158) (by decide +kernel), List.mem_of_getElem? (i := 1159) (by decide +kernel)⟩
theorem lw_p43 : lw_okq (⟨"VeneerDeskModel", "fits", "(IIIII)Z"⟩, 67) := ⟨⟨by decide +kernel, by decide +kernel⟩, List.mem_of_getElem? (i := 768) (by decide +kernel), List.mem_of_getElem? (i := 1162) (by decide +kernel), List.mem_of_getElem? (i := 1163) (by decide +kernel)⟩
theorem lw_p44 : lw_okq (⟨"VeneerDeskModel", "cuts", "(II)V"⟩, 67) := ⟨⟨by decide +kernel, by decide +kernel⟩, List.mem_of_getElem? (i := 768) (by decide +kernel), List.mem_of_getElem? (i := 1170) (by decide +kernel), List.mem_of_getElem? (i := 1171) (by decide +kernel)⟩
theorem lw_p45 : lw_okq (⟨"VeneerDeskModel", "logsOf", "(I)I"⟩, 67) := ⟨⟨by decide +kernel, by decide +kernel⟩, List.mem_of_getElem? (i := 768) (by decide +kernel), List.mem_of_getElem? (i := 1178) (by decide +kernel), List.mem_of_getElem? (i := 1179) (by decide +kernel)⟩
theorem lw_p46 : lw_okq (⟨"VeneerDeskModel", "isPlaced", "(I)Z"⟩, 67) := ⟨⟨by decide +kernel, by decide +kernel⟩, List.mem_of_getElem? (i := 768) (by decide +kernel), List.mem_of_getElem? (i := 1182) (by decide +kernel), List.mem_of_getElem? (i := 1183) (by decide +kernel)⟩
def lw_privs_3 : List (MethodName × Nat) := [(⟨"VeneerDeskModel", "ends", "()V"⟩, 67), (⟨"VeneerDeskModel", "rowIsPart", "()V"⟩, 67), (⟨"VeneerDeskModel", "isDoor", "(I)Z"⟩, 67), (⟨"VeneerDeskModel", "pieceOf", "(III)I"⟩, 67), (⟨"VeneerDeskModel", "greatest", "(I)I"⟩, 67), (⟨"VeneerDeskModel", "joints", "(II)I"⟩, 67), (⟨"VeneerDeskModel", "isCut", "(IIIIII)Z"⟩, 67), (⟨"VeneerDeskModel", "hasTones", "(III)Z"⟩, 67), (⟨"VeneerDeskModel", "places", "(II)Z"⟩, 67), (⟨"VeneerDeskModel", "counts", "(I)V"⟩, 67), (⟨"VeneerDeskModel", "hasLeaves", "(III)Z"⟩, 67), (⟨"VeneerDeskModel", "fits", "(IIIII)Z"⟩, 67), (⟨"VeneerDeskModel", "cuts", "(II)V"⟩, 67), (⟨"VeneerDeskModel", "logsOf", "(I)I"⟩, 67), (⟨"VeneerDeskModel", "isPlaced", "(I)Z"⟩, 67)]
theorem lw_r3 : ∀ q ∈ lw_privs_3, lw_okq q := List.forall_mem_cons.mpr ⟨lw_p32, List.forall_mem_cons.mpr ⟨lw_p33, List.forall_mem_cons.mpr ⟨lw_p34, List.forall_mem_cons.mpr ⟨lw_p35, List.forall_mem_cons.mpr ⟨lw_p36, List.forall_mem_cons.mpr ⟨lw_p37, List.forall_mem_cons.mpr ⟨lw_p38, List.forall_mem_cons.mpr ⟨lw_p39, List.forall_mem_cons.mpr ⟨lw_p40, List.forall_mem_cons.mpr ⟨lw_p41, List.forall_mem_cons.mpr ⟨lw_p42, List.forall_mem_cons.mpr ⟨lw_p43, List.forall_mem_cons.mpr ⟨lw_p44, List.forall_mem_cons.mpr ⟨lw_p45, List.forall_mem_cons.mpr ⟨lw_p46, fun _ h => absurd h List.not_mem_nil⟩⟩⟩⟩⟩⟩⟩⟩⟩⟩⟩⟩⟩⟩⟩
def lw_privs : List (MethodName × Nat) := lw_privs_1 ++ (lw_privs_2 ++ (lw_privs_3))
def lw_tbl : List Cond := k2_sels lw_privs ++ tables_1
theorem lw_privs_ok : ∀ q ∈ lw_privs, lw_okq q := by
  show ∀ q ∈ lw_privs_1 ++ (lw_privs_2 ++ (lw_privs_3)), lw_okq q
  exact List.forall_mem_append.mpr ⟨lw_r1, List.forall_mem_append.mpr ⟨lw_r2, lw_r3⟩⟩
def RX0 : String := "VeneerDesk$Door"
def TX0 : u_T := fun k => match k with
  | 0 => ("VeneerDesk$Door", "drawing", "LVeneerDesk$Drawing;", true)
  | 1 => ("VeneerDesk$Door", "stacked", "[I", true)
  | 2 => ("VeneerDesk$Door", "there", "Z", false)
  | 3 => ("VeneerDesk$Door", "wide", "I", false)
  | 4 => ("VeneerDesk$Door", "high", "I", false)
  | 5 => ("VeneerDesk$Door", "tones", "I", false)
  | 6 => ("VeneerDesk$Door", "leastOffset", "I", false)
  | 7 => ("VeneerDesk$Door", "greatestOffset", "I", false)
  | 8 => ("VeneerDesk$Door", "madeOf", "I", false)
  | 9 => ("VeneerDesk$Door", "leaf", "I", false)
  | 10 => ("VeneerDesk$Door", "height", "I", false)
  | _ => ("VeneerDesk$Door", "x", "I", false)
def tyX0 : Nat → FieldType := fun k => match k with
  | 0 => .object "VeneerDesk$Drawing"
  | 1 => .array .int
  | 2 => .boolean
  | 3 => .int
  | 4 => .int
  | 5 => .int
  | 6 => .int
  | 7 => .int
  | 8 => .int
  | 9 => .int
  | 10 => .int
  | _ => .int
abbrev wsX00 : List Cond := u_ws RX0 TX0 12
theorem nmX0 : ∀ a, a < 12 → ∀ b, b < 12 → a ≠ b → (TX0 a).2.1 ≠ (TX0 b).2.1 := by decide +kernel
theorem tyX0_ok : ∀ k, k < 12 → parseFieldDescriptor (TX0 k).2.2.1 = some (tyX0 k) := by decide +kernel
abbrev cX0_init : ByteArray := prog_2_method_1_code
def yX0_init : MethodName := ⟨RX0, "<init>", "()V"⟩
abbrev cX0_begin : ByteArray := prog_2_method_2_code
def yX0_begin : MethodName := ⟨RX0, "begin", "(LVeneerDesk$Drawing;III)V"⟩
abbrev cX0_countOffsets : ByteArray := prog_2_method_3_code
def yX0_countOffsets : MethodName := ⟨RX0, "countOffsets", "()V"⟩
abbrev cX0_stackHigh : ByteArray := prog_2_method_4_code
def yX0_stackHigh : MethodName := ⟨RX0, "stackHigh", "(I)I"⟩
abbrev cX0_isMade : ByteArray := prog_2_method_5_code
def yX0_isMade : MethodName := ⟨RX0, "isMade", "()Z"⟩
abbrev cX0_madeAt : ByteArray := prog_2_method_6_code
def yX0_madeAt : MethodName := ⟨RX0, "madeAt", "(ILVeneerDesk$Finder;)V"⟩
abbrev cX0_notMade : ByteArray := prog_2_method_7_code
def yX0_notMade : MethodName := ⟨RX0, "notMade", "()V"⟩
def RX1 : String := "VeneerDesk$Drawing"
def TX1 : u_T := fun k => match k with
  | 0 => ("VeneerDesk$Drawing", "cells", "[I", true)
  | 1 => ("VeneerDesk$Drawing", "wide", "I", false)
  | _ => ("VeneerDesk$Drawing", "high", "I", false)
def tyX1 : Nat → FieldType := fun k => match k with
  | 0 => .array .int
  | 1 => .int
  | _ => .int
abbrev wsX10 : List Cond := u_ws RX1 TX1 3
theorem nmX1 : ∀ a, a < 3 → ∀ b, b < 3 → a ≠ b → (TX1 a).2.1 ≠ (TX1 b).2.1 := by decide +kernel
theorem tyX1_ok : ∀ k, k < 3 → parseFieldDescriptor (TX1 k).2.2.1 = some (tyX1 k) := by decide +kernel
abbrev cX1_init : ByteArray := prog_3_method_1_code
def yX1_init : MethodName := ⟨RX1, "<init>", "()V"⟩
abbrev cX1_count : ByteArray := prog_3_method_2_code
def yX1_count : MethodName := ⟨RX1, "count", "()I"⟩
abbrev cX1_has : ByteArray := prog_3_method_3_code
def yX1_has : MethodName := ⟨RX1, "has", "(II)Z"⟩
abbrev cX1_cellAt : ByteArray := prog_3_method_4_code
def yX1_cellAt : MethodName := ⟨RX1, "cellAt", "(II)I"⟩
abbrev cX1_setCell : ByteArray := prog_3_method_5_code
def yX1_setCell : MethodName := ⟨RX1, "setCell", "(III)V"⟩
abbrev cX1_offsetAt : ByteArray := prog_3_method_6_code
def yX1_offsetAt : MethodName := ⟨RX1, "offsetAt", "(II)I"⟩
abbrev cX1_copyFrom : ByteArray := prog_3_method_7_code
def yX1_copyFrom : MethodName := ⟨RX1, "copyFrom", "(LVeneerDesk$Drawing;)V"⟩
abbrev cX1_changeSides : ByteArray := prog_3_method_8_code
def yX1_changeSides : MethodName := ⟨RX1, "changeSides", "(IIII)V"⟩
abbrev cX1_changeEnds : ByteArray := prog_3_method_9_code
def yX1_changeEnds : MethodName := ⟨RX1, "changeEnds", "(IIII)V"⟩
abbrev cX1_repeat : ByteArray := prog_3_method_10_code
def yX1_repeat : MethodName := ⟨RX1, "repeat", "(IIIII)V"⟩
abbrev cX1_jointAt : ByteArray := prog_3_method_11_code
def yX1_jointAt : MethodName := ⟨RX1, "jointAt", "(IIZ)I"⟩
abbrev cX1_jointBeside : ByteArray := prog_3_method_12_code
def yX1_jointBeside : MethodName := ⟨RX1, "jointBeside", "(II)I"⟩
abbrev cX1_jointBelow : ByteArray := prog_3_method_13_code
def yX1_jointBelow : MethodName := ⟨RX1, "jointBelow", "(II)I"⟩
abbrev cX1_differ : ByteArray := prog_3_method_14_code
def yX1_differ : MethodName := ⟨RX1, "differ", "(III)Z"⟩
abbrev cX1_countJoints : ByteArray := prog_3_method_15_code
def yX1_countJoints : MethodName := ⟨RX1, "countJoints", "(I)I"⟩
abbrev cX1_isLike : ByteArray := prog_3_method_16_code
def yX1_isLike : MethodName := ⟨RX1, "isLike", "(LVeneerDesk$Drawing;ZZ)Z"⟩
def RX2 : String := "VeneerDesk$Finder"
def TX2 : u_T := fun k => match k with
  | 0 => ("VeneerDesk$Finder", "leaf", "I", false)
  | 1 => ("VeneerDesk$Finder", "height", "I", false)
  | 2 => ("VeneerDesk$Finder", "x", "I", false)
  | _ => ("VeneerDesk$Finder", "met", "[I", true)
def tyX2 : Nat → FieldType := fun k => match k with
  | 0 => .int
  | 1 => .int
  | 2 => .int
  | _ => .array .int
abbrev wsX20 : List Cond := u_ws RX2 TX2 4
theorem nmX2 : ∀ a, a < 4 → ∀ b, b < 4 → a ≠ b → (TX2 a).2.1 ≠ (TX2 b).2.1 := by decide +kernel
theorem tyX2_ok : ∀ k, k < 4 → parseFieldDescriptor (TX2 k).2.2.1 = some (tyX2 k) := by decide +kernel
abbrev cX2_init : ByteArray := prog_4_method_1_code
def yX2_init : MethodName := ⟨RX2, "<init>", "()V"⟩
abbrev cX2_reason : ByteArray := prog_4_method_2_code
def yX2_reason : MethodName := ⟨RX2, "reason", "(LVeneerDesk$Door;LVeneerDesk$Log;III)I"⟩
abbrev cX2_reasonOfCut : ByteArray := prog_4_method_3_code
def yX2_reasonOfCut : MethodName := ⟨RX2, "reasonOfCut", "(LVeneerDesk$Door;LVeneerDesk$Log;JJI)I"⟩
abbrev cX2_areTonesApart : ByteArray := prog_4_method_4_code
def yX2_areTonesApart : MethodName := ⟨RX2, "areTonesApart", "(LVeneerDesk$Door;LVeneerDesk$Log;)Z"⟩
abbrev cX2_find : ByteArray := prog_4_method_5_code
def yX2_find : MethodName := ⟨RX2, "find", "(LVeneerDesk$Door;LVeneerDesk$Log;)Z"⟩
abbrev cX2_findFrom : ByteArray := prog_4_method_6_code
def yX2_findFrom : MethodName := ⟨RX2, "findFrom", "(LVeneerDesk$Door;LVeneerDesk$Log;I)Z"⟩
abbrev cX2_takenColumns : ByteArray := prog_4_method_7_code
def yX2_takenColumns : MethodName := ⟨RX2, "takenColumns", "(LVeneerDesk$Door;LVeneerDesk$Log;II)J"⟩
abbrev cX2_firstFree : ByteArray := prog_4_method_8_code
def yX2_firstFree : MethodName := ⟨RX2, "firstFree", "(JII)I"⟩
def RX3 : String := "VeneerDesk$Flaw"
def TX3 : u_T := fun k => match k with
  | 0 => ("VeneerDesk$Flaw", "first", "I", false)
  | 1 => ("VeneerDesk$Flaw", "last", "I", false)
  | 2 => ("VeneerDesk$Flaw", "x", "I", false)
  | 3 => ("VeneerDesk$Flaw", "y", "I", false)
  | 4 => ("VeneerDesk$Flaw", "wide", "I", false)
  | 5 => ("VeneerDesk$Flaw", "high", "I", false)
  | 6 => ("VeneerDesk$Flaw", "dx", "I", false)
  | _ => ("VeneerDesk$Flaw", "dy", "I", false)
def tyX3 : Nat → FieldType := fun k => match k with
  | 0 => .int
  | 1 => .int
  | 2 => .int
  | 3 => .int
  | 4 => .int
  | 5 => .int
  | 6 => .int
  | _ => .int
abbrev wsX30 : List Cond := u_ws RX3 TX3 8
theorem nmX3 : ∀ a, a < 8 → ∀ b, b < 8 → a ≠ b → (TX3 a).2.1 ≠ (TX3 b).2.1 := by decide +kernel
theorem tyX3_ok : ∀ k, k < 8 → parseFieldDescriptor (TX3 k).2.2.1 = some (tyX3 k) := by decide +kernel
abbrev cX3_init : ByteArray := prog_5_method_1_code
def yX3_init : MethodName := ⟨RX3, "<init>", "()V"⟩
abbrev cX3_begin : ByteArray := prog_5_method_2_code
def yX3_begin : MethodName := ⟨RX3, "begin", "(IIIII)V"⟩
abbrev cX3_driftTo : ByteArray := prog_5_method_3_code
def yX3_driftTo : MethodName := ⟨RX3, "driftTo", "(III)V"⟩
abbrev cX3_leftIn : ByteArray := prog_5_method_4_code
def yX3_leftIn : MethodName := ⟨RX3, "leftIn", "(I)I"⟩
abbrev cX3_topIn : ByteArray := prog_5_method_5_code
def yX3_topIn : MethodName := ⟨RX3, "topIn", "(I)I"⟩
abbrev cX3_overlaps : ByteArray := prog_5_method_6_code
def yX3_overlaps : MethodName := ⟨RX3, "overlaps", "(IIIII)Z"⟩
def RX4 : String := "VeneerDesk$Log"
def TX4 : u_T := fun k => match k with
  | 0 => ("VeneerDesk$Log", "there", "Z", false)
  | 1 => ("VeneerDesk$Log", "leaves", "I", false)
  | 2 => ("VeneerDesk$Log", "length", "I", false)
  | 3 => ("VeneerDesk$Log", "tone", "I", false)
  | 4 => ("VeneerDesk$Log", "darkens", "I", false)
  | 5 => ("VeneerDesk$Log", "cutCounts", "[I", true)
  | 6 => ("VeneerDesk$Log", "wide", "I", false)
  | 7 => ("VeneerDesk$Log", "grows", "I", false)
  | 8 => ("VeneerDesk$Log", "flawCount", "I", false)
  | 9 => ("VeneerDesk$Log", "flaws", "[LVeneerDesk$Flaw;", true)
  | 10 => ("VeneerDesk$Log", "flawRows", "[J", true)
  | _ => ("VeneerDesk$Log", "cutRows", "[J", true)
def tyX4 : Nat → FieldType := fun k => match k with
  | 0 => .boolean
  | 1 => .int
  | 2 => .int
  | 3 => .int
  | 4 => .int
  | 5 => .array .int
  | 6 => .int
  | 7 => .int
  | 8 => .int
  | 9 => .array (.object "VeneerDesk$Flaw")
  | 10 => .array .long
  | _ => .array .long
abbrev wsX40 : List Cond := u_ws RX4 TX4 12
theorem nmX4 : ∀ a, a < 12 → ∀ b, b < 12 → a ≠ b → (TX4 a).2.1 ≠ (TX4 b).2.1 := by decide +kernel
theorem tyX4_ok : ∀ k, k < 12 → parseFieldDescriptor (TX4 k).2.2.1 = some (tyX4 k) := by decide +kernel
abbrev cX4_init : ByteArray := prog_6_method_1_code
def yX4_init : MethodName := ⟨RX4, "<init>", "()V"⟩
abbrev cX4_begin : ByteArray := prog_6_method_2_code
def yX4_begin : MethodName := ⟨RX4, "begin", "(IIII)V"⟩
abbrev cX4_hasLeaf : ByteArray := prog_6_method_3_code
def yX4_hasLeaf : MethodName := ⟨RX4, "hasLeaf", "(J)Z"⟩
abbrev cX4_widthOf : ByteArray := prog_6_method_4_code
def yX4_widthOf : MethodName := ⟨RX4, "widthOf", "(I)I"⟩
abbrev cX4_toneOf : ByteArray := prog_6_method_5_code
def yX4_toneOf : MethodName := ⟨RX4, "toneOf", "(I)I"⟩
abbrev cX4_holds : ByteArray := prog_6_method_6_code
def yX4_holds : MethodName := ⟨RX4, "holds", "(IIJII)Z"⟩
abbrev cX4_addFlaw : ByteArray := prog_6_method_7_code
def yX4_addFlaw : MethodName := ⟨RX4, "addFlaw", "(IIIII)I"⟩
abbrev cX4_driftLatest : ByteArray := prog_6_method_8_code
def yX4_driftLatest : MethodName := ⟨RX4, "driftLatest", "(III)Z"⟩
abbrev cX4_markFlaw : ByteArray := prog_6_method_9_code
def yX4_markFlaw : MethodName := ⟨RX4, "markFlaw", "(LVeneerDesk$Flaw;)V"⟩
abbrev cX4_countFlawsIn : ByteArray := prog_6_method_10_code
def yX4_countFlawsIn : MethodName := ⟨RX4, "countFlawsIn", "(I)I"⟩
abbrev cX4_leastFlawIn : ByteArray := prog_6_method_11_code
def yX4_leastFlawIn : MethodName := ⟨RX4, "leastFlawIn", "(IIIII)I"⟩
abbrev cX4_isFlawed : ByteArray := prog_6_method_12_code
def yX4_isFlawed : MethodName := ⟨RX4, "isFlawed", "(IIIII)Z"⟩
abbrev cX4_isCut : ByteArray := prog_6_method_13_code
def yX4_isCut : MethodName := ⟨RX4, "isCut", "(IIIII)Z"⟩
abbrev cX4_meets : ByteArray := prog_6_method_14_code
def yX4_meets : MethodName := ⟨RX4, "meets", "([JIIIJ)Z"⟩
abbrev cX4_takenColumns : ByteArray := prog_6_method_15_code
def yX4_takenColumns : MethodName := ⟨RX4, "takenColumns", "(III)J"⟩
abbrev cX4_changeCuts : ByteArray := prog_6_method_16_code
def yX4_changeCuts : MethodName := ⟨RX4, "changeCuts", "(LVeneerDesk$Door;I)V"⟩
abbrev cX4_addCuts : ByteArray := prog_6_method_17_code
def yX4_addCuts : MethodName := ⟨RX4, "addCuts", "(LVeneerDesk$Door;)V"⟩
abbrev cX4_removeCuts : ByteArray := prog_6_method_18_code
def yX4_removeCuts : MethodName := ⟨RX4, "removeCuts", "(LVeneerDesk$Door;)V"⟩
abbrev cX4_mask : ByteArray := prog_6_method_19_code
def yX4_mask : MethodName := ⟨RX4, "mask", "(II)J"⟩
def RX5 : String := "VeneerDesk$Planner"
def TX5 : u_T := fun k => match k with
  | 0 => ("VeneerDesk$Planner", "told", "[I", true)
  | 1 => ("VeneerDesk$Planner", "yard", "LVeneerDesk$Yard;", true)
  | 2 => ("VeneerDesk$Planner", "waiting", "[I", true)
  | 3 => ("VeneerDesk$Planner", "tried", "[I", true)
  | 4 => ("VeneerDesk$Planner", "best", "[I", true)
  | 5 => ("VeneerDesk$Planner", "count", "I", false)
  | _ => ("VeneerDesk$Planner", "bestLogs", "I", false)
def tyX5 : Nat → FieldType := fun k => match k with
  | 0 => .array .int
  | 1 => .object "VeneerDesk$Yard"
  | 2 => .array .int
  | 3 => .array .int
  | 4 => .array .int
  | 5 => .int
  | _ => .int
abbrev wsX50 : List Cond := u_ws RX5 TX5 7
theorem nmX5 : ∀ a, a < 7 → ∀ b, b < 7 → a ≠ b → (TX5 a).2.1 ≠ (TX5 b).2.1 := by decide +kernel
theorem tyX5_ok : ∀ k, k < 7 → parseFieldDescriptor (TX5 k).2.2.1 = some (tyX5 k) := by decide +kernel
abbrev cX5_init : ByteArray := prog_7_method_1_code
def yX5_init : MethodName := ⟨RX5, "<init>", "(LVeneerDesk$Yard;)V"⟩
abbrev cX5_tell : ByteArray := prog_7_method_2_code
def yX5_tell : MethodName := ⟨RX5, "tell", "()I"⟩
abbrev cX5_gatherWaiting : ByteArray := prog_7_method_3_code
def yX5_gatherWaiting : MethodName := ⟨RX5, "gatherWaiting", "()Z"⟩
abbrev cX5_tryDoor : ByteArray := prog_7_method_4_code
def yX5_tryDoor : MethodName := ⟨RX5, "tryDoor", "(II)V"⟩
def RX6 : String := "VeneerDesk$Reader"
def TX6 : u_T := fun k => match k with
  | 0 => ("VeneerDesk$Reader", "drawing", "LVeneerDesk$Drawing;", true)
  | 1 => ("VeneerDesk$Reader", "faultKind", "I", false)
  | 2 => ("VeneerDesk$Reader", "faultPlace", "I", false)
  | 3 => ("VeneerDesk$Reader", "tape", "LVeneerDesk$Tape;", true)
  | 4 => ("VeneerDesk$Reader", "at", "I", false)
  | 5 => ("VeneerDesk$Reader", "wide", "I", false)
  | _ => ("VeneerDesk$Reader", "high", "I", false)
def tyX6 : Nat → FieldType := fun k => match k with
  | 0 => .object "VeneerDesk$Drawing"
  | 1 => .int
  | 2 => .int
  | 3 => .object "VeneerDesk$Tape"
  | 4 => .int
  | 5 => .int
  | _ => .int
abbrev wsX60 : List Cond := u_ws RX6 TX6 7
theorem nmX6 : ∀ a, a < 7 → ∀ b, b < 7 → a ≠ b → (TX6 a).2.1 ≠ (TX6 b).2.1 := by decide +kernel
theorem tyX6_ok : ∀ k, k < 7 → parseFieldDescriptor (TX6 k).2.2.1 = some (tyX6 k) := by decide +kernel
abbrev cX6_init : ByteArray := prog_8_method_1_code
def yX6_init : MethodName := ⟨RX6, "<init>", "(LVeneerDesk$Tape;)V"⟩
abbrev cX6_readTape : ByteArray := prog_8_method_2_code
def yX6_readTape : MethodName := ⟨RX6, "readTape", "()Z"⟩
abbrev cX6_readRow : ByteArray := prog_8_method_3_code
def yX6_readRow : MethodName := ⟨RX6, "readRow", "(III)Z"⟩
abbrev cX6_readColumn : ByteArray := prog_8_method_4_code
def yX6_readColumn : MethodName := ⟨RX6, "readColumn", "(III)Z"⟩
abbrev cX6_readPart : ByteArray := prog_8_method_5_code
def yX6_readPart : MethodName := ⟨RX6, "readPart", "(III)Z"⟩
abbrev cX6_drawPiece : ByteArray := prog_8_method_6_code
def yX6_drawPiece : MethodName := ⟨RX6, "drawPiece", "(III)Z"⟩
abbrev cX6_readBracket : ByteArray := prog_8_method_7_code
def yX6_readBracket : MethodName := ⟨RX6, "readBracket", "(III)Z"⟩
abbrev cX6_readChanged : ByteArray := prog_8_method_8_code
def yX6_readChanged : MethodName := ⟨RX6, "readChanged", "(IIIZ)Z"⟩
abbrev cX6_readRepeated : ByteArray := prog_8_method_9_code
def yX6_readRepeated : MethodName := ⟨RX6, "readRepeated", "(IIII)Z"⟩
abbrev cX6_nextByte : ByteArray := prog_8_method_10_code
def yX6_nextByte : MethodName := ⟨RX6, "nextByte", "()I"⟩
abbrev cX6_isBlank : ByteArray := prog_8_method_11_code
def yX6_isBlank : MethodName := ⟨RX6, "isBlank", "(I)Z"⟩
abbrev cX6_refuse : ByteArray := prog_8_method_12_code
def yX6_refuse : MethodName := ⟨RX6, "refuse", "(II)Z"⟩
def RX7 : String := "VeneerDesk$Tape"
def TX7 : u_T := fun k => match k with
  | 0 => ("VeneerDesk$Tape", "bytes", "[I", true)
  | _ => ("VeneerDesk$Tape", "length", "I", false)
def tyX7 : Nat → FieldType := fun k => match k with
  | 0 => .array .int
  | _ => .int
abbrev wsX70 : List Cond := u_ws RX7 TX7 2
theorem nmX7 : ∀ a, a < 2 → ∀ b, b < 2 → a ≠ b → (TX7 a).2.1 ≠ (TX7 b).2.1 := by decide +kernel
theorem tyX7_ok : ∀ k, k < 2 → parseFieldDescriptor (TX7 k).2.2.1 = some (tyX7 k) := by decide +kernel
abbrev cX7_init : ByteArray := prog_9_method_1_code
def yX7_init : MethodName := ⟨RX7, "<init>", "()V"⟩
abbrev cX7_hasRoom : ByteArray := prog_9_method_2_code
def yX7_hasRoom : MethodName := ⟨RX7, "hasRoom", "()Z"⟩
abbrev cX7_append : ByteArray := prog_9_method_3_code
def yX7_append : MethodName := ⟨RX7, "append", "(I)V"⟩
abbrev cX7_shorten : ByteArray := prog_9_method_4_code
def yX7_shorten : MethodName := ⟨RX7, "shorten", "(I)Z"⟩
abbrev cX7_byteAt : ByteArray := prog_9_method_5_code
def yX7_byteAt : MethodName := ⟨RX7, "byteAt", "(I)I"⟩
def RX8 : String := "VeneerDesk$Yard"
def TX8 : u_T := fun k => match k with
  | 0 => ("VeneerDesk$Yard", "logs", "[LVeneerDesk$Log;", true)
  | 1 => ("VeneerDesk$Yard", "doors", "[LVeneerDesk$Door;", true)
  | _ => ("VeneerDesk$Yard", "finder", "LVeneerDesk$Finder;", true)
def tyX8 : Nat → FieldType := fun k => match k with
  | 0 => .array (.object "VeneerDesk$Log")
  | 1 => .array (.object "VeneerDesk$Door")
  | _ => .object "VeneerDesk$Finder"
abbrev wsX80 : List Cond := u_ws RX8 TX8 3
theorem nmX8 : ∀ a, a < 3 → ∀ b, b < 3 → a ≠ b → (TX8 a).2.1 ≠ (TX8 b).2.1 := by decide +kernel
theorem tyX8_ok : ∀ k, k < 3 → parseFieldDescriptor (TX8 k).2.2.1 = some (tyX8 k) := by decide +kernel
abbrev cX8_init : ByteArray := prog_10_method_1_code
def yX8_init : MethodName := ⟨RX8, "<init>", "()V"⟩
abbrev cX8_logAt : ByteArray := prog_10_method_2_code
def yX8_logAt : MethodName := ⟨RX8, "logAt", "(I)LVeneerDesk$Log;"⟩
abbrev cX8_doorAt : ByteArray := prog_10_method_3_code
def yX8_doorAt : MethodName := ⟨RX8, "doorAt", "(I)LVeneerDesk$Door;"⟩
abbrev cX8_forgetMadeOf : ByteArray := prog_10_method_4_code
def yX8_forgetMadeOf : MethodName := ⟨RX8, "forgetMadeOf", "(I)V"⟩
abbrev cX8_makeIn : ByteArray := prog_10_method_5_code
def yX8_makeIn : MethodName := ⟨RX8, "makeIn", "(LVeneerDesk$Door;I)Z"⟩
abbrev cX8_takeBack : ByteArray := prog_10_method_6_code
def yX8_takeBack : MethodName := ⟨RX8, "takeBack", "(LVeneerDesk$Door;)V"⟩
def RX9 : String := "VeneerDesk"
def TX9 : u_T := fun k => match k with
  | 0 => ("VeneerDesk", "tape", "LVeneerDesk$Tape;", true)
  | 1 => ("VeneerDesk", "reader", "LVeneerDesk$Reader;", true)
  | 2 => ("VeneerDesk", "yard", "LVeneerDesk$Yard;", true)
  | _ => ("VeneerDesk", "planner", "LVeneerDesk$Planner;", true)
def tyX9 : Nat → FieldType := fun k => match k with
  | 0 => .object "VeneerDesk$Tape"
  | 1 => .object "VeneerDesk$Reader"
  | 2 => .object "VeneerDesk$Yard"
  | _ => .object "VeneerDesk$Planner"
abbrev wsX90 : List Cond := u_ws RX9 TX9 4
theorem nmX9 : ∀ a, a < 4 → ∀ b, b < 4 → a ≠ b → (TX9 a).2.1 ≠ (TX9 b).2.1 := by decide +kernel
theorem tyX9_ok : ∀ k, k < 4 → parseFieldDescriptor (TX9 k).2.2.1 = some (tyX9 k) := by decide +kernel
abbrev cX9_init : ByteArray := prog_1_method_1_code
def yX9_init : MethodName := ⟨RX9, "<init>", "()V"⟩
abbrev cX9_feed : ByteArray := prog_1_method_2_code
def yX9_feed : MethodName := ⟨RX9, "feed", "(IIIII)I"⟩
abbrev cX9_end : ByteArray := prog_1_method_3_code
def yX9_end : MethodName := ⟨RX9, "end", "(I)Z"⟩
abbrev cX9_log : ByteArray := prog_1_method_4_code
def yX9_log : MethodName := ⟨RX9, "log", "(IIIII)Z"⟩
abbrev cX9_tone : ByteArray := prog_1_method_5_code
def yX9_tone : MethodName := ⟨RX9, "tone", "(III)Z"⟩
abbrev cX9_flaw : ByteArray := prog_1_method_6_code
def yX9_flaw : MethodName := ⟨RX9, "flaw", "(IIIIII)I"⟩
abbrev cX9_drift : ByteArray := prog_1_method_7_code
def yX9_drift : MethodName := ⟨RX9, "drift", "(IIII)Z"⟩
abbrev cX9_leaf : ByteArray := prog_1_method_8_code
def yX9_leaf : MethodName := ⟨RX9, "leaf", "(III)I"⟩
abbrev cX9_hit : ByteArray := prog_1_method_9_code
def yX9_hit : MethodName := ⟨RX9, "hit", "(IIIIII)I"⟩
abbrev cX9_door : ByteArray := prog_1_method_10_code
def yX9_door : MethodName := ⟨RX9, "door", "(IIII)I"⟩
abbrev cX9_fault : ByteArray := prog_1_method_11_code
def yX9_fault : MethodName := ⟨RX9, "fault", "(I)I"⟩
abbrev cX9_of : ByteArray := prog_1_method_12_code
def yX9_of : MethodName := ⟨RX9, "of", "(II)I"⟩
abbrev cX9_piece : ByteArray := prog_1_method_13_code
def yX9_piece : MethodName := ⟨RX9, "piece", "(III)I"⟩
abbrev cX9_joint : ByteArray := prog_1_method_14_code
def yX9_joint : MethodName := ⟨RX9, "joint", "(IIIZ)I"⟩
abbrev cX9_same : ByteArray := prog_1_method_15_code
def yX9_same : MethodName := ⟨RX9, "same", "(III)I"⟩
abbrev cX9_why : ByteArray := prog_1_method_16_code
def yX9_why : MethodName := ⟨RX9, "why", "(IIIII)I"⟩
abbrev cX9_place : ByteArray := prog_1_method_17_code
def yX9_place : MethodName := ⟨RX9, "place", "(III)I"⟩
abbrev cX9_make : ByteArray := prog_1_method_18_code
def yX9_make : MethodName := ⟨RX9, "make", "(II)I"⟩
abbrev cX9_plan : ByteArray := prog_1_method_19_code
def yX9_plan : MethodName := ⟨RX9, "plan", "()I"⟩
abbrev cX9_planned : ByteArray := prog_1_method_20_code
def yX9_planned : MethodName := ⟨RX9, "planned", "(I)I"⟩
abbrev cX9_free : ByteArray := prog_1_method_21_code
def yX9_free : MethodName := ⟨RX9, "free", "(I)Z"⟩
abbrev cX9_isFrom : ByteArray := prog_1_method_22_code
def yX9_isFrom : MethodName := ⟨RX9, "isFrom", "(III)Z"⟩
def RX10 : String := "VeneerDeskModel"
def TX10 : u_T := fun k => match k with
  | 0 => ("VeneerDeskModel", "leaves", "[I", true)
  | 1 => ("VeneerDeskModel", "length", "[I", true)
  | 2 => ("VeneerDeskModel", "wide", "[I", true)
  | 3 => ("VeneerDeskModel", "grows", "[I", true)
  | 4 => ("VeneerDeskModel", "tone", "[I", true)
  | 5 => ("VeneerDeskModel", "darkens", "[I", true)
  | 6 => ("VeneerDeskModel", "flaws", "[I", true)
  | 7 => ("VeneerDeskModel", "flawFirst", "[I", true)
  | 8 => ("VeneerDeskModel", "flawLast", "[I", true)
  | 9 => ("VeneerDeskModel", "flawX", "[I", true)
  | 10 => ("VeneerDeskModel", "flawY", "[I", true)
  | 11 => ("VeneerDeskModel", "flawDx", "[I", true)
  | 12 => ("VeneerDeskModel", "flawDy", "[I", true)
  | 13 => ("VeneerDeskModel", "flawWide", "[I", true)
  | 14 => ("VeneerDeskModel", "flawHigh", "[I", true)
  | 15 => ("VeneerDeskModel", "strips", "I", false)
  | 16 => ("VeneerDeskModel", "stripLog", "[I", true)
  | 17 => ("VeneerDeskModel", "stripLeaf", "[I", true)
  | 18 => ("VeneerDeskModel", "stripX", "[I", true)
  | 19 => ("VeneerDeskModel", "stripY", "[I", true)
  | 20 => ("VeneerDeskModel", "stripWide", "[I", true)
  | 21 => ("VeneerDeskModel", "stripHigh", "[I", true)
  | 22 => ("VeneerDeskModel", "stripMany", "[I", true)
  | 23 => ("VeneerDeskModel", "stripDoor", "[I", true)
  | 24 => ("VeneerDeskModel", "tape", "[I", true)
  | 25 => ("VeneerDeskModel", "taped", "I", false)
  | 26 => ("VeneerDeskModel", "at", "I", false)
  | 27 => ("VeneerDeskModel", "size", "I", false)
  | 28 => ("VeneerDeskModel", "bad", "I", false)
  | 29 => ("VeneerDeskModel", "badPlace", "I", false)
  | 30 => ("VeneerDeskModel", "fault", "I", false)
  | 31 => ("VeneerDeskModel", "faultPlace", "I", false)
  | 32 => ("VeneerDeskModel", "partWide", "I", false)
  | 33 => ("VeneerDeskModel", "partHigh", "I", false)
  | 34 => ("VeneerDeskModel", "part", "[I", true)
  | 35 => ("VeneerDeskModel", "swap", "[I", true)
  | 36 => ("VeneerDeskModel", "rowWide", "[I", true)
  | 37 => ("VeneerDeskModel", "rowHigh", "[I", true)
  | 38 => ("VeneerDeskModel", "row", "[I", true)
  | 39 => ("VeneerDeskModel", "columnWide", "[I", true)
  | 40 => ("VeneerDeskModel", "columnHigh", "[I", true)
  | 41 => ("VeneerDeskModel", "column", "[I", true)
  | 42 => ("VeneerDeskModel", "rowSign", "[I", true)
  | 43 => ("VeneerDeskModel", "columnSign", "[I", true)
  | 44 => ("VeneerDeskModel", "depth", "I", false)
  | 45 => ("VeneerDeskModel", "open", "I", false)
  | 46 => ("VeneerDeskModel", "openSign", "[I", true)
  | 47 => ("VeneerDeskModel", "openMany", "[I", true)
  | 48 => ("VeneerDeskModel", "openPlace", "[I", true)
  | 49 => ("VeneerDeskModel", "doorWide", "[I", true)
  | 50 => ("VeneerDeskModel", "doorHigh", "[I", true)
  | 51 => ("VeneerDeskModel", "pieces", "[I", true)
  | 52 => ("VeneerDeskModel", "pieceWide", "[I", true)
  | 53 => ("VeneerDeskModel", "pieceHigh", "[I", true)
  | 54 => ("VeneerDeskModel", "tones", "[I", true)
  | 55 => ("VeneerDeskModel", "madeOf", "[I", true)
  | 56 => ("VeneerDeskModel", "madeF", "[I", true)
  | 57 => ("VeneerDeskModel", "madeY", "[I", true)
  | 58 => ("VeneerDeskModel", "madeX", "[I", true)
  | 59 => ("VeneerDeskModel", "many", "[I", true)
  | 60 => ("VeneerDeskModel", "placeF", "I", false)
  | 61 => ("VeneerDeskModel", "placeY", "I", false)
  | 62 => ("VeneerDeskModel", "placeX", "I", false)
  | 63 => ("VeneerDeskModel", "plans", "[I", true)
  | 64 => ("VeneerDeskModel", "wanted", "[I", true)
  | 65 => ("VeneerDeskModel", "chosen", "[I", true)
  | _ => ("VeneerDeskModel", "hasPlan", "Z", false)
def tyX10 : Nat → FieldType := fun k => match k with
  | 0 => .array .int
  | 1 => .array .int
  | 2 => .array .int
  | 3 => .array .int
  | 4 => .array .int
  | 5 => .array .int
  | 6 => .array .int
  | 7 => .array .int
  | 8 => .array .int
  | 9 => .array .int
  | 10 => .array .int
  | 11 => .array .int
  | 12 => .array .int
  | 13 => .array .int
  | 14 => .array .int
  | 15 => .int
  | 16 => .array .int
  | 17 => .array .int
  | 18 => .array .int
  | 19 => .array .int
  | 20 => .array .int
  | 21 => .array .int
  | 22 => .array .int
  | 23 => .array .int
  | 24 => .array .int
  | 25 => .int
  | 26 => .int
  | 27 => .int
  | 28 => .int
  | 29 => .int
  | 30 => .int
  | 31 => .int
  | 32 => .int
  | 33 => .int
  | 34 => .array .int
  | 35 => .array .int
  | 36 => .array .int
  | 37 => .array .int
  | 38 => .array .int
  | 39 => .array .int
  | 40 => .array .int
  | 41 => .array .int
  | 42 => .array .int
  | 43 => .array .int
  | 44 => .int
  | 45 => .int
  | 46 => .array .int
  | 47 => .array .int
  | 48 => .array .int
  | 49 => .array .int
  | 50 => .array .int
  | 51 => .array .int
  | 52 => .array .int
  | 53 => .array .int
  | 54 => .array .int
  | 55 => .array .int
  | 56 => .array .int
  | 57 => .array .int
  | 58 => .array .int
  | 59 => .array .int
  | 60 => .int
  | 61 => .int
  | 62 => .int
  | 63 => .array .int
  | 64 => .array .int
  | 65 => .array .int
  | _ => .boolean
abbrev wsX100 : List Cond := u_ws RX10 TX10 67
theorem nmX10 : ∀ a, a < 67 → ∀ b, b < 67 → a ≠ b → (TX10 a).2.1 ≠ (TX10 b).2.1 := by decide +kernel
theorem tyX10_ok : ∀ k, k < 67 → parseFieldDescriptor (TX10 k).2.2.1 = some (tyX10 k) := by decide +kernel
abbrev cX10_init : ByteArray := prog_12_method_1_code
def yX10_init : MethodName := ⟨RX10, "<init>", "()V"⟩
abbrev cX10_isIn : ByteArray := prog_12_method_2_code
def yX10_isIn : MethodName := ⟨RX10, "isIn", "(III)Z"⟩
abbrev cX10_isLog : ByteArray := prog_12_method_3_code
def yX10_isLog : MethodName := ⟨RX10, "isLog", "(I)Z"⟩
abbrev cX10_isLeaf : ByteArray := prog_12_method_4_code
def yX10_isLeaf : MethodName := ⟨RX10, "isLeaf", "(II)Z"⟩
abbrev cX10_widthOf : ByteArray := prog_12_method_5_code
def yX10_widthOf : MethodName := ⟨RX10, "widthOf", "(II)I"⟩
abbrev cX10_toneOf : ByteArray := prog_12_method_6_code
def yX10_toneOf : MethodName := ⟨RX10, "toneOf", "(II)I"⟩
abbrev cX10_goes : ByteArray := prog_12_method_7_code
def yX10_goes : MethodName := ⟨RX10, "goes", "(II)V"⟩
abbrev cX10_log : ByteArray := prog_12_method_8_code
def yX10_log : MethodName := ⟨RX10, "log", "(IIIII)Z"⟩
abbrev cX10_tone : ByteArray := prog_12_method_9_code
def yX10_tone : MethodName := ⟨RX10, "tone", "(III)Z"⟩
abbrev cX10_flaw : ByteArray := prog_12_method_10_code
def yX10_flaw : MethodName := ⟨RX10, "flaw", "(IIIIII)I"⟩
abbrev cX10_drift : ByteArray := prog_12_method_11_code
def yX10_drift : MethodName := ⟨RX10, "drift", "(IIII)Z"⟩
abbrev cX10_laps : ByteArray := prog_12_method_12_code
def yX10_laps : MethodName := ⟨RX10, "laps", "(IIIIIIII)Z"⟩
abbrev cX10_isFlawed : ByteArray := prog_12_method_13_code
def yX10_isFlawed : MethodName := ⟨RX10, "isFlawed", "(IIIIII)Z"⟩
abbrev cX10_leaf : ByteArray := prog_12_method_14_code
def yX10_leaf : MethodName := ⟨RX10, "leaf", "(III)I"⟩
abbrev cX10_flawIn : ByteArray := prog_12_method_15_code
def yX10_flawIn : MethodName := ⟨RX10, "flawIn", "(IIIIII)I"⟩
abbrev cX10_isCut : ByteArray := prog_12_method_16_code
def yX10_isCut : MethodName := ⟨RX10, "isCut", "(IIIIII)Z"⟩
abbrev cX10_isWithin : ByteArray := prog_12_method_17_code
def yX10_isWithin : MethodName := ⟨RX10, "isWithin", "(IIJJII)Z"⟩
abbrev cX10_hit : ByteArray := prog_12_method_18_code
def yX10_hit : MethodName := ⟨RX10, "hit", "(IIIIII)I"⟩
abbrev cX10_feed : ByteArray := prog_12_method_19_code
def yX10_feed : MethodName := ⟨RX10, "feed", "(IIIII)I"⟩
abbrev cX10_end : ByteArray := prog_12_method_20_code
def yX10_end : MethodName := ⟨RX10, "end", "(I)Z"⟩
abbrev cX10_fail : ByteArray := prog_12_method_21_code
def yX10_fail : MethodName := ⟨RX10, "fail", "(II)V"⟩
abbrev cX10_next : ByteArray := prog_12_method_22_code
def yX10_next : MethodName := ⟨RX10, "next", "()I"⟩
abbrev cX10_begins : ByteArray := prog_12_method_23_code
def yX10_begins : MethodName := ⟨RX10, "begins", "()V"⟩
abbrev cX10_opens : ByteArray := prog_12_method_24_code
def yX10_opens : MethodName := ⟨RX10, "opens", "(IIII)V"⟩
abbrev cX10_turns : ByteArray := prog_12_method_25_code
def yX10_turns : MethodName := ⟨RX10, "turns", "(ZZ)V"⟩
abbrev cX10_repeats : ByteArray := prog_12_method_26_code
def yX10_repeats : MethodName := ⟨RX10, "repeats", "(II)V"⟩
abbrev cX10_comes : ByteArray := prog_12_method_27_code
def yX10_comes : MethodName := ⟨RX10, "comes", "()V"⟩
abbrev cX10_ends : ByteArray := prog_12_method_28_code
def yX10_ends : MethodName := ⟨RX10, "ends", "()V"⟩
abbrev cX10_rowIsPart : ByteArray := prog_12_method_29_code
def yX10_rowIsPart : MethodName := ⟨RX10, "rowIsPart", "()V"⟩
abbrev cX10_parts : ByteArray := prog_12_method_30_code
def yX10_parts : MethodName := ⟨RX10, "parts", "()Z"⟩
abbrev cX10_draws : ByteArray := prog_12_method_31_code
def yX10_draws : MethodName := ⟨RX10, "draws", "()V"⟩
abbrev cX10_isDoor : ByteArray := prog_12_method_32_code
def yX10_isDoor : MethodName := ⟨RX10, "isDoor", "(I)Z"⟩
abbrev cX10_door : ByteArray := prog_12_method_33_code
def yX10_door : MethodName := ⟨RX10, "door", "(IIII)I"⟩
abbrev cX10_fault : ByteArray := prog_12_method_34_code
def yX10_fault : MethodName := ⟨RX10, "fault", "(I)I"⟩
abbrev cX10_pieceOf : ByteArray := prog_12_method_35_code
def yX10_pieceOf : MethodName := ⟨RX10, "pieceOf", "(III)I"⟩
abbrev cX10_jointOf : ByteArray := prog_12_method_36_code
def yX10_jointOf : MethodName := ⟨RX10, "jointOf", "(IIZ)I"⟩
abbrev cX10_joint : ByteArray := prog_12_method_37_code
def yX10_joint : MethodName := ⟨RX10, "joint", "(IIIZ)I"⟩
abbrev cX10_joints : ByteArray := prog_12_method_38_code
def yX10_joints : MethodName := ⟨RX10, "joints", "(II)I"⟩
abbrev cX10_greatest : ByteArray := prog_12_method_39_code
def yX10_greatest : MethodName := ⟨RX10, "greatest", "(I)I"⟩
abbrev cX10_of : ByteArray := prog_12_method_40_code
def yX10_of : MethodName := ⟨RX10, "of", "(II)I"⟩
abbrev cX10_piece : ByteArray := prog_12_method_41_code
def yX10_piece : MethodName := ⟨RX10, "piece", "(III)I"⟩
abbrev cX10_same : ByteArray := prog_12_method_42_code
def yX10_same : MethodName := ⟨RX10, "same", "(III)I"⟩
abbrev cX10_counts : ByteArray := prog_12_method_43_code
def yX10_counts : MethodName := ⟨RX10, "counts", "(I)V"⟩
abbrev cX10_hasTones : ByteArray := prog_12_method_44_code
def yX10_hasTones : MethodName := ⟨RX10, "hasTones", "(III)Z"⟩
abbrev cX10_fits : ByteArray := prog_12_method_45_code
def yX10_fits : MethodName := ⟨RX10, "fits", "(IIIII)Z"⟩
abbrev cX10_why : ByteArray := prog_12_method_46_code
def yX10_why : MethodName := ⟨RX10, "why", "(IIIII)I"⟩
abbrev cX10_hasLeaves : ByteArray := prog_12_method_47_code
def yX10_hasLeaves : MethodName := ⟨RX10, "hasLeaves", "(III)Z"⟩
abbrev cX10_places : ByteArray := prog_12_method_48_code
def yX10_places : MethodName := ⟨RX10, "places", "(II)Z"⟩
abbrev cX10_place : ByteArray := prog_12_method_49_code
def yX10_place : MethodName := ⟨RX10, "place", "(III)I"⟩
abbrev cX10_cuts : ByteArray := prog_12_method_50_code
def yX10_cuts : MethodName := ⟨RX10, "cuts", "(II)V"⟩
abbrev cX10_make : ByteArray := prog_12_method_51_code
def yX10_make : MethodName := ⟨RX10, "make", "(II)I"⟩
abbrev cX10_isPlaced : ByteArray := prog_12_method_52_code
def yX10_isPlaced : MethodName := ⟨RX10, "isPlaced", "(I)Z"⟩
abbrev cX10_logsOf : ByteArray := prog_12_method_53_code
def yX10_logsOf : MethodName := ⟨RX10, "logsOf", "(I)I"⟩
abbrev cX10_plan : ByteArray := prog_12_method_54_code
def yX10_plan : MethodName := ⟨RX10, "plan", "()I"⟩
abbrev cX10_planned : ByteArray := prog_12_method_55_code
def yX10_planned : MethodName := ⟨RX10, "planned", "(I)I"⟩
abbrev cX10_free : ByteArray := prog_12_method_56_code
def yX10_free : MethodName := ⟨RX10, "free", "(I)Z"⟩
def RJ6 : String := "java/lang/Integer"
def TJ6 : u_T := fun k => match k with
  | _ => ("", "", "", false)
def tyJ6 : Nat → FieldType := fun k => match k with
  | _ => .int
abbrev wsJ60 : List Cond := u_ws RJ6 TJ6 0
theorem nmJ6 : ∀ a, a < 0 → ∀ b, b < 0 → a ≠ b → (TJ6 a).2.1 ≠ (TJ6 b).2.1 := by decide +kernel
theorem tyJ6_ok : ∀ k, k < 0 → parseFieldDescriptor (TJ6 k).2.2.1 = some (tyJ6 k) := by decide +kernel
abbrev cJ6_bitCount_0f7a4 : ByteArray := prog_13_method_49_code
def yJ6_bitCount_0f7a4 : MethodName := ⟨RJ6, "bitCount", "(I)I"⟩
def RJ9 : String := "java/lang/Math"
def TJ9 : u_T := fun k => match k with
  | _ => ("", "", "", false)
def tyJ9 : Nat → FieldType := fun k => match k with
  | _ => .int
abbrev wsJ90 : List Cond := u_ws RJ9 TJ9 0
theorem nmJ9 : ∀ a, a < 0 → ∀ b, b < 0 → a ≠ b → (TJ9 a).2.1 ≠ (TJ9 b).2.1 := by decide +kernel
theorem tyJ9_ok : ∀ k, k < 0 → parseFieldDescriptor (TJ9 k).2.2.1 = some (tyJ9 k) := by decide +kernel
abbrev cJ9_abs_0f7a4 : ByteArray := prog_14_method_59_code
def yJ9_abs_0f7a4 : MethodName := ⟨RJ9, "abs", "(I)I"⟩
abbrev cJ9_max_7cf53 : ByteArray := prog_14_method_65_code
def yJ9_max_7cf53 : MethodName := ⟨RJ9, "max", "(II)I"⟩
abbrev cJ9_min_7cf53 : ByteArray := prog_14_method_69_code
def yJ9_min_7cf53 : MethodName := ⟨RJ9, "min", "(II)I"⟩
def RJ10 : String := "java/lang/System"
def TJ10 : u_T := fun k => match k with
  | _ => ("", "", "", false)
def tyJ10 : Nat → FieldType := fun k => match k with
  | _ => .int
abbrev wsJ100 : List Cond := u_ws RJ10 TJ10 0
theorem nmJ10 : ∀ a, a < 0 → ∀ b, b < 0 → a ≠ b → (TJ10 a).2.1 ≠ (TJ10 b).2.1 := by decide +kernel
theorem tyJ10_ok : ∀ k, k < 0 → parseFieldDescriptor (TJ10 k).2.2.1 = some (tyJ10 k) := by decide +kernel
def RJ7 : String := "java/util/Arrays"
def TJ7 : u_T := fun k => match k with
  | _ => ("", "", "", false)
def tyJ7 : Nat → FieldType := fun k => match k with
  | _ => .int
abbrev wsJ70 : List Cond := u_ws RJ7 TJ7 0
theorem nmJ7 : ∀ a, a < 0 → ∀ b, b < 0 → a ≠ b → (TJ7 a).2.1 ≠ (TJ7 b).2.1 := by decide +kernel
theorem tyJ7_ok : ∀ k, k < 0 → parseFieldDescriptor (TJ7 k).2.2.1 = some (tyJ7 k) := by decide +kernel
abbrev cJ7_fill_d0a16 : ByteArray := prog_16_method_101_code
def yJ7_fill_d0a16 : MethodName := ⟨RJ7, "fill", "([JJ)V"⟩
abbrev cJ7_fill_53178 : ByteArray := prog_16_method_103_code
def yJ7_fill_53178 : MethodName := ⟨RJ7, "fill", "([II)V"⟩
def RL : String := "VeneerDeskLaw"
abbrev cL_law : ByteArray := code
def yL_law : MethodName := ⟨RL, "law", "([I)Z"⟩
abbrev vwCl : List vw_C := [(RX0, TX0, 12), (RX1, TX1, 3), (RX2, TX2, 4), (RX3, TX3, 8), (RX4, TX4, 12), (RX5, TX5, 7), (RX6, TX6, 7), (RX7, TX7, 2), (RX8, TX8, 3), (RX9, TX9, 4), (RX10, TX10, 67)]
end
section
theorem dX0_init_0 : decode cX0_init 0 = .ok (.aload_n 0, 1) := by decide +kernel
theorem dX0_init_1 : decode cX0_init 1 = .ok (.invokespecial 3, 3) := by decide +kernel
theorem dX0_init_4 : decode cX0_init 4 = .ok (.aload_n 0, 1) := by decide +kernel
theorem dX0_init_5 : decode cX0_init 5 = .ok (.new 9, 3) := by decide +kernel
theorem dX0_init_8 : decode cX0_init 8 = .ok (.dup, 1) := by decide +kernel
theorem dX0_init_9 : decode cX0_init 9 = .ok (.invokespecial 11, 3) := by decide +kernel
theorem dX0_init_12 : decode cX0_init 12 = .ok (.putfield 12, 3) := by decide +kernel
theorem dX0_init_15 : decode cX0_init 15 = .ok (.aload_n 0, 1) := by decide +kernel
theorem dX0_init_16 : decode cX0_init 16 = .ok (.bipush 10, 2) := by decide +kernel
theorem dX0_init_18 : decode cX0_init 18 = .ok (.newarray .int, 2) := by decide +kernel
theorem dX0_init_20 : decode cX0_init 20 = .ok (.putfield 18, 3) := by decide +kernel
theorem dX0_init_23 : decode cX0_init 23 = .ok (.aload_n 0, 1) := by decide +kernel
theorem dX0_init_24 : decode cX0_init 24 = .ok (.iconst (-1), 1) := by decide +kernel
theorem dX0_init_25 : decode cX0_init 25 = .ok (.putfield 22, 3) := by decide +kernel
theorem dX0_init_28 : decode cX0_init 28 = .ok (.aload_n 0, 1) := by decide +kernel
theorem dX0_init_29 : decode cX0_init 29 = .ok (.iconst (-1), 1) := by decide +kernel
theorem dX0_init_30 : decode cX0_init 30 = .ok (.putfield 26, 3) := by decide +kernel
theorem dX0_init_33 : decode cX0_init 33 = .ok (.aload_n 0, 1) := by decide +kernel
theorem dX0_init_34 : decode cX0_init 34 = .ok (.iconst (-1), 1) := by decide +kernel
theorem dX0_init_35 : decode cX0_init 35 = .ok (.putfield 29, 3) := by decide +kernel
theorem dX0_init_38 : decode cX0_init 38 = .ok (.aload_n 0, 1) := by decide +kernel
theorem dX0_init_39 : decode cX0_init 39 = .ok (.iconst (-1), 1) := by decide +kernel
theorem dX0_init_40 : decode cX0_init 40 = .ok (.putfield 32, 3) := by decide +kernel
theorem dX0_init_43 : decode cX0_init 43 = .ok (.return_, 1) := by decide +kernel
theorem dX0_begin_0 : decode cX0_begin 0 = .ok (.aload_n 0, 1) := by decide +kernel
theorem dX0_begin_1 : decode cX0_begin 1 = .ok (.iconst 1, 1) := by decide +kernel
theorem dX0_begin_2 : decode cX0_begin 2 = .ok (.putfield 35, 3) := by decide +kernel
theorem dX0_begin_5 : decode cX0_begin 5 = .ok (.aload_n 0, 1) := by decide +kernel
theorem dX0_begin_6 : decode cX0_begin 6 = .ok (.getfield 12, 3) := by decide +kernel
theorem dX0_begin_9 : decode cX0_begin 9 = .ok (.aload_n 1, 1) := by decide +kernel
theorem dX0_begin_10 : decode cX0_begin 10 = .ok (.invokevirtual 39, 3) := by decide +kernel
theorem dX0_begin_13 : decode cX0_begin 13 = .ok (.aload_n 0, 1) := by decide +kernel
theorem dX0_begin_14 : decode cX0_begin 14 = .ok (.iload_n 2, 1) := by decide +kernel
theorem dX0_begin_15 : decode cX0_begin 15 = .ok (.putfield 43, 3) := by decide +kernel
theorem dX0_begin_18 : decode cX0_begin 18 = .ok (.aload_n 0, 1) := by decide +kernel
theorem dX0_begin_19 : decode cX0_begin 19 = .ok (.iload_n 3, 1) := by decide +kernel
theorem dX0_begin_20 : decode cX0_begin 20 = .ok (.putfield 46, 3) := by decide +kernel
theorem dX0_begin_23 : decode cX0_begin 23 = .ok (.aload_n 0, 1) := by decide +kernel
theorem dX0_begin_24 : decode cX0_begin 24 = .ok (.iload 4, 2) := by decide +kernel
theorem dX0_begin_26 : decode cX0_begin 26 = .ok (.putfield 49, 3) := by decide +kernel
theorem dX0_begin_29 : decode cX0_begin 29 = .ok (.aload_n 0, 1) := by decide +kernel
theorem dX0_begin_30 : decode cX0_begin 30 = .ok (.invokevirtual 52, 3) := by decide +kernel
theorem dX0_begin_33 : decode cX0_begin 33 = .ok (.aload_n 0, 1) := by decide +kernel
theorem dX0_begin_34 : decode cX0_begin 34 = .ok (.invokevirtual 55, 3) := by decide +kernel
theorem dX0_begin_37 : decode cX0_begin 37 = .ok (.return_, 1) := by decide +kernel
theorem dX0_countOffsets_0 : decode cX0_countOffsets 0 = .ok (.aload_n 0, 1) := by decide +kernel
theorem dX0_countOffsets_1 : decode cX0_countOffsets 1 = .ok (.getfield 18, 3) := by decide +kernel
theorem dX0_countOffsets_4 : decode cX0_countOffsets 4 = .ok (.iconst 0, 1) := by decide +kernel
theorem dX0_countOffsets_5 : decode cX0_countOffsets 5 = .ok (.invokestatic 58, 3) := by decide +kernel
theorem dX0_countOffsets_8 : decode cX0_countOffsets 8 = .ok (.aload_n 0, 1) := by decide +kernel
theorem dX0_countOffsets_9 : decode cX0_countOffsets 9 = .ok (.bipush 9, 2) := by decide +kernel
theorem dX0_countOffsets_11 : decode cX0_countOffsets 11 = .ok (.putfield 64, 3) := by decide +kernel
theorem dX0_countOffsets_14 : decode cX0_countOffsets 14 = .ok (.aload_n 0, 1) := by decide +kernel
theorem dX0_countOffsets_15 : decode cX0_countOffsets 15 = .ok (.iconst 0, 1) := by decide +kernel
theorem dX0_countOffsets_16 : decode cX0_countOffsets 16 = .ok (.putfield 67, 3) := by decide +kernel
theorem dX0_countOffsets_19 : decode cX0_countOffsets 19 = .ok (.iconst 0, 1) := by decide +kernel
theorem dX0_countOffsets_20 : decode cX0_countOffsets 20 = .ok (.istore_n 1, 1) := by decide +kernel
theorem dX0_countOffsets_21 : decode cX0_countOffsets 21 = .ok (.iload_n 1, 1) := by decide +kernel
theorem dX0_countOffsets_22 : decode cX0_countOffsets 22 = .ok (.aload_n 0, 1) := by decide +kernel
theorem dX0_countOffsets_23 : decode cX0_countOffsets 23 = .ok (.getfield 12, 3) := by decide +kernel
theorem dX0_countOffsets_26 : decode cX0_countOffsets 26 = .ok (.getfield 70, 3) := by decide +kernel
theorem dX0_countOffsets_29 : decode cX0_countOffsets 29 = .ok (.if_icmp .ge 72, 3) := by decide +kernel
theorem dX0_countOffsets_32 : decode cX0_countOffsets 32 = .ok (.iconst 0, 1) := by decide +kernel
theorem dX0_countOffsets_33 : decode cX0_countOffsets 33 = .ok (.istore_n 2, 1) := by decide +kernel
theorem dX0_countOffsets_34 : decode cX0_countOffsets 34 = .ok (.iload_n 2, 1) := by decide +kernel
theorem dX0_countOffsets_35 : decode cX0_countOffsets 35 = .ok (.aload_n 0, 1) := by decide +kernel
theorem dX0_countOffsets_36 : decode cX0_countOffsets 36 = .ok (.getfield 12, 3) := by decide +kernel
theorem dX0_countOffsets_39 : decode cX0_countOffsets 39 = .ok (.getfield 71, 3) := by decide +kernel
theorem dX0_countOffsets_42 : decode cX0_countOffsets 42 = .ok (.if_icmp .ge 53, 3) := by decide +kernel
theorem dX0_countOffsets_45 : decode cX0_countOffsets 45 = .ok (.aload_n 0, 1) := by decide +kernel
theorem dX0_countOffsets_46 : decode cX0_countOffsets 46 = .ok (.getfield 12, 3) := by decide +kernel
theorem dX0_countOffsets_49 : decode cX0_countOffsets 49 = .ok (.iload_n 2, 1) := by decide +kernel
theorem dX0_countOffsets_50 : decode cX0_countOffsets 50 = .ok (.iload_n 1, 1) := by decide +kernel
theorem dX0_countOffsets_51 : decode cX0_countOffsets 51 = .ok (.invokevirtual 72, 3) := by decide +kernel
theorem dX0_countOffsets_54 : decode cX0_countOffsets 54 = .ok (.istore_n 3, 1) := by decide +kernel
theorem dX0_countOffsets_55 : decode cX0_countOffsets 55 = .ok (.aload_n 0, 1) := by decide +kernel
theorem dX0_countOffsets_56 : decode cX0_countOffsets 56 = .ok (.getfield 18, 3) := by decide +kernel
theorem dX0_countOffsets_59 : decode cX0_countOffsets 59 = .ok (.iload_n 3, 1) := by decide +kernel
theorem dX0_countOffsets_60 : decode cX0_countOffsets 60 = .ok (.dup2, 1) := by decide +kernel
theorem dX0_countOffsets_61 : decode cX0_countOffsets 61 = .ok (.iaload, 1) := by decide +kernel
theorem dX0_countOffsets_62 : decode cX0_countOffsets 62 = .ok (.iconst 1, 1) := by decide +kernel
theorem dX0_countOffsets_63 : decode cX0_countOffsets 63 = .ok (.iadd, 1) := by decide +kernel
theorem dX0_countOffsets_64 : decode cX0_countOffsets 64 = .ok (.iastore, 1) := by decide +kernel
theorem dX0_countOffsets_65 : decode cX0_countOffsets 65 = .ok (.aload_n 0, 1) := by decide +kernel
theorem dX0_countOffsets_66 : decode cX0_countOffsets 66 = .ok (.aload_n 0, 1) := by decide +kernel
theorem dX0_countOffsets_67 : decode cX0_countOffsets 67 = .ok (.getfield 64, 3) := by decide +kernel
theorem dX0_countOffsets_70 : decode cX0_countOffsets 70 = .ok (.iload_n 3, 1) := by decide +kernel
theorem dX0_countOffsets_71 : decode cX0_countOffsets 71 = .ok (.invokestatic 76, 3) := by decide +kernel
theorem dX0_countOffsets_74 : decode cX0_countOffsets 74 = .ok (.putfield 64, 3) := by decide +kernel
theorem dX0_countOffsets_77 : decode cX0_countOffsets 77 = .ok (.aload_n 0, 1) := by decide +kernel
theorem dX0_countOffsets_78 : decode cX0_countOffsets 78 = .ok (.aload_n 0, 1) := by decide +kernel
theorem dX0_countOffsets_79 : decode cX0_countOffsets 79 = .ok (.getfield 67, 3) := by decide +kernel
theorem dX0_countOffsets_82 : decode cX0_countOffsets 82 = .ok (.iload_n 3, 1) := by decide +kernel
theorem dX0_countOffsets_83 : decode cX0_countOffsets 83 = .ok (.invokestatic 81, 3) := by decide +kernel
theorem dX0_countOffsets_86 : decode cX0_countOffsets 86 = .ok (.putfield 67, 3) := by decide +kernel
theorem dX0_countOffsets_89 : decode cX0_countOffsets 89 = .ok (.iinc 2 1, 3) := by decide +kernel
theorem dX0_countOffsets_92 : decode cX0_countOffsets 92 = .ok (.goto (-58), 3) := by decide +kernel
theorem dX0_countOffsets_95 : decode cX0_countOffsets 95 = .ok (.iinc 1 1, 3) := by decide +kernel
theorem dX0_countOffsets_98 : decode cX0_countOffsets 98 = .ok (.goto (-77), 3) := by decide +kernel
theorem dX0_countOffsets_101 : decode cX0_countOffsets 101 = .ok (.return_, 1) := by decide +kernel
theorem dX0_stackHigh_0 : decode cX0_stackHigh 0 = .ok (.aload_n 0, 1) := by decide +kernel
theorem dX0_stackHigh_1 : decode cX0_stackHigh 1 = .ok (.getfield 18, 3) := by decide +kernel
theorem dX0_stackHigh_4 : decode cX0_stackHigh 4 = .ok (.iload_n 1, 1) := by decide +kernel
theorem dX0_stackHigh_5 : decode cX0_stackHigh 5 = .ok (.iaload, 1) := by decide +kernel
theorem dX0_stackHigh_6 : decode cX0_stackHigh 6 = .ok (.aload_n 0, 1) := by decide +kernel
theorem dX0_stackHigh_7 : decode cX0_stackHigh 7 = .ok (.getfield 46, 3) := by decide +kernel
theorem dX0_stackHigh_10 : decode cX0_stackHigh 10 = .ok (.imul, 1) := by decide +kernel
theorem dX0_stackHigh_11 : decode cX0_stackHigh 11 = .ok (.ireturn, 1) := by decide +kernel
theorem dX0_isMade_0 : decode cX0_isMade 0 = .ok (.aload_n 0, 1) := by decide +kernel
theorem dX0_isMade_1 : decode cX0_isMade 1 = .ok (.getfield 22, 3) := by decide +kernel
theorem dX0_isMade_4 : decode cX0_isMade 4 = .ok (.iconst (-1), 1) := by decide +kernel
theorem dX0_isMade_5 : decode cX0_isMade 5 = .ok (.if_icmp .eq 7, 3) := by decide +kernel
theorem dX0_isMade_8 : decode cX0_isMade 8 = .ok (.iconst 1, 1) := by decide +kernel
theorem dX0_isMade_9 : decode cX0_isMade 9 = .ok (.goto 4, 3) := by decide +kernel
theorem dX0_isMade_12 : decode cX0_isMade 12 = .ok (.iconst 0, 1) := by decide +kernel
theorem dX0_isMade_13 : decode cX0_isMade 13 = .ok (.ireturn, 1) := by decide +kernel
theorem dX0_madeAt_0 : decode cX0_madeAt 0 = .ok (.aload_n 0, 1) := by decide +kernel
theorem dX0_madeAt_1 : decode cX0_madeAt 1 = .ok (.iload_n 1, 1) := by decide +kernel
theorem dX0_madeAt_2 : decode cX0_madeAt 2 = .ok (.putfield 22, 3) := by decide +kernel
theorem dX0_madeAt_5 : decode cX0_madeAt 5 = .ok (.aload_n 0, 1) := by decide +kernel
theorem dX0_madeAt_6 : decode cX0_madeAt 6 = .ok (.aload_n 2, 1) := by decide +kernel
theorem dX0_madeAt_7 : decode cX0_madeAt 7 = .ok (.getfield 84, 3) := by decide +kernel
theorem dX0_madeAt_10 : decode cX0_madeAt 10 = .ok (.putfield 26, 3) := by decide +kernel
theorem dX0_madeAt_13 : decode cX0_madeAt 13 = .ok (.aload_n 0, 1) := by decide +kernel
theorem dX0_madeAt_14 : decode cX0_madeAt 14 = .ok (.aload_n 2, 1) := by decide +kernel
theorem dX0_madeAt_15 : decode cX0_madeAt 15 = .ok (.getfield 87, 3) := by decide +kernel
theorem dX0_madeAt_18 : decode cX0_madeAt 18 = .ok (.putfield 29, 3) := by decide +kernel
theorem dX0_madeAt_21 : decode cX0_madeAt 21 = .ok (.aload_n 0, 1) := by decide +kernel
theorem dX0_madeAt_22 : decode cX0_madeAt 22 = .ok (.aload_n 2, 1) := by decide +kernel
theorem dX0_madeAt_23 : decode cX0_madeAt 23 = .ok (.getfield 88, 3) := by decide +kernel
theorem dX0_madeAt_26 : decode cX0_madeAt 26 = .ok (.putfield 32, 3) := by decide +kernel
theorem dX0_madeAt_29 : decode cX0_madeAt 29 = .ok (.return_, 1) := by decide +kernel
theorem dX0_notMade_0 : decode cX0_notMade 0 = .ok (.aload_n 0, 1) := by decide +kernel
theorem dX0_notMade_1 : decode cX0_notMade 1 = .ok (.iconst (-1), 1) := by decide +kernel
theorem dX0_notMade_2 : decode cX0_notMade 2 = .ok (.putfield 22, 3) := by decide +kernel
theorem dX0_notMade_5 : decode cX0_notMade 5 = .ok (.aload_n 0, 1) := by decide +kernel
theorem dX0_notMade_6 : decode cX0_notMade 6 = .ok (.iconst (-1), 1) := by decide +kernel
theorem dX0_notMade_7 : decode cX0_notMade 7 = .ok (.putfield 26, 3) := by decide +kernel
theorem dX0_notMade_10 : decode cX0_notMade 10 = .ok (.aload_n 0, 1) := by decide +kernel
theorem dX0_notMade_11 : decode cX0_notMade 11 = .ok (.iconst (-1), 1) := by decide +kernel
theorem dX0_notMade_12 : decode cX0_notMade 12 = .ok (.putfield 29, 3) := by decide +kernel
theorem dX0_notMade_15 : decode cX0_notMade 15 = .ok (.aload_n 0, 1) := by decide +kernel
theorem dX0_notMade_16 : decode cX0_notMade 16 = .ok (.iconst (-1), 1) := by decide +kernel
theorem dX0_notMade_17 : decode cX0_notMade 17 = .ok (.putfield 32, 3) := by decide +kernel
theorem dX0_notMade_20 : decode cX0_notMade 20 = .ok (.return_, 1) := by decide +kernel
theorem dX1_init_0 : decode cX1_init 0 = .ok (.aload_n 0, 1) := by decide +kernel
theorem dX1_init_1 : decode cX1_init 1 = .ok (.invokespecial 3, 3) := by decide +kernel
theorem dX1_init_4 : decode cX1_init 4 = .ok (.aload_n 0, 1) := by decide +kernel
theorem dX1_init_5 : decode cX1_init 5 = .ok (.bipush 64, 2) := by decide +kernel
theorem dX1_init_7 : decode cX1_init 7 = .ok (.newarray .int, 2) := by decide +kernel
theorem dX1_init_9 : decode cX1_init 9 = .ok (.putfield 11, 3) := by decide +kernel
theorem dX1_init_12 : decode cX1_init 12 = .ok (.return_, 1) := by decide +kernel
theorem dX1_count_0 : decode cX1_count 0 = .ok (.aload_n 0, 1) := by decide +kernel
theorem dX1_count_1 : decode cX1_count 1 = .ok (.getfield 15, 3) := by decide +kernel
theorem dX1_count_4 : decode cX1_count 4 = .ok (.aload_n 0, 1) := by decide +kernel
theorem dX1_count_5 : decode cX1_count 5 = .ok (.getfield 19, 3) := by decide +kernel
theorem dX1_count_8 : decode cX1_count 8 = .ok (.imul, 1) := by decide +kernel
theorem dX1_count_9 : decode cX1_count 9 = .ok (.ireturn, 1) := by decide +kernel
theorem dX1_has_0 : decode cX1_has 0 = .ok (.iload_n 1, 1) := by decide +kernel
theorem dX1_has_1 : decode cX1_has 1 = .ok (.iconst 0, 1) := by decide +kernel
theorem dX1_has_2 : decode cX1_has 2 = .ok (.aload_n 0, 1) := by decide +kernel
theorem dX1_has_3 : decode cX1_has 3 = .ok (.getfield 15, 3) := by decide +kernel
theorem dX1_has_6 : decode cX1_has 6 = .ok (.iconst 1, 1) := by decide +kernel
theorem dX1_has_7 : decode cX1_has 7 = .ok (.isub, 1) := by decide +kernel
theorem dX1_has_8 : decode cX1_has 8 = .ok (.invokestatic 22, 3) := by decide +kernel
theorem dX1_has_11 : decode cX1_has 11 = .ok (.ifCond .eq 21, 3) := by decide +kernel
theorem dX1_has_14 : decode cX1_has 14 = .ok (.iload_n 2, 1) := by decide +kernel
theorem dX1_has_15 : decode cX1_has 15 = .ok (.iconst 0, 1) := by decide +kernel
theorem dX1_has_16 : decode cX1_has 16 = .ok (.aload_n 0, 1) := by decide +kernel
theorem dX1_has_17 : decode cX1_has 17 = .ok (.getfield 19, 3) := by decide +kernel
theorem dX1_has_20 : decode cX1_has 20 = .ok (.iconst 1, 1) := by decide +kernel
theorem dX1_has_21 : decode cX1_has 21 = .ok (.isub, 1) := by decide +kernel
theorem dX1_has_22 : decode cX1_has 22 = .ok (.invokestatic 22, 3) := by decide +kernel
theorem dX1_has_25 : decode cX1_has 25 = .ok (.ifCond .eq 7, 3) := by decide +kernel
theorem dX1_has_28 : decode cX1_has 28 = .ok (.iconst 1, 1) := by decide +kernel
theorem dX1_has_29 : decode cX1_has 29 = .ok (.goto 4, 3) := by decide +kernel
theorem dX1_has_32 : decode cX1_has 32 = .ok (.iconst 0, 1) := by decide +kernel
theorem dX1_has_33 : decode cX1_has 33 = .ok (.ireturn, 1) := by decide +kernel
theorem dX1_cellAt_0 : decode cX1_cellAt 0 = .ok (.iconst 0, 1) := by decide +kernel
theorem dX1_cellAt_1 : decode cX1_cellAt 1 = .ok (.iload_n 1, 1) := by decide +kernel
theorem dX1_cellAt_2 : decode cX1_cellAt 2 = .ok (.if_icmp .gt 24, 3) := by decide +kernel
theorem dX1_cellAt_5 : decode cX1_cellAt 5 = .ok (.iload_n 1, 1) := by decide +kernel
theorem dX1_cellAt_6 : decode cX1_cellAt 6 = .ok (.bipush 8, 2) := by decide +kernel
theorem dX1_cellAt_8 : decode cX1_cellAt 8 = .ok (.if_icmp .ge 18, 3) := by decide +kernel
theorem dX1_cellAt_11 : decode cX1_cellAt 11 = .ok (.iconst 0, 1) := by decide +kernel
theorem dX1_cellAt_12 : decode cX1_cellAt 12 = .ok (.iload_n 2, 1) := by decide +kernel
theorem dX1_cellAt_13 : decode cX1_cellAt 13 = .ok (.if_icmp .gt 13, 3) := by decide +kernel
theorem dX1_cellAt_16 : decode cX1_cellAt 16 = .ok (.iload_n 2, 1) := by decide +kernel
theorem dX1_cellAt_17 : decode cX1_cellAt 17 = .ok (.bipush 8, 2) := by decide +kernel
theorem dX1_cellAt_19 : decode cX1_cellAt 19 = .ok (.if_icmp .ge 7, 3) := by decide +kernel
theorem dX1_cellAt_22 : decode cX1_cellAt 22 = .ok (.iconst 1, 1) := by decide +kernel
theorem dX1_cellAt_23 : decode cX1_cellAt 23 = .ok (.goto 4, 3) := by decide +kernel
theorem dX1_cellAt_26 : decode cX1_cellAt 26 = .ok (.iconst 0, 1) := by decide +kernel
theorem dX1_cellAt_27 : decode cX1_cellAt 27 = .ok (.istore_n 3, 1) := by decide +kernel
theorem dX1_cellAt_28 : decode cX1_cellAt 28 = .ok (.iload_n 3, 1) := by decide +kernel
theorem dX1_cellAt_29 : decode cX1_cellAt 29 = .ok (.ifCond .eq 17, 3) := by decide +kernel
theorem dX1_cellAt_32 : decode cX1_cellAt 32 = .ok (.aload_n 0, 1) := by decide +kernel
theorem dX1_cellAt_33 : decode cX1_cellAt 33 = .ok (.getfield 11, 3) := by decide +kernel
theorem dX1_cellAt_36 : decode cX1_cellAt 36 = .ok (.iload_n 2, 1) := by decide +kernel
theorem dX1_cellAt_37 : decode cX1_cellAt 37 = .ok (.bipush 8, 2) := by decide +kernel
theorem dX1_cellAt_39 : decode cX1_cellAt 39 = .ok (.imul, 1) := by decide +kernel
theorem dX1_cellAt_40 : decode cX1_cellAt 40 = .ok (.iload_n 1, 1) := by decide +kernel
theorem dX1_cellAt_41 : decode cX1_cellAt 41 = .ok (.iadd, 1) := by decide +kernel
theorem dX1_cellAt_42 : decode cX1_cellAt 42 = .ok (.iaload, 1) := by decide +kernel
theorem dX1_cellAt_43 : decode cX1_cellAt 43 = .ok (.goto 4, 3) := by decide +kernel
theorem dX1_cellAt_46 : decode cX1_cellAt 46 = .ok (.iconst (-1), 1) := by decide +kernel
theorem dX1_cellAt_47 : decode cX1_cellAt 47 = .ok (.ireturn, 1) := by decide +kernel
theorem dX1_setCell_0 : decode cX1_setCell 0 = .ok (.iconst 0, 1) := by decide +kernel
theorem dX1_setCell_1 : decode cX1_setCell 1 = .ok (.iload_n 1, 1) := by decide +kernel
theorem dX1_setCell_2 : decode cX1_setCell 2 = .ok (.if_icmp .gt 32, 3) := by decide +kernel
theorem dX1_setCell_5 : decode cX1_setCell 5 = .ok (.iload_n 1, 1) := by decide +kernel
theorem dX1_setCell_6 : decode cX1_setCell 6 = .ok (.bipush 8, 2) := by decide +kernel
theorem dX1_setCell_8 : decode cX1_setCell 8 = .ok (.if_icmp .ge 26, 3) := by decide +kernel
theorem dX1_setCell_11 : decode cX1_setCell 11 = .ok (.iconst 0, 1) := by decide +kernel
theorem dX1_setCell_12 : decode cX1_setCell 12 = .ok (.iload_n 2, 1) := by decide +kernel
theorem dX1_setCell_13 : decode cX1_setCell 13 = .ok (.if_icmp .gt 21, 3) := by decide +kernel
theorem dX1_setCell_16 : decode cX1_setCell 16 = .ok (.iload_n 2, 1) := by decide +kernel
theorem dX1_setCell_17 : decode cX1_setCell 17 = .ok (.bipush 8, 2) := by decide +kernel
theorem dX1_setCell_19 : decode cX1_setCell 19 = .ok (.if_icmp .ge 15, 3) := by decide +kernel
theorem dX1_setCell_22 : decode cX1_setCell 22 = .ok (.aload_n 0, 1) := by decide +kernel
theorem dX1_setCell_23 : decode cX1_setCell 23 = .ok (.getfield 11, 3) := by decide +kernel
theorem dX1_setCell_26 : decode cX1_setCell 26 = .ok (.iload_n 2, 1) := by decide +kernel
theorem dX1_setCell_27 : decode cX1_setCell 27 = .ok (.bipush 8, 2) := by decide +kernel
theorem dX1_setCell_29 : decode cX1_setCell 29 = .ok (.imul, 1) := by decide +kernel
theorem dX1_setCell_30 : decode cX1_setCell 30 = .ok (.iload_n 1, 1) := by decide +kernel
theorem dX1_setCell_31 : decode cX1_setCell 31 = .ok (.iadd, 1) := by decide +kernel
theorem dX1_setCell_32 : decode cX1_setCell 32 = .ok (.iload_n 3, 1) := by decide +kernel
theorem dX1_setCell_33 : decode cX1_setCell 33 = .ok (.iastore, 1) := by decide +kernel
theorem dX1_setCell_34 : decode cX1_setCell 34 = .ok (.return_, 1) := by decide +kernel
theorem dX1_offsetAt_0 : decode cX1_offsetAt 0 = .ok (.aload_n 0, 1) := by decide +kernel
theorem dX1_offsetAt_1 : decode cX1_offsetAt 1 = .ok (.iload_n 1, 1) := by decide +kernel
theorem dX1_offsetAt_2 : decode cX1_offsetAt 2 = .ok (.iload_n 2, 1) := by decide +kernel
theorem dX1_offsetAt_3 : decode cX1_offsetAt 3 = .ok (.invokevirtual 26, 3) := by decide +kernel
theorem dX1_offsetAt_6 : decode cX1_offsetAt 6 = .ok (.bipush 15, 2) := by decide +kernel
theorem dX1_offsetAt_8 : decode cX1_offsetAt 8 = .ok (.iand, 1) := by decide +kernel
theorem dX1_offsetAt_9 : decode cX1_offsetAt 9 = .ok (.bipush 9, 2) := by decide +kernel
theorem dX1_offsetAt_11 : decode cX1_offsetAt 11 = .ok (.invokestatic 30, 3) := by decide +kernel
theorem dX1_offsetAt_14 : decode cX1_offsetAt 14 = .ok (.ireturn, 1) := by decide +kernel
theorem dX1_copyFrom_0 : decode cX1_copyFrom 0 = .ok (.aload_n 1, 1) := by decide +kernel
theorem dX1_copyFrom_1 : decode cX1_copyFrom 1 = .ok (.getfield 11, 3) := by decide +kernel
theorem dX1_copyFrom_4 : decode cX1_copyFrom 4 = .ok (.iconst 0, 1) := by decide +kernel
theorem dX1_copyFrom_5 : decode cX1_copyFrom 5 = .ok (.aload_n 0, 1) := by decide +kernel
theorem dX1_copyFrom_6 : decode cX1_copyFrom 6 = .ok (.getfield 11, 3) := by decide +kernel
theorem dX1_copyFrom_9 : decode cX1_copyFrom 9 = .ok (.iconst 0, 1) := by decide +kernel
theorem dX1_copyFrom_10 : decode cX1_copyFrom 10 = .ok (.aload_n 0, 1) := by decide +kernel
theorem dX1_copyFrom_11 : decode cX1_copyFrom 11 = .ok (.getfield 11, 3) := by decide +kernel
theorem dX1_copyFrom_14 : decode cX1_copyFrom 14 = .ok (.arraylength, 1) := by decide +kernel
theorem dX1_copyFrom_15 : decode cX1_copyFrom 15 = .ok (.invokestatic 35, 3) := by decide +kernel
theorem dX1_copyFrom_18 : decode cX1_copyFrom 18 = .ok (.aload_n 0, 1) := by decide +kernel
theorem dX1_copyFrom_19 : decode cX1_copyFrom 19 = .ok (.aload_n 1, 1) := by decide +kernel
theorem dX1_copyFrom_20 : decode cX1_copyFrom 20 = .ok (.getfield 15, 3) := by decide +kernel
theorem dX1_copyFrom_23 : decode cX1_copyFrom 23 = .ok (.putfield 15, 3) := by decide +kernel
theorem dX1_copyFrom_26 : decode cX1_copyFrom 26 = .ok (.aload_n 0, 1) := by decide +kernel
theorem dX1_copyFrom_27 : decode cX1_copyFrom 27 = .ok (.aload_n 1, 1) := by decide +kernel
theorem dX1_copyFrom_28 : decode cX1_copyFrom 28 = .ok (.getfield 19, 3) := by decide +kernel
theorem dX1_copyFrom_31 : decode cX1_copyFrom 31 = .ok (.putfield 19, 3) := by decide +kernel
theorem dX1_copyFrom_34 : decode cX1_copyFrom 34 = .ok (.return_, 1) := by decide +kernel
theorem dX1_changeSides_0 : decode cX1_changeSides 0 = .ok (.iload_n 2, 1) := by decide +kernel
theorem dX1_changeSides_1 : decode cX1_changeSides 1 = .ok (.istore 5, 2) := by decide +kernel
theorem dX1_changeSides_3 : decode cX1_changeSides 3 = .ok (.iload 5, 2) := by decide +kernel
theorem dX1_changeSides_5 : decode cX1_changeSides 5 = .ok (.iload_n 2, 1) := by decide +kernel
theorem dX1_changeSides_6 : decode cX1_changeSides 6 = .ok (.iload 4, 2) := by decide +kernel
theorem dX1_changeSides_8 : decode cX1_changeSides 8 = .ok (.iadd, 1) := by decide +kernel
theorem dX1_changeSides_9 : decode cX1_changeSides 9 = .ok (.if_icmp .ge 77, 3) := by decide +kernel
theorem dX1_changeSides_12 : decode cX1_changeSides 12 = .ok (.iload_n 1, 1) := by decide +kernel
theorem dX1_changeSides_13 : decode cX1_changeSides 13 = .ok (.istore 6, 2) := by decide +kernel
theorem dX1_changeSides_15 : decode cX1_changeSides 15 = .ok (.iload_n 1, 1) := by decide +kernel
theorem dX1_changeSides_16 : decode cX1_changeSides 16 = .ok (.iload_n 3, 1) := by decide +kernel
theorem dX1_changeSides_17 : decode cX1_changeSides 17 = .ok (.iadd, 1) := by decide +kernel
theorem dX1_changeSides_18 : decode cX1_changeSides 18 = .ok (.iconst 1, 1) := by decide +kernel
theorem dX1_changeSides_19 : decode cX1_changeSides 19 = .ok (.isub, 1) := by decide +kernel
theorem dX1_changeSides_20 : decode cX1_changeSides 20 = .ok (.istore 7, 2) := by decide +kernel
theorem dX1_changeSides_22 : decode cX1_changeSides 22 = .ok (.iload 6, 2) := by decide +kernel
theorem dX1_changeSides_24 : decode cX1_changeSides 24 = .ok (.iload 7, 2) := by decide +kernel
theorem dX1_changeSides_26 : decode cX1_changeSides 26 = .ok (.if_icmp .gt 54, 3) := by decide +kernel
theorem dX1_changeSides_29 : decode cX1_changeSides 29 = .ok (.aload_n 0, 1) := by decide +kernel
theorem dX1_changeSides_30 : decode cX1_changeSides 30 = .ok (.iload 6, 2) := by decide +kernel
theorem dX1_changeSides_32 : decode cX1_changeSides 32 = .ok (.iload 5, 2) := by decide +kernel
theorem dX1_changeSides_34 : decode cX1_changeSides 34 = .ok (.invokevirtual 26, 3) := by decide +kernel
theorem dX1_changeSides_37 : decode cX1_changeSides 37 = .ok (.istore 8, 2) := by decide +kernel
theorem dX1_changeSides_39 : decode cX1_changeSides 39 = .ok (.aload_n 0, 1) := by decide +kernel
theorem dX1_changeSides_40 : decode cX1_changeSides 40 = .ok (.iload 6, 2) := by decide +kernel
theorem dX1_changeSides_42 : decode cX1_changeSides 42 = .ok (.iload 5, 2) := by decide +kernel
theorem dX1_changeSides_44 : decode cX1_changeSides 44 = .ok (.aload_n 0, 1) := by decide +kernel
theorem dX1_changeSides_45 : decode cX1_changeSides 45 = .ok (.iload 7, 2) := by decide +kernel
theorem dX1_changeSides_47 : decode cX1_changeSides 47 = .ok (.iload 5, 2) := by decide +kernel
theorem dX1_changeSides_49 : decode cX1_changeSides 49 = .ok (.invokevirtual 26, 3) := by decide +kernel
theorem dX1_changeSides_52 : decode cX1_changeSides 52 = .ok (.bipush 16, 2) := by decide +kernel
theorem dX1_changeSides_54 : decode cX1_changeSides 54 = .ok (.ixor, 1) := by decide +kernel
theorem dX1_changeSides_55 : decode cX1_changeSides 55 = .ok (.invokevirtual 41, 3) := by decide +kernel
theorem dX1_changeSides_58 : decode cX1_changeSides 58 = .ok (.aload_n 0, 1) := by decide +kernel
theorem dX1_changeSides_59 : decode cX1_changeSides 59 = .ok (.iload 7, 2) := by decide +kernel
theorem dX1_changeSides_61 : decode cX1_changeSides 61 = .ok (.iload 5, 2) := by decide +kernel
theorem dX1_changeSides_63 : decode cX1_changeSides 63 = .ok (.iload 8, 2) := by decide +kernel
theorem dX1_changeSides_65 : decode cX1_changeSides 65 = .ok (.bipush 16, 2) := by decide +kernel
theorem dX1_changeSides_67 : decode cX1_changeSides 67 = .ok (.ixor, 1) := by decide +kernel
theorem dX1_changeSides_68 : decode cX1_changeSides 68 = .ok (.invokevirtual 41, 3) := by decide +kernel
theorem dX1_changeSides_71 : decode cX1_changeSides 71 = .ok (.iinc 6 1, 3) := by decide +kernel
theorem dX1_changeSides_74 : decode cX1_changeSides 74 = .ok (.iinc 7 (-1), 3) := by decide +kernel
theorem dX1_changeSides_77 : decode cX1_changeSides 77 = .ok (.goto (-55), 3) := by decide +kernel
theorem dX1_changeSides_80 : decode cX1_changeSides 80 = .ok (.iinc 5 1, 3) := by decide +kernel
theorem dX1_changeSides_83 : decode cX1_changeSides 83 = .ok (.goto (-80), 3) := by decide +kernel
theorem dX1_changeSides_86 : decode cX1_changeSides 86 = .ok (.return_, 1) := by decide +kernel
theorem dX1_changeEnds_0 : decode cX1_changeEnds 0 = .ok (.iload_n 1, 1) := by decide +kernel
theorem dX1_changeEnds_1 : decode cX1_changeEnds 1 = .ok (.istore 5, 2) := by decide +kernel
theorem dX1_changeEnds_3 : decode cX1_changeEnds 3 = .ok (.iload 5, 2) := by decide +kernel
theorem dX1_changeEnds_5 : decode cX1_changeEnds 5 = .ok (.iload_n 1, 1) := by decide +kernel
theorem dX1_changeEnds_6 : decode cX1_changeEnds 6 = .ok (.iload_n 3, 1) := by decide +kernel
theorem dX1_changeEnds_7 : decode cX1_changeEnds 7 = .ok (.iadd, 1) := by decide +kernel
theorem dX1_changeEnds_8 : decode cX1_changeEnds 8 = .ok (.if_icmp .ge 78, 3) := by decide +kernel
theorem dX1_changeEnds_11 : decode cX1_changeEnds 11 = .ok (.iload_n 2, 1) := by decide +kernel
theorem dX1_changeEnds_12 : decode cX1_changeEnds 12 = .ok (.istore 6, 2) := by decide +kernel
theorem dX1_changeEnds_14 : decode cX1_changeEnds 14 = .ok (.iload_n 2, 1) := by decide +kernel
theorem dX1_changeEnds_15 : decode cX1_changeEnds 15 = .ok (.iload 4, 2) := by decide +kernel
theorem dX1_changeEnds_17 : decode cX1_changeEnds 17 = .ok (.iadd, 1) := by decide +kernel
theorem dX1_changeEnds_18 : decode cX1_changeEnds 18 = .ok (.iconst 1, 1) := by decide +kernel
theorem dX1_changeEnds_19 : decode cX1_changeEnds 19 = .ok (.isub, 1) := by decide +kernel
theorem dX1_changeEnds_20 : decode cX1_changeEnds 20 = .ok (.istore 7, 2) := by decide +kernel
theorem dX1_changeEnds_22 : decode cX1_changeEnds 22 = .ok (.iload 6, 2) := by decide +kernel
theorem dX1_changeEnds_24 : decode cX1_changeEnds 24 = .ok (.iload 7, 2) := by decide +kernel
theorem dX1_changeEnds_26 : decode cX1_changeEnds 26 = .ok (.if_icmp .gt 54, 3) := by decide +kernel
theorem dX1_changeEnds_29 : decode cX1_changeEnds 29 = .ok (.aload_n 0, 1) := by decide +kernel
theorem dX1_changeEnds_30 : decode cX1_changeEnds 30 = .ok (.iload 5, 2) := by decide +kernel
theorem dX1_changeEnds_32 : decode cX1_changeEnds 32 = .ok (.iload 6, 2) := by decide +kernel
theorem dX1_changeEnds_34 : decode cX1_changeEnds 34 = .ok (.invokevirtual 26, 3) := by decide +kernel
theorem dX1_changeEnds_37 : decode cX1_changeEnds 37 = .ok (.istore 8, 2) := by decide +kernel
theorem dX1_changeEnds_39 : decode cX1_changeEnds 39 = .ok (.aload_n 0, 1) := by decide +kernel
theorem dX1_changeEnds_40 : decode cX1_changeEnds 40 = .ok (.iload 5, 2) := by decide +kernel
theorem dX1_changeEnds_42 : decode cX1_changeEnds 42 = .ok (.iload 6, 2) := by decide +kernel
theorem dX1_changeEnds_44 : decode cX1_changeEnds 44 = .ok (.aload_n 0, 1) := by decide +kernel
theorem dX1_changeEnds_45 : decode cX1_changeEnds 45 = .ok (.iload 5, 2) := by decide +kernel
theorem dX1_changeEnds_47 : decode cX1_changeEnds 47 = .ok (.iload 7, 2) := by decide +kernel
theorem dX1_changeEnds_49 : decode cX1_changeEnds 49 = .ok (.invokevirtual 26, 3) := by decide +kernel
theorem dX1_changeEnds_52 : decode cX1_changeEnds 52 = .ok (.bipush 32, 2) := by decide +kernel
theorem dX1_changeEnds_54 : decode cX1_changeEnds 54 = .ok (.ixor, 1) := by decide +kernel
theorem dX1_changeEnds_55 : decode cX1_changeEnds 55 = .ok (.invokevirtual 41, 3) := by decide +kernel
theorem dX1_changeEnds_58 : decode cX1_changeEnds 58 = .ok (.aload_n 0, 1) := by decide +kernel
theorem dX1_changeEnds_59 : decode cX1_changeEnds 59 = .ok (.iload 5, 2) := by decide +kernel
theorem dX1_changeEnds_61 : decode cX1_changeEnds 61 = .ok (.iload 7, 2) := by decide +kernel
theorem dX1_changeEnds_63 : decode cX1_changeEnds 63 = .ok (.iload 8, 2) := by decide +kernel
theorem dX1_changeEnds_65 : decode cX1_changeEnds 65 = .ok (.bipush 32, 2) := by decide +kernel
theorem dX1_changeEnds_67 : decode cX1_changeEnds 67 = .ok (.ixor, 1) := by decide +kernel
theorem dX1_changeEnds_68 : decode cX1_changeEnds 68 = .ok (.invokevirtual 41, 3) := by decide +kernel
theorem dX1_changeEnds_71 : decode cX1_changeEnds 71 = .ok (.iinc 6 1, 3) := by decide +kernel
theorem dX1_changeEnds_74 : decode cX1_changeEnds 74 = .ok (.iinc 7 (-1), 3) := by decide +kernel
theorem dX1_changeEnds_77 : decode cX1_changeEnds 77 = .ok (.goto (-55), 3) := by decide +kernel
theorem dX1_changeEnds_80 : decode cX1_changeEnds 80 = .ok (.iinc 5 1, 3) := by decide +kernel
theorem dX1_changeEnds_83 : decode cX1_changeEnds 83 = .ok (.goto (-80), 3) := by decide +kernel
theorem dX1_changeEnds_86 : decode cX1_changeEnds 86 = .ok (.return_, 1) := by decide +kernel
theorem dX1_repeat_0 : decode cX1_repeat 0 = .ok (.iload_n 2, 1) := by decide +kernel
theorem dX1_repeat_1 : decode cX1_repeat 1 = .ok (.istore 6, 2) := by decide +kernel
theorem dX1_repeat_3 : decode cX1_repeat 3 = .ok (.iload 6, 2) := by decide +kernel
theorem dX1_repeat_5 : decode cX1_repeat 5 = .ok (.iload_n 2, 1) := by decide +kernel
theorem dX1_repeat_6 : decode cX1_repeat 6 = .ok (.iload 4, 2) := by decide +kernel
theorem dX1_repeat_8 : decode cX1_repeat 8 = .ok (.iadd, 1) := by decide +kernel
theorem dX1_repeat_9 : decode cX1_repeat 9 = .ok (.if_icmp .ge 49, 3) := by decide +kernel
theorem dX1_repeat_12 : decode cX1_repeat 12 = .ok (.iload_n 1, 1) := by decide +kernel
theorem dX1_repeat_13 : decode cX1_repeat 13 = .ok (.iload_n 3, 1) := by decide +kernel
theorem dX1_repeat_14 : decode cX1_repeat 14 = .ok (.iadd, 1) := by decide +kernel
theorem dX1_repeat_15 : decode cX1_repeat 15 = .ok (.istore 7, 2) := by decide +kernel
theorem dX1_repeat_17 : decode cX1_repeat 17 = .ok (.iload 7, 2) := by decide +kernel
theorem dX1_repeat_19 : decode cX1_repeat 19 = .ok (.iload_n 1, 1) := by decide +kernel
theorem dX1_repeat_20 : decode cX1_repeat 20 = .ok (.iload_n 3, 1) := by decide +kernel
theorem dX1_repeat_21 : decode cX1_repeat 21 = .ok (.iload 5, 2) := by decide +kernel
theorem dX1_repeat_23 : decode cX1_repeat 23 = .ok (.imul, 1) := by decide +kernel
theorem dX1_repeat_24 : decode cX1_repeat 24 = .ok (.iadd, 1) := by decide +kernel
theorem dX1_repeat_25 : decode cX1_repeat 25 = .ok (.if_icmp .ge 27, 3) := by decide +kernel
theorem dX1_repeat_28 : decode cX1_repeat 28 = .ok (.aload_n 0, 1) := by decide +kernel
theorem dX1_repeat_29 : decode cX1_repeat 29 = .ok (.iload 7, 2) := by decide +kernel
theorem dX1_repeat_31 : decode cX1_repeat 31 = .ok (.iload 6, 2) := by decide +kernel
theorem dX1_repeat_33 : decode cX1_repeat 33 = .ok (.aload_n 0, 1) := by decide +kernel
theorem dX1_repeat_34 : decode cX1_repeat 34 = .ok (.iload 7, 2) := by decide +kernel
theorem dX1_repeat_36 : decode cX1_repeat 36 = .ok (.iload_n 3, 1) := by decide +kernel
theorem dX1_repeat_37 : decode cX1_repeat 37 = .ok (.isub, 1) := by decide +kernel
theorem dX1_repeat_38 : decode cX1_repeat 38 = .ok (.iload 6, 2) := by decide +kernel
theorem dX1_repeat_40 : decode cX1_repeat 40 = .ok (.invokevirtual 26, 3) := by decide +kernel
theorem dX1_repeat_43 : decode cX1_repeat 43 = .ok (.invokevirtual 41, 3) := by decide +kernel
theorem dX1_repeat_46 : decode cX1_repeat 46 = .ok (.iinc 7 1, 3) := by decide +kernel
theorem dX1_repeat_49 : decode cX1_repeat 49 = .ok (.goto (-32), 3) := by decide +kernel
theorem dX1_repeat_52 : decode cX1_repeat 52 = .ok (.iinc 6 1, 3) := by decide +kernel
theorem dX1_repeat_55 : decode cX1_repeat 55 = .ok (.goto (-52), 3) := by decide +kernel
theorem dX1_repeat_58 : decode cX1_repeat 58 = .ok (.return_, 1) := by decide +kernel
theorem dX1_jointAt_0 : decode cX1_jointAt 0 = .ok (.aload_n 0, 1) := by decide +kernel
theorem dX1_jointAt_1 : decode cX1_jointAt 1 = .ok (.iload_n 1, 1) := by decide +kernel
theorem dX1_jointAt_2 : decode cX1_jointAt 2 = .ok (.iload_n 2, 1) := by decide +kernel
theorem dX1_jointAt_3 : decode cX1_jointAt 3 = .ok (.invokevirtual 45, 3) := by decide +kernel
theorem dX1_jointAt_6 : decode cX1_jointAt 6 = .ok (.ifCond .ne 5, 3) := by decide +kernel
theorem dX1_jointAt_9 : decode cX1_jointAt 9 = .ok (.iconst (-1), 1) := by decide +kernel
theorem dX1_jointAt_10 : decode cX1_jointAt 10 = .ok (.ireturn, 1) := by decide +kernel
theorem dX1_jointAt_11 : decode cX1_jointAt 11 = .ok (.iload_n 3, 1) := by decide +kernel
theorem dX1_jointAt_12 : decode cX1_jointAt 12 = .ok (.ifCond .eq 7, 3) := by decide +kernel
theorem dX1_jointAt_15 : decode cX1_jointAt 15 = .ok (.iload_n 1, 1) := by decide +kernel
theorem dX1_jointAt_16 : decode cX1_jointAt 16 = .ok (.goto 6, 3) := by decide +kernel
theorem dX1_jointAt_19 : decode cX1_jointAt 19 = .ok (.iload_n 1, 1) := by decide +kernel
theorem dX1_jointAt_20 : decode cX1_jointAt 20 = .ok (.iconst 1, 1) := by decide +kernel
theorem dX1_jointAt_21 : decode cX1_jointAt 21 = .ok (.iadd, 1) := by decide +kernel
theorem dX1_jointAt_22 : decode cX1_jointAt 22 = .ok (.istore 4, 2) := by decide +kernel
theorem dX1_jointAt_24 : decode cX1_jointAt 24 = .ok (.iload_n 3, 1) := by decide +kernel
theorem dX1_jointAt_25 : decode cX1_jointAt 25 = .ok (.ifCond .eq 9, 3) := by decide +kernel
theorem dX1_jointAt_28 : decode cX1_jointAt 28 = .ok (.iload_n 2, 1) := by decide +kernel
theorem dX1_jointAt_29 : decode cX1_jointAt 29 = .ok (.iconst 1, 1) := by decide +kernel
theorem dX1_jointAt_30 : decode cX1_jointAt 30 = .ok (.iadd, 1) := by decide +kernel
theorem dX1_jointAt_31 : decode cX1_jointAt 31 = .ok (.goto 4, 3) := by decide +kernel
theorem dX1_jointAt_34 : decode cX1_jointAt 34 = .ok (.iload_n 2, 1) := by decide +kernel
theorem dX1_jointAt_35 : decode cX1_jointAt 35 = .ok (.istore 5, 2) := by decide +kernel
theorem dX1_jointAt_37 : decode cX1_jointAt 37 = .ok (.aload_n 0, 1) := by decide +kernel
theorem dX1_jointAt_38 : decode cX1_jointAt 38 = .ok (.iload 4, 2) := by decide +kernel
theorem dX1_jointAt_40 : decode cX1_jointAt 40 = .ok (.iload 5, 2) := by decide +kernel
theorem dX1_jointAt_42 : decode cX1_jointAt 42 = .ok (.invokevirtual 45, 3) := by decide +kernel
theorem dX1_jointAt_45 : decode cX1_jointAt 45 = .ok (.ifCond .ne 5, 3) := by decide +kernel
theorem dX1_jointAt_48 : decode cX1_jointAt 48 = .ok (.iconst (-1), 1) := by decide +kernel
theorem dX1_jointAt_49 : decode cX1_jointAt 49 = .ok (.ireturn, 1) := by decide +kernel
theorem dX1_jointAt_50 : decode cX1_jointAt 50 = .ok (.aload_n 0, 1) := by decide +kernel
theorem dX1_jointAt_51 : decode cX1_jointAt 51 = .ok (.iload_n 1, 1) := by decide +kernel
theorem dX1_jointAt_52 : decode cX1_jointAt 52 = .ok (.iload_n 2, 1) := by decide +kernel
theorem dX1_jointAt_53 : decode cX1_jointAt 53 = .ok (.invokevirtual 26, 3) := by decide +kernel
theorem dX1_jointAt_56 : decode cX1_jointAt 56 = .ok (.istore 6, 2) := by decide +kernel
theorem dX1_jointAt_58 : decode cX1_jointAt 58 = .ok (.aload_n 0, 1) := by decide +kernel
theorem dX1_jointAt_59 : decode cX1_jointAt 59 = .ok (.iload 4, 2) := by decide +kernel
theorem dX1_jointAt_61 : decode cX1_jointAt 61 = .ok (.iload 5, 2) := by decide +kernel
theorem dX1_jointAt_63 : decode cX1_jointAt 63 = .ok (.invokevirtual 26, 3) := by decide +kernel
theorem dX1_jointAt_66 : decode cX1_jointAt 66 = .ok (.istore 7, 2) := by decide +kernel
theorem dX1_jointAt_68 : decode cX1_jointAt 68 = .ok (.iload_n 3, 1) := by decide +kernel
theorem dX1_jointAt_69 : decode cX1_jointAt 69 = .ok (.ifCond .eq 13, 3) := by decide +kernel
theorem dX1_jointAt_72 : decode cX1_jointAt 72 = .ok (.iload 6, 2) := by decide +kernel
theorem dX1_jointAt_74 : decode cX1_jointAt 74 = .ok (.iload 7, 2) := by decide +kernel
theorem dX1_jointAt_76 : decode cX1_jointAt 76 = .ok (.invokestatic 49, 3) := by decide +kernel
theorem dX1_jointAt_79 : decode cX1_jointAt 79 = .ok (.goto 10, 3) := by decide +kernel
theorem dX1_jointAt_82 : decode cX1_jointAt 82 = .ok (.iload 6, 2) := by decide +kernel
theorem dX1_jointAt_84 : decode cX1_jointAt 84 = .ok (.iload 7, 2) := by decide +kernel
theorem dX1_jointAt_86 : decode cX1_jointAt 86 = .ok (.invokestatic 52, 3) := by decide +kernel
theorem dX1_jointAt_89 : decode cX1_jointAt 89 = .ok (.ireturn, 1) := by decide +kernel
theorem dX1_jointBeside_0 : decode cX1_jointBeside 0 = .ok (.iload_n 1, 1) := by decide +kernel
theorem dX1_jointBeside_1 : decode cX1_jointBeside 1 = .ok (.bipush 15, 2) := by decide +kernel
theorem dX1_jointBeside_3 : decode cX1_jointBeside 3 = .ok (.iand, 1) := by decide +kernel
theorem dX1_jointBeside_4 : decode cX1_jointBeside 4 = .ok (.iload_n 0, 1) := by decide +kernel
theorem dX1_jointBeside_5 : decode cX1_jointBeside 5 = .ok (.bipush 15, 2) := by decide +kernel
theorem dX1_jointBeside_7 : decode cX1_jointBeside 7 = .ok (.iand, 1) := by decide +kernel
theorem dX1_jointBeside_8 : decode cX1_jointBeside 8 = .ok (.isub, 1) := by decide +kernel
theorem dX1_jointBeside_9 : decode cX1_jointBeside 9 = .ok (.istore_n 2, 1) := by decide +kernel
theorem dX1_jointBeside_10 : decode cX1_jointBeside 10 = .ok (.iload_n 2, 1) := by decide +kernel
theorem dX1_jointBeside_11 : decode cX1_jointBeside 11 = .ok (.invokestatic 55, 3) := by decide +kernel
theorem dX1_jointBeside_14 : decode cX1_jointBeside 14 = .ok (.iconst 1, 1) := by decide +kernel
theorem dX1_jointBeside_15 : decode cX1_jointBeside 15 = .ok (.if_icmp .ne 13, 3) := by decide +kernel
theorem dX1_jointBeside_18 : decode cX1_jointBeside 18 = .ok (.iload_n 0, 1) := by decide +kernel
theorem dX1_jointBeside_19 : decode cX1_jointBeside 19 = .ok (.iload_n 1, 1) := by decide +kernel
theorem dX1_jointBeside_20 : decode cX1_jointBeside 20 = .ok (.bipush 32, 2) := by decide +kernel
theorem dX1_jointBeside_22 : decode cX1_jointBeside 22 = .ok (.invokestatic 59, 3) := by decide +kernel
theorem dX1_jointBeside_25 : decode cX1_jointBeside 25 = .ok (.ifCond .eq 5, 3) := by decide +kernel
theorem dX1_jointBeside_28 : decode cX1_jointBeside 28 = .ok (.iconst 0, 1) := by decide +kernel
theorem dX1_jointBeside_29 : decode cX1_jointBeside 29 = .ok (.ireturn, 1) := by decide +kernel
theorem dX1_jointBeside_30 : decode cX1_jointBeside 30 = .ok (.iload_n 0, 1) := by decide +kernel
theorem dX1_jointBeside_31 : decode cX1_jointBeside 31 = .ok (.iload_n 1, 1) := by decide +kernel
theorem dX1_jointBeside_32 : decode cX1_jointBeside 32 = .ok (.bipush 16, 2) := by decide +kernel
theorem dX1_jointBeside_34 : decode cX1_jointBeside 34 = .ok (.invokestatic 59, 3) := by decide +kernel
theorem dX1_jointBeside_37 : decode cX1_jointBeside 37 = .ok (.ifCond .eq 5, 3) := by decide +kernel
theorem dX1_jointBeside_40 : decode cX1_jointBeside 40 = .ok (.iconst 2, 1) := by decide +kernel
theorem dX1_jointBeside_41 : decode cX1_jointBeside 41 = .ok (.ireturn, 1) := by decide +kernel
theorem dX1_jointBeside_42 : decode cX1_jointBeside 42 = .ok (.iload_n 0, 1) := by decide +kernel
theorem dX1_jointBeside_43 : decode cX1_jointBeside 43 = .ok (.bipush 16, 2) := by decide +kernel
theorem dX1_jointBeside_45 : decode cX1_jointBeside 45 = .ok (.iand, 1) := by decide +kernel
theorem dX1_jointBeside_46 : decode cX1_jointBeside 46 = .ok (.ifCond .eq 7, 3) := by decide +kernel
theorem dX1_jointBeside_49 : decode cX1_jointBeside 49 = .ok (.iconst 1, 1) := by decide +kernel
theorem dX1_jointBeside_50 : decode cX1_jointBeside 50 = .ok (.goto 4, 3) := by decide +kernel
theorem dX1_jointBeside_53 : decode cX1_jointBeside 53 = .ok (.iconst 0, 1) := by decide +kernel
theorem dX1_jointBeside_54 : decode cX1_jointBeside 54 = .ok (.istore_n 3, 1) := by decide +kernel
theorem dX1_jointBeside_55 : decode cX1_jointBeside 55 = .ok (.iload_n 2, 1) := by decide +kernel
theorem dX1_jointBeside_56 : decode cX1_jointBeside 56 = .ok (.iload_n 3, 1) := by decide +kernel
theorem dX1_jointBeside_57 : decode cX1_jointBeside 57 = .ok (.ifCond .eq 7, 3) := by decide +kernel
theorem dX1_jointBeside_60 : decode cX1_jointBeside 60 = .ok (.iconst (-1), 1) := by decide +kernel
theorem dX1_jointBeside_61 : decode cX1_jointBeside 61 = .ok (.goto 4, 3) := by decide +kernel
theorem dX1_jointBeside_64 : decode cX1_jointBeside 64 = .ok (.iconst 1, 1) := by decide +kernel
theorem dX1_jointBeside_65 : decode cX1_jointBeside 65 = .ok (.if_icmp .ne 7, 3) := by decide +kernel
theorem dX1_jointBeside_68 : decode cX1_jointBeside 68 = .ok (.iconst 1, 1) := by decide +kernel
theorem dX1_jointBeside_69 : decode cX1_jointBeside 69 = .ok (.goto 4, 3) := by decide +kernel
theorem dX1_jointBeside_72 : decode cX1_jointBeside 72 = .ok (.iconst 0, 1) := by decide +kernel
theorem dX1_jointBeside_73 : decode cX1_jointBeside 73 = .ok (.ireturn, 1) := by decide +kernel
theorem dX1_jointBelow_0 : decode cX1_jointBelow 0 = .ok (.iload_n 1, 1) := by decide +kernel
theorem dX1_jointBelow_1 : decode cX1_jointBelow 1 = .ok (.bipush 15, 2) := by decide +kernel
theorem dX1_jointBelow_3 : decode cX1_jointBelow 3 = .ok (.iand, 1) := by decide +kernel
theorem dX1_jointBelow_4 : decode cX1_jointBelow 4 = .ok (.iload_n 0, 1) := by decide +kernel
theorem dX1_jointBelow_5 : decode cX1_jointBelow 5 = .ok (.bipush 15, 2) := by decide +kernel
theorem dX1_jointBelow_7 : decode cX1_jointBelow 7 = .ok (.iand, 1) := by decide +kernel
theorem dX1_jointBelow_8 : decode cX1_jointBelow 8 = .ok (.isub, 1) := by decide +kernel
theorem dX1_jointBelow_9 : decode cX1_jointBelow 9 = .ok (.istore_n 2, 1) := by decide +kernel
theorem dX1_jointBelow_10 : decode cX1_jointBelow 10 = .ok (.iload_n 2, 1) := by decide +kernel
theorem dX1_jointBelow_11 : decode cX1_jointBelow 11 = .ok (.invokestatic 55, 3) := by decide +kernel
theorem dX1_jointBelow_14 : decode cX1_jointBelow 14 = .ok (.iconst 1, 1) := by decide +kernel
theorem dX1_jointBelow_15 : decode cX1_jointBelow 15 = .ok (.if_icmp .ne 27, 3) := by decide +kernel
theorem dX1_jointBelow_18 : decode cX1_jointBelow 18 = .ok (.iload_n 0, 1) := by decide +kernel
theorem dX1_jointBelow_19 : decode cX1_jointBelow 19 = .ok (.iload_n 1, 1) := by decide +kernel
theorem dX1_jointBelow_20 : decode cX1_jointBelow 20 = .ok (.bipush 16, 2) := by decide +kernel
theorem dX1_jointBelow_22 : decode cX1_jointBelow 22 = .ok (.invokestatic 59, 3) := by decide +kernel
theorem dX1_jointBelow_25 : decode cX1_jointBelow 25 = .ok (.ifCond .ne 17, 3) := by decide +kernel
theorem dX1_jointBelow_28 : decode cX1_jointBelow 28 = .ok (.iload_n 0, 1) := by decide +kernel
theorem dX1_jointBelow_29 : decode cX1_jointBelow 29 = .ok (.iload_n 1, 1) := by decide +kernel
theorem dX1_jointBelow_30 : decode cX1_jointBelow 30 = .ok (.bipush 32, 2) := by decide +kernel
theorem dX1_jointBelow_32 : decode cX1_jointBelow 32 = .ok (.invokestatic 59, 3) := by decide +kernel
theorem dX1_jointBelow_35 : decode cX1_jointBelow 35 = .ok (.ifCond .eq 7, 3) := by decide +kernel
theorem dX1_jointBelow_38 : decode cX1_jointBelow 38 = .ok (.iconst 1, 1) := by decide +kernel
theorem dX1_jointBelow_39 : decode cX1_jointBelow 39 = .ok (.goto 4, 3) := by decide +kernel
theorem dX1_jointBelow_42 : decode cX1_jointBelow 42 = .ok (.iconst 0, 1) := by decide +kernel
theorem dX1_jointBelow_43 : decode cX1_jointBelow 43 = .ok (.istore_n 3, 1) := by decide +kernel
theorem dX1_jointBelow_44 : decode cX1_jointBelow 44 = .ok (.iload_n 3, 1) := by decide +kernel
theorem dX1_jointBelow_45 : decode cX1_jointBelow 45 = .ok (.ifCond .eq 7, 3) := by decide +kernel
theorem dX1_jointBelow_48 : decode cX1_jointBelow 48 = .ok (.iconst 2, 1) := by decide +kernel
theorem dX1_jointBelow_49 : decode cX1_jointBelow 49 = .ok (.goto 4, 3) := by decide +kernel
theorem dX1_jointBelow_52 : decode cX1_jointBelow 52 = .ok (.iconst 0, 1) := by decide +kernel
theorem dX1_jointBelow_53 : decode cX1_jointBelow 53 = .ok (.ireturn, 1) := by decide +kernel
theorem dX1_differ_0 : decode cX1_differ 0 = .ok (.iload_n 0, 1) := by decide +kernel
theorem dX1_differ_1 : decode cX1_differ 1 = .ok (.iload_n 1, 1) := by decide +kernel
theorem dX1_differ_2 : decode cX1_differ 2 = .ok (.ixor, 1) := by decide +kernel
theorem dX1_differ_3 : decode cX1_differ 3 = .ok (.iload_n 2, 1) := by decide +kernel
theorem dX1_differ_4 : decode cX1_differ 4 = .ok (.iand, 1) := by decide +kernel
theorem dX1_differ_5 : decode cX1_differ 5 = .ok (.ifCond .eq 7, 3) := by decide +kernel
theorem dX1_differ_8 : decode cX1_differ 8 = .ok (.iconst 1, 1) := by decide +kernel
theorem dX1_differ_9 : decode cX1_differ 9 = .ok (.goto 4, 3) := by decide +kernel
theorem dX1_differ_12 : decode cX1_differ 12 = .ok (.iconst 0, 1) := by decide +kernel
theorem dX1_differ_13 : decode cX1_differ 13 = .ok (.ireturn, 1) := by decide +kernel
theorem dX1_countJoints_0 : decode cX1_countJoints 0 = .ok (.iconst 0, 1) := by decide +kernel
theorem dX1_countJoints_1 : decode cX1_countJoints 1 = .ok (.istore_n 2, 1) := by decide +kernel
theorem dX1_countJoints_2 : decode cX1_countJoints 2 = .ok (.iconst 0, 1) := by decide +kernel
theorem dX1_countJoints_3 : decode cX1_countJoints 3 = .ok (.istore_n 3, 1) := by decide +kernel
theorem dX1_countJoints_4 : decode cX1_countJoints 4 = .ok (.iload_n 3, 1) := by decide +kernel
theorem dX1_countJoints_5 : decode cX1_countJoints 5 = .ok (.aload_n 0, 1) := by decide +kernel
theorem dX1_countJoints_6 : decode cX1_countJoints 6 = .ok (.getfield 19, 3) := by decide +kernel
theorem dX1_countJoints_9 : decode cX1_countJoints 9 = .ok (.if_icmp .ge 67, 3) := by decide +kernel
theorem dX1_countJoints_12 : decode cX1_countJoints 12 = .ok (.iconst 0, 1) := by decide +kernel
theorem dX1_countJoints_13 : decode cX1_countJoints 13 = .ok (.istore 4, 2) := by decide +kernel
theorem dX1_countJoints_15 : decode cX1_countJoints 15 = .ok (.iload 4, 2) := by decide +kernel
theorem dX1_countJoints_17 : decode cX1_countJoints 17 = .ok (.aload_n 0, 1) := by decide +kernel
theorem dX1_countJoints_18 : decode cX1_countJoints 18 = .ok (.getfield 15, 3) := by decide +kernel
theorem dX1_countJoints_21 : decode cX1_countJoints 21 = .ok (.if_icmp .ge 49, 3) := by decide +kernel
theorem dX1_countJoints_24 : decode cX1_countJoints 24 = .ok (.iload_n 2, 1) := by decide +kernel
theorem dX1_countJoints_25 : decode cX1_countJoints 25 = .ok (.aload_n 0, 1) := by decide +kernel
theorem dX1_countJoints_26 : decode cX1_countJoints 26 = .ok (.iload 4, 2) := by decide +kernel
theorem dX1_countJoints_28 : decode cX1_countJoints 28 = .ok (.iload_n 3, 1) := by decide +kernel
theorem dX1_countJoints_29 : decode cX1_countJoints 29 = .ok (.iconst 0, 1) := by decide +kernel
theorem dX1_countJoints_30 : decode cX1_countJoints 30 = .ok (.invokevirtual 62, 3) := by decide +kernel
theorem dX1_countJoints_33 : decode cX1_countJoints 33 = .ok (.iload_n 1, 1) := by decide +kernel
theorem dX1_countJoints_34 : decode cX1_countJoints 34 = .ok (.if_icmp .ne 7, 3) := by decide +kernel
theorem dX1_countJoints_37 : decode cX1_countJoints 37 = .ok (.iconst 1, 1) := by decide +kernel
theorem dX1_countJoints_38 : decode cX1_countJoints 38 = .ok (.goto 4, 3) := by decide +kernel
theorem dX1_countJoints_41 : decode cX1_countJoints 41 = .ok (.iconst 0, 1) := by decide +kernel
theorem dX1_countJoints_42 : decode cX1_countJoints 42 = .ok (.iadd, 1) := by decide +kernel
theorem dX1_countJoints_43 : decode cX1_countJoints 43 = .ok (.istore_n 2, 1) := by decide +kernel
theorem dX1_countJoints_44 : decode cX1_countJoints 44 = .ok (.iload_n 2, 1) := by decide +kernel
theorem dX1_countJoints_45 : decode cX1_countJoints 45 = .ok (.aload_n 0, 1) := by decide +kernel
theorem dX1_countJoints_46 : decode cX1_countJoints 46 = .ok (.iload 4, 2) := by decide +kernel
theorem dX1_countJoints_48 : decode cX1_countJoints 48 = .ok (.iload_n 3, 1) := by decide +kernel
theorem dX1_countJoints_49 : decode cX1_countJoints 49 = .ok (.iconst 1, 1) := by decide +kernel
theorem dX1_countJoints_50 : decode cX1_countJoints 50 = .ok (.invokevirtual 62, 3) := by decide +kernel
theorem dX1_countJoints_53 : decode cX1_countJoints 53 = .ok (.iload_n 1, 1) := by decide +kernel
theorem dX1_countJoints_54 : decode cX1_countJoints 54 = .ok (.if_icmp .ne 7, 3) := by decide +kernel
theorem dX1_countJoints_57 : decode cX1_countJoints 57 = .ok (.iconst 1, 1) := by decide +kernel
theorem dX1_countJoints_58 : decode cX1_countJoints 58 = .ok (.goto 4, 3) := by decide +kernel
theorem dX1_countJoints_61 : decode cX1_countJoints 61 = .ok (.iconst 0, 1) := by decide +kernel
theorem dX1_countJoints_62 : decode cX1_countJoints 62 = .ok (.iadd, 1) := by decide +kernel
theorem dX1_countJoints_63 : decode cX1_countJoints 63 = .ok (.istore_n 2, 1) := by decide +kernel
theorem dX1_countJoints_64 : decode cX1_countJoints 64 = .ok (.iinc 4 1, 3) := by decide +kernel
theorem dX1_countJoints_67 : decode cX1_countJoints 67 = .ok (.goto (-52), 3) := by decide +kernel
theorem dX1_countJoints_70 : decode cX1_countJoints 70 = .ok (.iinc 3 1, 3) := by decide +kernel
theorem dX1_countJoints_73 : decode cX1_countJoints 73 = .ok (.goto (-69), 3) := by decide +kernel
theorem dX1_countJoints_76 : decode cX1_countJoints 76 = .ok (.iload_n 2, 1) := by decide +kernel
theorem dX1_countJoints_77 : decode cX1_countJoints 77 = .ok (.ireturn, 1) := by decide +kernel
theorem dX1_isLike_0 : decode cX1_isLike 0 = .ok (.aload_n 0, 1) := by decide +kernel
theorem dX1_isLike_1 : decode cX1_isLike 1 = .ok (.getfield 15, 3) := by decide +kernel
theorem dX1_isLike_4 : decode cX1_isLike 4 = .ok (.aload_n 1, 1) := by decide +kernel
theorem dX1_isLike_5 : decode cX1_isLike 5 = .ok (.getfield 15, 3) := by decide +kernel
theorem dX1_isLike_8 : decode cX1_isLike 8 = .ok (.if_icmp .ne 14, 3) := by decide +kernel
theorem dX1_isLike_11 : decode cX1_isLike 11 = .ok (.aload_n 0, 1) := by decide +kernel
theorem dX1_isLike_12 : decode cX1_isLike 12 = .ok (.getfield 19, 3) := by decide +kernel
theorem dX1_isLike_15 : decode cX1_isLike 15 = .ok (.aload_n 1, 1) := by decide +kernel
theorem dX1_isLike_16 : decode cX1_isLike 16 = .ok (.getfield 19, 3) := by decide +kernel
theorem dX1_isLike_19 : decode cX1_isLike 19 = .ok (.if_icmp .eq 5, 3) := by decide +kernel
theorem dX1_isLike_22 : decode cX1_isLike 22 = .ok (.iconst 0, 1) := by decide +kernel
theorem dX1_isLike_23 : decode cX1_isLike 23 = .ok (.ireturn, 1) := by decide +kernel
theorem dX1_isLike_24 : decode cX1_isLike 24 = .ok (.iload_n 2, 1) := by decide +kernel
theorem dX1_isLike_25 : decode cX1_isLike 25 = .ok (.ifCond .eq 8, 3) := by decide +kernel
theorem dX1_isLike_28 : decode cX1_isLike 28 = .ok (.bipush 16, 2) := by decide +kernel
theorem dX1_isLike_30 : decode cX1_isLike 30 = .ok (.goto 4, 3) := by decide +kernel
theorem dX1_isLike_33 : decode cX1_isLike 33 = .ok (.iconst 0, 1) := by decide +kernel
theorem dX1_isLike_34 : decode cX1_isLike 34 = .ok (.iload_n 3, 1) := by decide +kernel
theorem dX1_isLike_35 : decode cX1_isLike 35 = .ok (.ifCond .eq 8, 3) := by decide +kernel
theorem dX1_isLike_38 : decode cX1_isLike 38 = .ok (.bipush 32, 2) := by decide +kernel
theorem dX1_isLike_40 : decode cX1_isLike 40 = .ok (.goto 4, 3) := by decide +kernel
theorem dX1_isLike_43 : decode cX1_isLike 43 = .ok (.iconst 0, 1) := by decide +kernel
theorem dX1_isLike_44 : decode cX1_isLike 44 = .ok (.ior, 1) := by decide +kernel
theorem dX1_isLike_45 : decode cX1_isLike 45 = .ok (.istore 4, 2) := by decide +kernel
theorem dX1_isLike_47 : decode cX1_isLike 47 = .ok (.iconst 0, 1) := by decide +kernel
theorem dX1_isLike_48 : decode cX1_isLike 48 = .ok (.istore 5, 2) := by decide +kernel
theorem dX1_isLike_50 : decode cX1_isLike 50 = .ok (.iload 5, 2) := by decide +kernel
theorem dX1_isLike_52 : decode cX1_isLike 52 = .ok (.aload_n 0, 1) := by decide +kernel
theorem dX1_isLike_53 : decode cX1_isLike 53 = .ok (.getfield 19, 3) := by decide +kernel
theorem dX1_isLike_56 : decode cX1_isLike 56 = .ok (.if_icmp .ge 95, 3) := by decide +kernel
theorem dX1_isLike_59 : decode cX1_isLike 59 = .ok (.iconst 0, 1) := by decide +kernel
theorem dX1_isLike_60 : decode cX1_isLike 60 = .ok (.istore 6, 2) := by decide +kernel
theorem dX1_isLike_62 : decode cX1_isLike 62 = .ok (.iload 6, 2) := by decide +kernel
theorem dX1_isLike_64 : decode cX1_isLike 64 = .ok (.aload_n 0, 1) := by decide +kernel
theorem dX1_isLike_65 : decode cX1_isLike 65 = .ok (.getfield 15, 3) := by decide +kernel
theorem dX1_isLike_68 : decode cX1_isLike 68 = .ok (.if_icmp .ge 77, 3) := by decide +kernel
theorem dX1_isLike_71 : decode cX1_isLike 71 = .ok (.iload_n 2, 1) := by decide +kernel
theorem dX1_isLike_72 : decode cX1_isLike 72 = .ok (.ifCond .eq 15, 3) := by decide +kernel
theorem dX1_isLike_75 : decode cX1_isLike 75 = .ok (.aload_n 0, 1) := by decide +kernel
theorem dX1_isLike_76 : decode cX1_isLike 76 = .ok (.getfield 15, 3) := by decide +kernel
theorem dX1_isLike_79 : decode cX1_isLike 79 = .ok (.iconst 1, 1) := by decide +kernel
theorem dX1_isLike_80 : decode cX1_isLike 80 = .ok (.isub, 1) := by decide +kernel
theorem dX1_isLike_81 : decode cX1_isLike 81 = .ok (.iload 6, 2) := by decide +kernel
theorem dX1_isLike_83 : decode cX1_isLike 83 = .ok (.isub, 1) := by decide +kernel
theorem dX1_isLike_84 : decode cX1_isLike 84 = .ok (.goto 5, 3) := by decide +kernel
theorem dX1_isLike_87 : decode cX1_isLike 87 = .ok (.iload 6, 2) := by decide +kernel
theorem dX1_isLike_89 : decode cX1_isLike 89 = .ok (.istore 7, 2) := by decide +kernel
theorem dX1_isLike_91 : decode cX1_isLike 91 = .ok (.iload_n 3, 1) := by decide +kernel
theorem dX1_isLike_92 : decode cX1_isLike 92 = .ok (.ifCond .eq 15, 3) := by decide +kernel
theorem dX1_isLike_95 : decode cX1_isLike 95 = .ok (.aload_n 0, 1) := by decide +kernel
theorem dX1_isLike_96 : decode cX1_isLike 96 = .ok (.getfield 19, 3) := by decide +kernel
theorem dX1_isLike_99 : decode cX1_isLike 99 = .ok (.iconst 1, 1) := by decide +kernel
theorem dX1_isLike_100 : decode cX1_isLike 100 = .ok (.isub, 1) := by decide +kernel
theorem dX1_isLike_101 : decode cX1_isLike 101 = .ok (.iload 5, 2) := by decide +kernel
theorem dX1_isLike_103 : decode cX1_isLike 103 = .ok (.isub, 1) := by decide +kernel
theorem dX1_isLike_104 : decode cX1_isLike 104 = .ok (.goto 5, 3) := by decide +kernel
theorem dX1_isLike_107 : decode cX1_isLike 107 = .ok (.iload 5, 2) := by decide +kernel
theorem dX1_isLike_109 : decode cX1_isLike 109 = .ok (.istore 8, 2) := by decide +kernel
theorem dX1_isLike_111 : decode cX1_isLike 111 = .ok (.aload_n 1, 1) := by decide +kernel
theorem dX1_isLike_112 : decode cX1_isLike 112 = .ok (.iload 7, 2) := by decide +kernel
theorem dX1_isLike_114 : decode cX1_isLike 114 = .ok (.iload 8, 2) := by decide +kernel
theorem dX1_isLike_116 : decode cX1_isLike 116 = .ok (.invokevirtual 26, 3) := by decide +kernel
theorem dX1_isLike_119 : decode cX1_isLike 119 = .ok (.iload 4, 2) := by decide +kernel
theorem dX1_isLike_121 : decode cX1_isLike 121 = .ok (.ixor, 1) := by decide +kernel
theorem dX1_isLike_122 : decode cX1_isLike 122 = .ok (.istore 9, 2) := by decide +kernel
theorem dX1_isLike_124 : decode cX1_isLike 124 = .ok (.aload_n 0, 1) := by decide +kernel
theorem dX1_isLike_125 : decode cX1_isLike 125 = .ok (.iload 6, 2) := by decide +kernel
theorem dX1_isLike_127 : decode cX1_isLike 127 = .ok (.iload 5, 2) := by decide +kernel
theorem dX1_isLike_129 : decode cX1_isLike 129 = .ok (.invokevirtual 26, 3) := by decide +kernel
theorem dX1_isLike_132 : decode cX1_isLike 132 = .ok (.iload 9, 2) := by decide +kernel
theorem dX1_isLike_134 : decode cX1_isLike 134 = .ok (.if_icmp .eq 5, 3) := by decide +kernel
theorem dX1_isLike_137 : decode cX1_isLike 137 = .ok (.iconst 0, 1) := by decide +kernel
theorem dX1_isLike_138 : decode cX1_isLike 138 = .ok (.ireturn, 1) := by decide +kernel
theorem dX1_isLike_139 : decode cX1_isLike 139 = .ok (.iinc 6 1, 3) := by decide +kernel
theorem dX1_isLike_142 : decode cX1_isLike 142 = .ok (.goto (-80), 3) := by decide +kernel
theorem dX1_isLike_145 : decode cX1_isLike 145 = .ok (.iinc 5 1, 3) := by decide +kernel
theorem dX1_isLike_148 : decode cX1_isLike 148 = .ok (.goto (-98), 3) := by decide +kernel
theorem dX1_isLike_151 : decode cX1_isLike 151 = .ok (.iconst 1, 1) := by decide +kernel
theorem dX1_isLike_152 : decode cX1_isLike 152 = .ok (.ireturn, 1) := by decide +kernel
theorem dX2_init_0 : decode cX2_init 0 = .ok (.aload_n 0, 1) := by decide +kernel
theorem dX2_init_1 : decode cX2_init 1 = .ok (.invokespecial 3, 3) := by decide +kernel
theorem dX2_init_4 : decode cX2_init 4 = .ok (.aload_n 0, 1) := by decide +kernel
theorem dX2_init_5 : decode cX2_init 5 = .ok (.bipush 10, 2) := by decide +kernel
theorem dX2_init_7 : decode cX2_init 7 = .ok (.newarray .int, 2) := by decide +kernel
theorem dX2_init_9 : decode cX2_init 9 = .ok (.putfield 9, 3) := by decide +kernel
theorem dX2_init_12 : decode cX2_init 12 = .ok (.return_, 1) := by decide +kernel
theorem dX2_reason_0 : decode cX2_reason 0 = .ok (.aload_n 0, 1) := by decide +kernel
theorem dX2_reason_1 : decode cX2_reason 1 = .ok (.getfield 9, 3) := by decide +kernel
theorem dX2_reason_4 : decode cX2_reason 4 = .ok (.iconst 0, 1) := by decide +kernel
theorem dX2_reason_5 : decode cX2_reason 5 = .ok (.invokestatic 15, 3) := by decide +kernel
theorem dX2_reason_8 : decode cX2_reason 8 = .ok (.iconst 0, 1) := by decide +kernel
theorem dX2_reason_9 : decode cX2_reason 9 = .ok (.istore 6, 2) := by decide +kernel
theorem dX2_reason_11 : decode cX2_reason 11 = .ok (.iload 6, 2) := by decide +kernel
theorem dX2_reason_13 : decode cX2_reason 13 = .ok (.aload_n 1, 1) := by decide +kernel
theorem dX2_reason_14 : decode cX2_reason 14 = .ok (.getfield 21, 3) := by decide +kernel
theorem dX2_reason_17 : decode cX2_reason 17 = .ok (.getfield 27, 3) := by decide +kernel
theorem dX2_reason_20 : decode cX2_reason 20 = .ok (.if_icmp .ge 98, 3) := by decide +kernel
theorem dX2_reason_23 : decode cX2_reason 23 = .ok (.iconst 0, 1) := by decide +kernel
theorem dX2_reason_24 : decode cX2_reason 24 = .ok (.istore 7, 2) := by decide +kernel
theorem dX2_reason_26 : decode cX2_reason 26 = .ok (.iload 7, 2) := by decide +kernel
theorem dX2_reason_28 : decode cX2_reason 28 = .ok (.aload_n 1, 1) := by decide +kernel
theorem dX2_reason_29 : decode cX2_reason 29 = .ok (.getfield 21, 3) := by decide +kernel
theorem dX2_reason_32 : decode cX2_reason 32 = .ok (.getfield 33, 3) := by decide +kernel
theorem dX2_reason_35 : decode cX2_reason 35 = .ok (.if_icmp .ge 77, 3) := by decide +kernel
theorem dX2_reason_38 : decode cX2_reason 38 = .ok (.aload_n 1, 1) := by decide +kernel
theorem dX2_reason_39 : decode cX2_reason 39 = .ok (.getfield 21, 3) := by decide +kernel
theorem dX2_reason_42 : decode cX2_reason 42 = .ok (.iload 7, 2) := by decide +kernel
theorem dX2_reason_44 : decode cX2_reason 44 = .ok (.iload 6, 2) := by decide +kernel
theorem dX2_reason_46 : decode cX2_reason 46 = .ok (.invokevirtual 36, 3) := by decide +kernel
theorem dX2_reason_49 : decode cX2_reason 49 = .ok (.istore 8, 2) := by decide +kernel
theorem dX2_reason_51 : decode cX2_reason 51 = .ok (.iload 4, 2) := by decide +kernel
theorem dX2_reason_53 : decode cX2_reason 53 = .ok (.i2l, 1) := by decide +kernel
theorem dX2_reason_54 : decode cX2_reason 54 = .ok (.aload_n 0, 1) := by decide +kernel
theorem dX2_reason_55 : decode cX2_reason 55 = .ok (.getfield 9, 3) := by decide +kernel
theorem dX2_reason_58 : decode cX2_reason 58 = .ok (.iload 8, 2) := by decide +kernel
theorem dX2_reason_60 : decode cX2_reason 60 = .ok (.iaload, 1) := by decide +kernel
theorem dX2_reason_61 : decode cX2_reason 61 = .ok (.aload_n 1, 1) := by decide +kernel
theorem dX2_reason_62 : decode cX2_reason 62 = .ok (.getfield 40, 3) := by decide +kernel
theorem dX2_reason_65 : decode cX2_reason 65 = .ok (.imul, 1) := by decide +kernel
theorem dX2_reason_66 : decode cX2_reason 66 = .ok (.i2l, 1) := by decide +kernel
theorem dX2_reason_67 : decode cX2_reason 67 = .ok (.ladd, 1) := by decide +kernel
theorem dX2_reason_68 : decode cX2_reason 68 = .ok (.lstore 9, 2) := by decide +kernel
theorem dX2_reason_70 : decode cX2_reason 70 = .ok (.aload_n 1, 1) := by decide +kernel
theorem dX2_reason_71 : decode cX2_reason 71 = .ok (.aload_n 2, 1) := by decide +kernel
theorem dX2_reason_72 : decode cX2_reason 72 = .ok (.iload_n 3, 1) := by decide +kernel
theorem dX2_reason_73 : decode cX2_reason 73 = .ok (.i2l, 1) := by decide +kernel
theorem dX2_reason_74 : decode cX2_reason 74 = .ok (.iload 8, 2) := by decide +kernel
theorem dX2_reason_76 : decode cX2_reason 76 = .ok (.i2l, 1) := by decide +kernel
theorem dX2_reason_77 : decode cX2_reason 77 = .ok (.ladd, 1) := by decide +kernel
theorem dX2_reason_78 : decode cX2_reason 78 = .ok (.lload 9, 2) := by decide +kernel
theorem dX2_reason_80 : decode cX2_reason 80 = .ok (.iload 5, 2) := by decide +kernel
theorem dX2_reason_82 : decode cX2_reason 82 = .ok (.invokestatic 41, 3) := by decide +kernel
theorem dX2_reason_85 : decode cX2_reason 85 = .ok (.istore 11, 2) := by decide +kernel
theorem dX2_reason_87 : decode cX2_reason 87 = .ok (.iload 11, 2) := by decide +kernel
theorem dX2_reason_89 : decode cX2_reason 89 = .ok (.ifCond .eq 6, 3) := by decide +kernel
theorem dX2_reason_92 : decode cX2_reason 92 = .ok (.iload 11, 2) := by decide +kernel
theorem dX2_reason_94 : decode cX2_reason 94 = .ok (.ireturn, 1) := by decide +kernel
theorem dX2_reason_95 : decode cX2_reason 95 = .ok (.aload_n 0, 1) := by decide +kernel
theorem dX2_reason_96 : decode cX2_reason 96 = .ok (.getfield 9, 3) := by decide +kernel
theorem dX2_reason_99 : decode cX2_reason 99 = .ok (.iload 8, 2) := by decide +kernel
theorem dX2_reason_101 : decode cX2_reason 101 = .ok (.dup2, 1) := by decide +kernel
theorem dX2_reason_102 : decode cX2_reason 102 = .ok (.iaload, 1) := by decide +kernel
theorem dX2_reason_103 : decode cX2_reason 103 = .ok (.iconst 1, 1) := by decide +kernel
theorem dX2_reason_104 : decode cX2_reason 104 = .ok (.iadd, 1) := by decide +kernel
theorem dX2_reason_105 : decode cX2_reason 105 = .ok (.iastore, 1) := by decide +kernel
theorem dX2_reason_106 : decode cX2_reason 106 = .ok (.iinc 7 1, 3) := by decide +kernel
theorem dX2_reason_109 : decode cX2_reason 109 = .ok (.goto (-83), 3) := by decide +kernel
theorem dX2_reason_112 : decode cX2_reason 112 = .ok (.iinc 6 1, 3) := by decide +kernel
theorem dX2_reason_115 : decode cX2_reason 115 = .ok (.goto (-104), 3) := by decide +kernel
theorem dX2_reason_118 : decode cX2_reason 118 = .ok (.aload_n 1, 1) := by decide +kernel
theorem dX2_reason_119 : decode cX2_reason 119 = .ok (.aload_n 2, 1) := by decide +kernel
theorem dX2_reason_120 : decode cX2_reason 120 = .ok (.invokestatic 45, 3) := by decide +kernel
theorem dX2_reason_123 : decode cX2_reason 123 = .ok (.ifCond .eq 7, 3) := by decide +kernel
theorem dX2_reason_126 : decode cX2_reason 126 = .ok (.iconst 5, 1) := by decide +kernel
theorem dX2_reason_127 : decode cX2_reason 127 = .ok (.goto 4, 3) := by decide +kernel
theorem dX2_reason_130 : decode cX2_reason 130 = .ok (.iconst 0, 1) := by decide +kernel
theorem dX2_reason_131 : decode cX2_reason 131 = .ok (.ireturn, 1) := by decide +kernel
theorem dX2_reasonOfCut_0 : decode cX2_reasonOfCut 0 = .ok (.aload_n 1, 1) := by decide +kernel
theorem dX2_reasonOfCut_1 : decode cX2_reasonOfCut 1 = .ok (.lload_n 2, 1) := by decide +kernel
theorem dX2_reasonOfCut_2 : decode cX2_reasonOfCut 2 = .ok (.invokevirtual 49, 3) := by decide +kernel
theorem dX2_reasonOfCut_5 : decode cX2_reasonOfCut 5 = .ok (.ifCond .ne 5, 3) := by decide +kernel
theorem dX2_reasonOfCut_8 : decode cX2_reasonOfCut 8 = .ok (.iconst 1, 1) := by decide +kernel
theorem dX2_reasonOfCut_9 : decode cX2_reasonOfCut 9 = .ok (.ireturn, 1) := by decide +kernel
theorem dX2_reasonOfCut_10 : decode cX2_reasonOfCut 10 = .ok (.lload_n 2, 1) := by decide +kernel
theorem dX2_reasonOfCut_11 : decode cX2_reasonOfCut 11 = .ok (.l2i, 1) := by decide +kernel
theorem dX2_reasonOfCut_12 : decode cX2_reasonOfCut 12 = .ok (.istore 7, 2) := by decide +kernel
theorem dX2_reasonOfCut_14 : decode cX2_reasonOfCut 14 = .ok (.aload_n 1, 1) := by decide +kernel
theorem dX2_reasonOfCut_15 : decode cX2_reasonOfCut 15 = .ok (.iload 7, 2) := by decide +kernel
theorem dX2_reasonOfCut_17 : decode cX2_reasonOfCut 17 = .ok (.iload 6, 2) := by decide +kernel
theorem dX2_reasonOfCut_19 : decode cX2_reasonOfCut 19 = .ok (.lload 4, 2) := by decide +kernel
theorem dX2_reasonOfCut_21 : decode cX2_reasonOfCut 21 = .ok (.aload_n 0, 1) := by decide +kernel
theorem dX2_reasonOfCut_22 : decode cX2_reasonOfCut 22 = .ok (.getfield 55, 3) := by decide +kernel
theorem dX2_reasonOfCut_25 : decode cX2_reasonOfCut 25 = .ok (.aload_n 0, 1) := by decide +kernel
theorem dX2_reasonOfCut_26 : decode cX2_reasonOfCut 26 = .ok (.getfield 40, 3) := by decide +kernel
theorem dX2_reasonOfCut_29 : decode cX2_reasonOfCut 29 = .ok (.invokevirtual 56, 3) := by decide +kernel
theorem dX2_reasonOfCut_32 : decode cX2_reasonOfCut 32 = .ok (.ifCond .ne 5, 3) := by decide +kernel
theorem dX2_reasonOfCut_35 : decode cX2_reasonOfCut 35 = .ok (.iconst 2, 1) := by decide +kernel
theorem dX2_reasonOfCut_36 : decode cX2_reasonOfCut 36 = .ok (.ireturn, 1) := by decide +kernel
theorem dX2_reasonOfCut_37 : decode cX2_reasonOfCut 37 = .ok (.lload 4, 2) := by decide +kernel
theorem dX2_reasonOfCut_39 : decode cX2_reasonOfCut 39 = .ok (.l2i, 1) := by decide +kernel
theorem dX2_reasonOfCut_40 : decode cX2_reasonOfCut 40 = .ok (.istore 8, 2) := by decide +kernel
theorem dX2_reasonOfCut_42 : decode cX2_reasonOfCut 42 = .ok (.aload_n 1, 1) := by decide +kernel
theorem dX2_reasonOfCut_43 : decode cX2_reasonOfCut 43 = .ok (.iload 7, 2) := by decide +kernel
theorem dX2_reasonOfCut_45 : decode cX2_reasonOfCut 45 = .ok (.iload 6, 2) := by decide +kernel
theorem dX2_reasonOfCut_47 : decode cX2_reasonOfCut 47 = .ok (.iload 8, 2) := by decide +kernel
theorem dX2_reasonOfCut_49 : decode cX2_reasonOfCut 49 = .ok (.aload_n 0, 1) := by decide +kernel
theorem dX2_reasonOfCut_50 : decode cX2_reasonOfCut 50 = .ok (.getfield 55, 3) := by decide +kernel
theorem dX2_reasonOfCut_53 : decode cX2_reasonOfCut 53 = .ok (.aload_n 0, 1) := by decide +kernel
theorem dX2_reasonOfCut_54 : decode cX2_reasonOfCut 54 = .ok (.getfield 40, 3) := by decide +kernel
theorem dX2_reasonOfCut_57 : decode cX2_reasonOfCut 57 = .ok (.invokevirtual 60, 3) := by decide +kernel
theorem dX2_reasonOfCut_60 : decode cX2_reasonOfCut 60 = .ok (.ifCond .eq 5, 3) := by decide +kernel
theorem dX2_reasonOfCut_63 : decode cX2_reasonOfCut 63 = .ok (.iconst 3, 1) := by decide +kernel
theorem dX2_reasonOfCut_64 : decode cX2_reasonOfCut 64 = .ok (.ireturn, 1) := by decide +kernel
theorem dX2_reasonOfCut_65 : decode cX2_reasonOfCut 65 = .ok (.aload_n 1, 1) := by decide +kernel
theorem dX2_reasonOfCut_66 : decode cX2_reasonOfCut 66 = .ok (.iload 7, 2) := by decide +kernel
theorem dX2_reasonOfCut_68 : decode cX2_reasonOfCut 68 = .ok (.iload 6, 2) := by decide +kernel
theorem dX2_reasonOfCut_70 : decode cX2_reasonOfCut 70 = .ok (.iload 8, 2) := by decide +kernel
theorem dX2_reasonOfCut_72 : decode cX2_reasonOfCut 72 = .ok (.aload_n 0, 1) := by decide +kernel
theorem dX2_reasonOfCut_73 : decode cX2_reasonOfCut 73 = .ok (.getfield 55, 3) := by decide +kernel
theorem dX2_reasonOfCut_76 : decode cX2_reasonOfCut 76 = .ok (.aload_n 0, 1) := by decide +kernel
theorem dX2_reasonOfCut_77 : decode cX2_reasonOfCut 77 = .ok (.getfield 40, 3) := by decide +kernel
theorem dX2_reasonOfCut_80 : decode cX2_reasonOfCut 80 = .ok (.invokevirtual 64, 3) := by decide +kernel
theorem dX2_reasonOfCut_83 : decode cX2_reasonOfCut 83 = .ok (.ifCond .eq 7, 3) := by decide +kernel
theorem dX2_reasonOfCut_86 : decode cX2_reasonOfCut 86 = .ok (.iconst 4, 1) := by decide +kernel
theorem dX2_reasonOfCut_87 : decode cX2_reasonOfCut 87 = .ok (.goto 4, 3) := by decide +kernel
theorem dX2_reasonOfCut_90 : decode cX2_reasonOfCut 90 = .ok (.iconst 0, 1) := by decide +kernel
theorem dX2_reasonOfCut_91 : decode cX2_reasonOfCut 91 = .ok (.ireturn, 1) := by decide +kernel
theorem dX2_areTonesApart_0 : decode cX2_areTonesApart 0 = .ok (.aload_n 0, 1) := by decide +kernel
theorem dX2_areTonesApart_1 : decode cX2_areTonesApart 1 = .ok (.getfield 67, 3) := by decide +kernel
theorem dX2_areTonesApart_4 : decode cX2_areTonesApart 4 = .ok (.aload_n 0, 1) := by decide +kernel
theorem dX2_areTonesApart_5 : decode cX2_areTonesApart 5 = .ok (.getfield 70, 3) := by decide +kernel
theorem dX2_areTonesApart_8 : decode cX2_areTonesApart 8 = .ok (.isub, 1) := by decide +kernel
theorem dX2_areTonesApart_9 : decode cX2_areTonesApart 9 = .ok (.istore_n 2, 1) := by decide +kernel
theorem dX2_areTonesApart_10 : decode cX2_areTonesApart 10 = .ok (.iload_n 2, 1) := by decide +kernel
theorem dX2_areTonesApart_11 : decode cX2_areTonesApart 11 = .ok (.aload_n 1, 1) := by decide +kernel
theorem dX2_areTonesApart_12 : decode cX2_areTonesApart 12 = .ok (.getfield 73, 3) := by decide +kernel
theorem dX2_areTonesApart_15 : decode cX2_areTonesApart 15 = .ok (.invokestatic 76, 3) := by decide +kernel
theorem dX2_areTonesApart_18 : decode cX2_areTonesApart 18 = .ok (.imul, 1) := by decide +kernel
theorem dX2_areTonesApart_19 : decode cX2_areTonesApart 19 = .ok (.aload_n 0, 1) := by decide +kernel
theorem dX2_areTonesApart_20 : decode cX2_areTonesApart 20 = .ok (.getfield 82, 3) := by decide +kernel
theorem dX2_areTonesApart_23 : decode cX2_areTonesApart 23 = .ok (.if_icmp .le 7, 3) := by decide +kernel
theorem dX2_areTonesApart_26 : decode cX2_areTonesApart 26 = .ok (.iconst 1, 1) := by decide +kernel
theorem dX2_areTonesApart_27 : decode cX2_areTonesApart 27 = .ok (.goto 4, 3) := by decide +kernel
theorem dX2_areTonesApart_30 : decode cX2_areTonesApart 30 = .ok (.iconst 0, 1) := by decide +kernel
theorem dX2_areTonesApart_31 : decode cX2_areTonesApart 31 = .ok (.ireturn, 1) := by decide +kernel
theorem dX2_find_0 : decode cX2_find 0 = .ok (.aload_n 1, 1) := by decide +kernel
theorem dX2_find_1 : decode cX2_find 1 = .ok (.aload_n 2, 1) := by decide +kernel
theorem dX2_find_2 : decode cX2_find 2 = .ok (.invokestatic 45, 3) := by decide +kernel
theorem dX2_find_5 : decode cX2_find 5 = .ok (.ifCond .eq 5, 3) := by decide +kernel
theorem dX2_find_8 : decode cX2_find 8 = .ok (.iconst 0, 1) := by decide +kernel
theorem dX2_find_9 : decode cX2_find 9 = .ok (.ireturn, 1) := by decide +kernel
theorem dX2_find_10 : decode cX2_find 10 = .ok (.iconst 0, 1) := by decide +kernel
theorem dX2_find_11 : decode cX2_find 11 = .ok (.istore_n 3, 1) := by decide +kernel
theorem dX2_find_12 : decode cX2_find 12 = .ok (.iload_n 3, 1) := by decide +kernel
theorem dX2_find_13 : decode cX2_find 13 = .ok (.aload_n 1, 1) := by decide +kernel
theorem dX2_find_14 : decode cX2_find 14 = .ok (.getfield 67, 3) := by decide +kernel
theorem dX2_find_17 : decode cX2_find 17 = .ok (.iadd, 1) := by decide +kernel
theorem dX2_find_18 : decode cX2_find 18 = .ok (.aload_n 2, 1) := by decide +kernel
theorem dX2_find_19 : decode cX2_find 19 = .ok (.getfield 85, 3) := by decide +kernel
theorem dX2_find_22 : decode cX2_find 22 = .ok (.if_icmp .ge 21, 3) := by decide +kernel
theorem dX2_find_25 : decode cX2_find 25 = .ok (.aload_n 0, 1) := by decide +kernel
theorem dX2_find_26 : decode cX2_find 26 = .ok (.aload_n 1, 1) := by decide +kernel
theorem dX2_find_27 : decode cX2_find 27 = .ok (.aload_n 2, 1) := by decide +kernel
theorem dX2_find_28 : decode cX2_find 28 = .ok (.iload_n 3, 1) := by decide +kernel
theorem dX2_find_29 : decode cX2_find 29 = .ok (.invokevirtual 88, 3) := by decide +kernel
theorem dX2_find_32 : decode cX2_find 32 = .ok (.ifCond .eq 5, 3) := by decide +kernel
theorem dX2_find_35 : decode cX2_find 35 = .ok (.iconst 1, 1) := by decide +kernel
theorem dX2_find_36 : decode cX2_find 36 = .ok (.ireturn, 1) := by decide +kernel
theorem dX2_find_37 : decode cX2_find 37 = .ok (.iinc 3 1, 3) := by decide +kernel
theorem dX2_find_40 : decode cX2_find 40 = .ok (.goto (-28), 3) := by decide +kernel
theorem dX2_find_43 : decode cX2_find 43 = .ok (.iconst 0, 1) := by decide +kernel
theorem dX2_find_44 : decode cX2_find 44 = .ok (.ireturn, 1) := by decide +kernel
theorem dX2_findFrom_0 : decode cX2_findFrom 0 = .ok (.aload_n 2, 1) := by decide +kernel
theorem dX2_findFrom_1 : decode cX2_findFrom 1 = .ok (.iload_n 3, 1) := by decide +kernel
theorem dX2_findFrom_2 : decode cX2_findFrom 2 = .ok (.aload_n 1, 1) := by decide +kernel
theorem dX2_findFrom_3 : decode cX2_findFrom 3 = .ok (.getfield 70, 3) := by decide +kernel
theorem dX2_findFrom_6 : decode cX2_findFrom 6 = .ok (.iadd, 1) := by decide +kernel
theorem dX2_findFrom_7 : decode cX2_findFrom 7 = .ok (.invokevirtual 92, 3) := by decide +kernel
theorem dX2_findFrom_10 : decode cX2_findFrom 10 = .ok (.aload_n 1, 1) := by decide +kernel
theorem dX2_findFrom_11 : decode cX2_findFrom 11 = .ok (.getfield 55, 3) := by decide +kernel
theorem dX2_findFrom_14 : decode cX2_findFrom 14 = .ok (.isub, 1) := by decide +kernel
theorem dX2_findFrom_15 : decode cX2_findFrom 15 = .ok (.istore 4, 2) := by decide +kernel
theorem dX2_findFrom_17 : decode cX2_findFrom 17 = .ok (.aload_n 2, 1) := by decide +kernel
theorem dX2_findFrom_18 : decode cX2_findFrom 18 = .ok (.getfield 95, 3) := by decide +kernel
theorem dX2_findFrom_21 : decode cX2_findFrom 21 = .ok (.aload_n 1, 1) := by decide +kernel
theorem dX2_findFrom_22 : decode cX2_findFrom 22 = .ok (.getfield 40, 3) := by decide +kernel
theorem dX2_findFrom_25 : decode cX2_findFrom 25 = .ok (.isub, 1) := by decide +kernel
theorem dX2_findFrom_26 : decode cX2_findFrom 26 = .ok (.istore 5, 2) := by decide +kernel
theorem dX2_findFrom_28 : decode cX2_findFrom 28 = .ok (.aload_n 1, 1) := by decide +kernel
theorem dX2_findFrom_29 : decode cX2_findFrom 29 = .ok (.getfield 70, 3) := by decide +kernel
theorem dX2_findFrom_32 : decode cX2_findFrom 32 = .ok (.istore 6, 2) := by decide +kernel
theorem dX2_findFrom_34 : decode cX2_findFrom 34 = .ok (.iload 6, 2) := by decide +kernel
theorem dX2_findFrom_36 : decode cX2_findFrom 36 = .ok (.aload_n 1, 1) := by decide +kernel
theorem dX2_findFrom_37 : decode cX2_findFrom 37 = .ok (.getfield 67, 3) := by decide +kernel
theorem dX2_findFrom_40 : decode cX2_findFrom 40 = .ok (.if_icmp .gt 57, 3) := by decide +kernel
theorem dX2_findFrom_43 : decode cX2_findFrom 43 = .ok (.aload_n 1, 1) := by decide +kernel
theorem dX2_findFrom_44 : decode cX2_findFrom 44 = .ok (.getfield 98, 3) := by decide +kernel
theorem dX2_findFrom_47 : decode cX2_findFrom 47 = .ok (.iload 6, 2) := by decide +kernel
theorem dX2_findFrom_49 : decode cX2_findFrom 49 = .ok (.iaload, 1) := by decide +kernel
theorem dX2_findFrom_50 : decode cX2_findFrom 50 = .ok (.ifCond .le 41, 3) := by decide +kernel
theorem dX2_findFrom_53 : decode cX2_findFrom 53 = .ok (.iload 4, 2) := by decide +kernel
theorem dX2_findFrom_55 : decode cX2_findFrom 55 = .ok (.aload_n 2, 1) := by decide +kernel
theorem dX2_findFrom_56 : decode cX2_findFrom 56 = .ok (.iload_n 3, 1) := by decide +kernel
theorem dX2_findFrom_57 : decode cX2_findFrom 57 = .ok (.iload 6, 2) := by decide +kernel
theorem dX2_findFrom_59 : decode cX2_findFrom 59 = .ok (.iadd, 1) := by decide +kernel
theorem dX2_findFrom_60 : decode cX2_findFrom 60 = .ok (.invokevirtual 92, 3) := by decide +kernel
theorem dX2_findFrom_63 : decode cX2_findFrom 63 = .ok (.aload_n 1, 1) := by decide +kernel
theorem dX2_findFrom_64 : decode cX2_findFrom 64 = .ok (.getfield 55, 3) := by decide +kernel
theorem dX2_findFrom_67 : decode cX2_findFrom 67 = .ok (.isub, 1) := by decide +kernel
theorem dX2_findFrom_68 : decode cX2_findFrom 68 = .ok (.invokestatic 101, 3) := by decide +kernel
theorem dX2_findFrom_71 : decode cX2_findFrom 71 = .ok (.istore 4, 2) := by decide +kernel
theorem dX2_findFrom_73 : decode cX2_findFrom 73 = .ok (.iload 5, 2) := by decide +kernel
theorem dX2_findFrom_75 : decode cX2_findFrom 75 = .ok (.aload_n 2, 1) := by decide +kernel
theorem dX2_findFrom_76 : decode cX2_findFrom 76 = .ok (.getfield 95, 3) := by decide +kernel
theorem dX2_findFrom_79 : decode cX2_findFrom 79 = .ok (.aload_n 1, 1) := by decide +kernel
theorem dX2_findFrom_80 : decode cX2_findFrom 80 = .ok (.iload 6, 2) := by decide +kernel
theorem dX2_findFrom_82 : decode cX2_findFrom 82 = .ok (.invokevirtual 104, 3) := by decide +kernel
theorem dX2_findFrom_85 : decode cX2_findFrom 85 = .ok (.isub, 1) := by decide +kernel
theorem dX2_findFrom_86 : decode cX2_findFrom 86 = .ok (.invokestatic 101, 3) := by decide +kernel
theorem dX2_findFrom_89 : decode cX2_findFrom 89 = .ok (.istore 5, 2) := by decide +kernel
theorem dX2_findFrom_91 : decode cX2_findFrom 91 = .ok (.iinc 6 1, 3) := by decide +kernel
theorem dX2_findFrom_94 : decode cX2_findFrom 94 = .ok (.goto (-60), 3) := by decide +kernel
theorem dX2_findFrom_97 : decode cX2_findFrom 97 = .ok (.iconst 0, 1) := by decide +kernel
theorem dX2_findFrom_98 : decode cX2_findFrom 98 = .ok (.istore 6, 2) := by decide +kernel
theorem dX2_findFrom_100 : decode cX2_findFrom 100 = .ok (.iload 6, 2) := by decide +kernel
theorem dX2_findFrom_102 : decode cX2_findFrom 102 = .ok (.iload 5, 2) := by decide +kernel
theorem dX2_findFrom_104 : decode cX2_findFrom 104 = .ok (.if_icmp .gt 58, 3) := by decide +kernel
theorem dX2_findFrom_107 : decode cX2_findFrom 107 = .ok (.iload 4, 2) := by decide +kernel
theorem dX2_findFrom_109 : decode cX2_findFrom 109 = .ok (.ifCond .lt 53, 3) := by decide +kernel
theorem dX2_findFrom_112 : decode cX2_findFrom 112 = .ok (.aload_n 1, 1) := by decide +kernel
theorem dX2_findFrom_113 : decode cX2_findFrom 113 = .ok (.aload_n 2, 1) := by decide +kernel
theorem dX2_findFrom_114 : decode cX2_findFrom 114 = .ok (.iload_n 3, 1) := by decide +kernel
theorem dX2_findFrom_115 : decode cX2_findFrom 115 = .ok (.iload 6, 2) := by decide +kernel
theorem dX2_findFrom_117 : decode cX2_findFrom 117 = .ok (.invokestatic 107, 3) := by decide +kernel
theorem dX2_findFrom_120 : decode cX2_findFrom 120 = .ok (.aload_n 1, 1) := by decide +kernel
theorem dX2_findFrom_121 : decode cX2_findFrom 121 = .ok (.getfield 55, 3) := by decide +kernel
theorem dX2_findFrom_124 : decode cX2_findFrom 124 = .ok (.iload 4, 2) := by decide +kernel
theorem dX2_findFrom_126 : decode cX2_findFrom 126 = .ok (.invokestatic 111, 3) := by decide +kernel
theorem dX2_findFrom_129 : decode cX2_findFrom 129 = .ok (.istore 7, 2) := by decide +kernel
theorem dX2_findFrom_131 : decode cX2_findFrom 131 = .ok (.iload 7, 2) := by decide +kernel
theorem dX2_findFrom_133 : decode cX2_findFrom 133 = .ok (.iconst (-1), 1) := by decide +kernel
theorem dX2_findFrom_134 : decode cX2_findFrom 134 = .ok (.if_icmp .eq 22, 3) := by decide +kernel
theorem dX2_findFrom_137 : decode cX2_findFrom 137 = .ok (.aload_n 0, 1) := by decide +kernel
theorem dX2_findFrom_138 : decode cX2_findFrom 138 = .ok (.iload_n 3, 1) := by decide +kernel
theorem dX2_findFrom_139 : decode cX2_findFrom 139 = .ok (.putfield 115, 3) := by decide +kernel
theorem dX2_findFrom_142 : decode cX2_findFrom 142 = .ok (.aload_n 0, 1) := by decide +kernel
theorem dX2_findFrom_143 : decode cX2_findFrom 143 = .ok (.iload 6, 2) := by decide +kernel
theorem dX2_findFrom_145 : decode cX2_findFrom 145 = .ok (.putfield 118, 3) := by decide +kernel
theorem dX2_findFrom_148 : decode cX2_findFrom 148 = .ok (.aload_n 0, 1) := by decide +kernel
theorem dX2_findFrom_149 : decode cX2_findFrom 149 = .ok (.iload 7, 2) := by decide +kernel
theorem dX2_findFrom_151 : decode cX2_findFrom 151 = .ok (.putfield 121, 3) := by decide +kernel
theorem dX2_findFrom_154 : decode cX2_findFrom 154 = .ok (.iconst 1, 1) := by decide +kernel
theorem dX2_findFrom_155 : decode cX2_findFrom 155 = .ok (.ireturn, 1) := by decide +kernel
theorem dX2_findFrom_156 : decode cX2_findFrom 156 = .ok (.iinc 6 1, 3) := by decide +kernel
theorem dX2_findFrom_159 : decode cX2_findFrom 159 = .ok (.goto (-59), 3) := by decide +kernel
theorem dX2_findFrom_162 : decode cX2_findFrom 162 = .ok (.iconst 0, 1) := by decide +kernel
theorem dX2_findFrom_163 : decode cX2_findFrom 163 = .ok (.ireturn, 1) := by decide +kernel
theorem dX2_takenColumns_0 : decode cX2_takenColumns 0 = .ok (.lconst 0, 1) := by decide +kernel
theorem dX2_takenColumns_1 : decode cX2_takenColumns 1 = .ok (.lstore 4, 2) := by decide +kernel
theorem dX2_takenColumns_3 : decode cX2_takenColumns 3 = .ok (.aload_n 0, 1) := by decide +kernel
theorem dX2_takenColumns_4 : decode cX2_takenColumns 4 = .ok (.getfield 70, 3) := by decide +kernel
theorem dX2_takenColumns_7 : decode cX2_takenColumns 7 = .ok (.istore 6, 2) := by decide +kernel
theorem dX2_takenColumns_9 : decode cX2_takenColumns 9 = .ok (.iload 6, 2) := by decide +kernel
theorem dX2_takenColumns_11 : decode cX2_takenColumns 11 = .ok (.aload_n 0, 1) := by decide +kernel
theorem dX2_takenColumns_12 : decode cX2_takenColumns 12 = .ok (.getfield 67, 3) := by decide +kernel
theorem dX2_takenColumns_15 : decode cX2_takenColumns 15 = .ok (.if_icmp .gt 29, 3) := by decide +kernel
theorem dX2_takenColumns_18 : decode cX2_takenColumns 18 = .ok (.lload 4, 2) := by decide +kernel
theorem dX2_takenColumns_20 : decode cX2_takenColumns 20 = .ok (.aload_n 1, 1) := by decide +kernel
theorem dX2_takenColumns_21 : decode cX2_takenColumns 21 = .ok (.iload_n 2, 1) := by decide +kernel
theorem dX2_takenColumns_22 : decode cX2_takenColumns 22 = .ok (.iload 6, 2) := by decide +kernel
theorem dX2_takenColumns_24 : decode cX2_takenColumns 24 = .ok (.iadd, 1) := by decide +kernel
theorem dX2_takenColumns_25 : decode cX2_takenColumns 25 = .ok (.iload_n 3, 1) := by decide +kernel
theorem dX2_takenColumns_26 : decode cX2_takenColumns 26 = .ok (.aload_n 0, 1) := by decide +kernel
theorem dX2_takenColumns_27 : decode cX2_takenColumns 27 = .ok (.iload 6, 2) := by decide +kernel
theorem dX2_takenColumns_29 : decode cX2_takenColumns 29 = .ok (.invokevirtual 104, 3) := by decide +kernel
theorem dX2_takenColumns_32 : decode cX2_takenColumns 32 = .ok (.invokevirtual 124, 3) := by decide +kernel
theorem dX2_takenColumns_35 : decode cX2_takenColumns 35 = .ok (.lor, 1) := by decide +kernel
theorem dX2_takenColumns_36 : decode cX2_takenColumns 36 = .ok (.lstore 4, 2) := by decide +kernel
theorem dX2_takenColumns_38 : decode cX2_takenColumns 38 = .ok (.iinc 6 1, 3) := by decide +kernel
theorem dX2_takenColumns_41 : decode cX2_takenColumns 41 = .ok (.goto (-32), 3) := by decide +kernel
theorem dX2_takenColumns_44 : decode cX2_takenColumns 44 = .ok (.lload 4, 2) := by decide +kernel
theorem dX2_takenColumns_46 : decode cX2_takenColumns 46 = .ok (.lreturn, 1) := by decide +kernel
theorem dX2_firstFree_0 : decode cX2_firstFree 0 = .ok (.iconst 0, 1) := by decide +kernel
theorem dX2_firstFree_1 : decode cX2_firstFree 1 = .ok (.istore 4, 2) := by decide +kernel
theorem dX2_firstFree_3 : decode cX2_firstFree 3 = .ok (.iload 4, 2) := by decide +kernel
theorem dX2_firstFree_5 : decode cX2_firstFree 5 = .ok (.iload_n 3, 1) := by decide +kernel
theorem dX2_firstFree_6 : decode cX2_firstFree 6 = .ok (.if_icmp .gt 25, 3) := by decide +kernel
theorem dX2_firstFree_9 : decode cX2_firstFree 9 = .ok (.lload_n 0, 1) := by decide +kernel
theorem dX2_firstFree_10 : decode cX2_firstFree 10 = .ok (.iload 4, 2) := by decide +kernel
theorem dX2_firstFree_12 : decode cX2_firstFree 12 = .ok (.iload_n 2, 1) := by decide +kernel
theorem dX2_firstFree_13 : decode cX2_firstFree 13 = .ok (.invokestatic 127, 3) := by decide +kernel
theorem dX2_firstFree_16 : decode cX2_firstFree 16 = .ok (.land, 1) := by decide +kernel
theorem dX2_firstFree_17 : decode cX2_firstFree 17 = .ok (.lconst 0, 1) := by decide +kernel
theorem dX2_firstFree_18 : decode cX2_firstFree 18 = .ok (.lcmp, 1) := by decide +kernel
theorem dX2_firstFree_19 : decode cX2_firstFree 19 = .ok (.ifCond .ne 6, 3) := by decide +kernel
theorem dX2_firstFree_22 : decode cX2_firstFree 22 = .ok (.iload 4, 2) := by decide +kernel
theorem dX2_firstFree_24 : decode cX2_firstFree 24 = .ok (.ireturn, 1) := by decide +kernel
theorem dX2_firstFree_25 : decode cX2_firstFree 25 = .ok (.iinc 4 1, 3) := by decide +kernel
theorem dX2_firstFree_28 : decode cX2_firstFree 28 = .ok (.goto (-25), 3) := by decide +kernel
theorem dX2_firstFree_31 : decode cX2_firstFree 31 = .ok (.iconst (-1), 1) := by decide +kernel
theorem dX2_firstFree_32 : decode cX2_firstFree 32 = .ok (.ireturn, 1) := by decide +kernel
theorem dX3_init_0 : decode cX3_init 0 = .ok (.aload_n 0, 1) := by decide +kernel
theorem dX3_init_1 : decode cX3_init 1 = .ok (.invokespecial 1, 3) := by decide +kernel
theorem dX3_init_4 : decode cX3_init 4 = .ok (.return_, 1) := by decide +kernel
theorem dX3_begin_0 : decode cX3_begin 0 = .ok (.aload_n 0, 1) := by decide +kernel
theorem dX3_begin_1 : decode cX3_begin 1 = .ok (.iload_n 1, 1) := by decide +kernel
theorem dX3_begin_2 : decode cX3_begin 2 = .ok (.putfield 7, 3) := by decide +kernel
theorem dX3_begin_5 : decode cX3_begin 5 = .ok (.aload_n 0, 1) := by decide +kernel
theorem dX3_begin_6 : decode cX3_begin 6 = .ok (.iload_n 2, 1) := by decide +kernel
theorem dX3_begin_7 : decode cX3_begin 7 = .ok (.putfield 13, 3) := by decide +kernel
theorem dX3_begin_10 : decode cX3_begin 10 = .ok (.aload_n 0, 1) := by decide +kernel
theorem dX3_begin_11 : decode cX3_begin 11 = .ok (.iload_n 3, 1) := by decide +kernel
theorem dX3_begin_12 : decode cX3_begin 12 = .ok (.putfield 16, 3) := by decide +kernel
theorem dX3_begin_15 : decode cX3_begin 15 = .ok (.aload_n 0, 1) := by decide +kernel
theorem dX3_begin_16 : decode cX3_begin 16 = .ok (.iload 4, 2) := by decide +kernel
theorem dX3_begin_18 : decode cX3_begin 18 = .ok (.putfield 19, 3) := by decide +kernel
theorem dX3_begin_21 : decode cX3_begin 21 = .ok (.aload_n 0, 1) := by decide +kernel
theorem dX3_begin_22 : decode cX3_begin 22 = .ok (.iload 5, 2) := by decide +kernel
theorem dX3_begin_24 : decode cX3_begin 24 = .ok (.putfield 22, 3) := by decide +kernel
theorem dX3_begin_27 : decode cX3_begin 27 = .ok (.aload_n 0, 1) := by decide +kernel
theorem dX3_begin_28 : decode cX3_begin 28 = .ok (.iload_n 1, 1) := by decide +kernel
theorem dX3_begin_29 : decode cX3_begin 29 = .ok (.iconst 0, 1) := by decide +kernel
theorem dX3_begin_30 : decode cX3_begin 30 = .ok (.iconst 0, 1) := by decide +kernel
theorem dX3_begin_31 : decode cX3_begin 31 = .ok (.invokevirtual 25, 3) := by decide +kernel
theorem dX3_begin_34 : decode cX3_begin 34 = .ok (.return_, 1) := by decide +kernel
theorem dX3_driftTo_0 : decode cX3_driftTo 0 = .ok (.aload_n 0, 1) := by decide +kernel
theorem dX3_driftTo_1 : decode cX3_driftTo 1 = .ok (.iload_n 1, 1) := by decide +kernel
theorem dX3_driftTo_2 : decode cX3_driftTo 2 = .ok (.putfield 29, 3) := by decide +kernel
theorem dX3_driftTo_5 : decode cX3_driftTo 5 = .ok (.aload_n 0, 1) := by decide +kernel
theorem dX3_driftTo_6 : decode cX3_driftTo 6 = .ok (.iload_n 2, 1) := by decide +kernel
theorem dX3_driftTo_7 : decode cX3_driftTo 7 = .ok (.putfield 32, 3) := by decide +kernel
theorem dX3_driftTo_10 : decode cX3_driftTo 10 = .ok (.aload_n 0, 1) := by decide +kernel
theorem dX3_driftTo_11 : decode cX3_driftTo 11 = .ok (.iload_n 3, 1) := by decide +kernel
theorem dX3_driftTo_12 : decode cX3_driftTo 12 = .ok (.putfield 35, 3) := by decide +kernel
theorem dX3_driftTo_15 : decode cX3_driftTo 15 = .ok (.return_, 1) := by decide +kernel
theorem dX3_leftIn_0 : decode cX3_leftIn 0 = .ok (.aload_n 0, 1) := by decide +kernel
theorem dX3_leftIn_1 : decode cX3_leftIn 1 = .ok (.getfield 13, 3) := by decide +kernel
theorem dX3_leftIn_4 : decode cX3_leftIn 4 = .ok (.iload_n 1, 1) := by decide +kernel
theorem dX3_leftIn_5 : decode cX3_leftIn 5 = .ok (.aload_n 0, 1) := by decide +kernel
theorem dX3_leftIn_6 : decode cX3_leftIn 6 = .ok (.getfield 7, 3) := by decide +kernel
theorem dX3_leftIn_9 : decode cX3_leftIn 9 = .ok (.isub, 1) := by decide +kernel
theorem dX3_leftIn_10 : decode cX3_leftIn 10 = .ok (.aload_n 0, 1) := by decide +kernel
theorem dX3_leftIn_11 : decode cX3_leftIn 11 = .ok (.getfield 32, 3) := by decide +kernel
theorem dX3_leftIn_14 : decode cX3_leftIn 14 = .ok (.imul, 1) := by decide +kernel
theorem dX3_leftIn_15 : decode cX3_leftIn 15 = .ok (.iadd, 1) := by decide +kernel
theorem dX3_leftIn_16 : decode cX3_leftIn 16 = .ok (.ireturn, 1) := by decide +kernel
theorem dX3_topIn_0 : decode cX3_topIn 0 = .ok (.aload_n 0, 1) := by decide +kernel
theorem dX3_topIn_1 : decode cX3_topIn 1 = .ok (.getfield 16, 3) := by decide +kernel
theorem dX3_topIn_4 : decode cX3_topIn 4 = .ok (.iload_n 1, 1) := by decide +kernel
theorem dX3_topIn_5 : decode cX3_topIn 5 = .ok (.aload_n 0, 1) := by decide +kernel
theorem dX3_topIn_6 : decode cX3_topIn 6 = .ok (.getfield 7, 3) := by decide +kernel
theorem dX3_topIn_9 : decode cX3_topIn 9 = .ok (.isub, 1) := by decide +kernel
theorem dX3_topIn_10 : decode cX3_topIn 10 = .ok (.aload_n 0, 1) := by decide +kernel
theorem dX3_topIn_11 : decode cX3_topIn 11 = .ok (.getfield 35, 3) := by decide +kernel
theorem dX3_topIn_14 : decode cX3_topIn 14 = .ok (.imul, 1) := by decide +kernel
theorem dX3_topIn_15 : decode cX3_topIn 15 = .ok (.iadd, 1) := by decide +kernel
theorem dX3_topIn_16 : decode cX3_topIn 16 = .ok (.ireturn, 1) := by decide +kernel
theorem dX3_overlaps_0 : decode cX3_overlaps 0 = .ok (.iload_n 1, 1) := by decide +kernel
theorem dX3_overlaps_1 : decode cX3_overlaps 1 = .ok (.aload_n 0, 1) := by decide +kernel
theorem dX3_overlaps_2 : decode cX3_overlaps 2 = .ok (.getfield 7, 3) := by decide +kernel
theorem dX3_overlaps_5 : decode cX3_overlaps 5 = .ok (.aload_n 0, 1) := by decide +kernel
theorem dX3_overlaps_6 : decode cX3_overlaps 6 = .ok (.getfield 29, 3) := by decide +kernel
theorem dX3_overlaps_9 : decode cX3_overlaps 9 = .ok (.invokestatic 38, 3) := by decide +kernel
theorem dX3_overlaps_12 : decode cX3_overlaps 12 = .ok (.ifCond .eq 59, 3) := by decide +kernel
theorem dX3_overlaps_15 : decode cX3_overlaps 15 = .ok (.aload_n 0, 1) := by decide +kernel
theorem dX3_overlaps_16 : decode cX3_overlaps 16 = .ok (.iload_n 1, 1) := by decide +kernel
theorem dX3_overlaps_17 : decode cX3_overlaps 17 = .ok (.invokevirtual 44, 3) := by decide +kernel
theorem dX3_overlaps_20 : decode cX3_overlaps 20 = .ok (.iload_n 2, 1) := by decide +kernel
theorem dX3_overlaps_21 : decode cX3_overlaps 21 = .ok (.iload 4, 2) := by decide +kernel
theorem dX3_overlaps_23 : decode cX3_overlaps 23 = .ok (.iadd, 1) := by decide +kernel
theorem dX3_overlaps_24 : decode cX3_overlaps 24 = .ok (.if_icmp .ge 47, 3) := by decide +kernel
theorem dX3_overlaps_27 : decode cX3_overlaps 27 = .ok (.iload_n 2, 1) := by decide +kernel
theorem dX3_overlaps_28 : decode cX3_overlaps 28 = .ok (.aload_n 0, 1) := by decide +kernel
theorem dX3_overlaps_29 : decode cX3_overlaps 29 = .ok (.iload_n 1, 1) := by decide +kernel
theorem dX3_overlaps_30 : decode cX3_overlaps 30 = .ok (.invokevirtual 44, 3) := by decide +kernel
theorem dX3_overlaps_33 : decode cX3_overlaps 33 = .ok (.aload_n 0, 1) := by decide +kernel
theorem dX3_overlaps_34 : decode cX3_overlaps 34 = .ok (.getfield 19, 3) := by decide +kernel
theorem dX3_overlaps_37 : decode cX3_overlaps 37 = .ok (.iadd, 1) := by decide +kernel
theorem dX3_overlaps_38 : decode cX3_overlaps 38 = .ok (.if_icmp .ge 33, 3) := by decide +kernel
theorem dX3_overlaps_41 : decode cX3_overlaps 41 = .ok (.aload_n 0, 1) := by decide +kernel
theorem dX3_overlaps_42 : decode cX3_overlaps 42 = .ok (.iload_n 1, 1) := by decide +kernel
theorem dX3_overlaps_43 : decode cX3_overlaps 43 = .ok (.invokevirtual 48, 3) := by decide +kernel
theorem dX3_overlaps_46 : decode cX3_overlaps 46 = .ok (.iload_n 3, 1) := by decide +kernel
theorem dX3_overlaps_47 : decode cX3_overlaps 47 = .ok (.iload 5, 2) := by decide +kernel
theorem dX3_overlaps_49 : decode cX3_overlaps 49 = .ok (.iadd, 1) := by decide +kernel
theorem dX3_overlaps_50 : decode cX3_overlaps 50 = .ok (.if_icmp .ge 21, 3) := by decide +kernel
theorem dX3_overlaps_53 : decode cX3_overlaps 53 = .ok (.iload_n 3, 1) := by decide +kernel
theorem dX3_overlaps_54 : decode cX3_overlaps 54 = .ok (.aload_n 0, 1) := by decide +kernel
theorem dX3_overlaps_55 : decode cX3_overlaps 55 = .ok (.iload_n 1, 1) := by decide +kernel
theorem dX3_overlaps_56 : decode cX3_overlaps 56 = .ok (.invokevirtual 48, 3) := by decide +kernel
theorem dX3_overlaps_59 : decode cX3_overlaps 59 = .ok (.aload_n 0, 1) := by decide +kernel
theorem dX3_overlaps_60 : decode cX3_overlaps 60 = .ok (.getfield 22, 3) := by decide +kernel
theorem dX3_overlaps_63 : decode cX3_overlaps 63 = .ok (.iadd, 1) := by decide +kernel
theorem dX3_overlaps_64 : decode cX3_overlaps 64 = .ok (.if_icmp .ge 7, 3) := by decide +kernel
theorem dX3_overlaps_67 : decode cX3_overlaps 67 = .ok (.iconst 1, 1) := by decide +kernel
theorem dX3_overlaps_68 : decode cX3_overlaps 68 = .ok (.goto 4, 3) := by decide +kernel
theorem dX3_overlaps_71 : decode cX3_overlaps 71 = .ok (.iconst 0, 1) := by decide +kernel
theorem dX3_overlaps_72 : decode cX3_overlaps 72 = .ok (.ireturn, 1) := by decide +kernel
theorem dX4_init_0 : decode cX4_init 0 = .ok (.aload_n 0, 1) := by decide +kernel
theorem dX4_init_1 : decode cX4_init 1 = .ok (.invokespecial 3, 3) := by decide +kernel
theorem dX4_init_4 : decode cX4_init 4 = .ok (.aload_n 0, 1) := by decide +kernel
theorem dX4_init_5 : decode cX4_init 5 = .ok (.bipush 12, 2) := by decide +kernel
theorem dX4_init_7 : decode cX4_init 7 = .ok (.newarray .int, 2) := by decide +kernel
theorem dX4_init_9 : decode cX4_init 9 = .ok (.putfield 9, 3) := by decide +kernel
theorem dX4_init_12 : decode cX4_init 12 = .ok (.aload_n 0, 1) := by decide +kernel
theorem dX4_init_13 : decode cX4_init 13 = .ok (.bipush 10, 2) := by decide +kernel
theorem dX4_init_15 : decode cX4_init 15 = .ok (.anewarray 15, 3) := by decide +kernel
theorem dX4_init_18 : decode cX4_init 18 = .ok (.putfield 17, 3) := by decide +kernel
theorem dX4_init_21 : decode cX4_init 21 = .ok (.aload_n 0, 1) := by decide +kernel
theorem dX4_init_22 : decode cX4_init 22 = .ok (.sipush 720, 3) := by decide +kernel
theorem dX4_init_25 : decode cX4_init 25 = .ok (.newarray .long, 2) := by decide +kernel
theorem dX4_init_27 : decode cX4_init 27 = .ok (.putfield 21, 3) := by decide +kernel
theorem dX4_init_30 : decode cX4_init 30 = .ok (.aload_n 0, 1) := by decide +kernel
theorem dX4_init_31 : decode cX4_init 31 = .ok (.sipush 720, 3) := by decide +kernel
theorem dX4_init_34 : decode cX4_init 34 = .ok (.newarray .long, 2) := by decide +kernel
theorem dX4_init_36 : decode cX4_init 36 = .ok (.putfield 25, 3) := by decide +kernel
theorem dX4_init_39 : decode cX4_init 39 = .ok (.iconst 0, 1) := by decide +kernel
theorem dX4_init_40 : decode cX4_init 40 = .ok (.istore_n 1, 1) := by decide +kernel
theorem dX4_init_41 : decode cX4_init 41 = .ok (.iload_n 1, 1) := by decide +kernel
theorem dX4_init_42 : decode cX4_init 42 = .ok (.bipush 10, 2) := by decide +kernel
theorem dX4_init_44 : decode cX4_init 44 = .ok (.if_icmp .ge 22, 3) := by decide +kernel
theorem dX4_init_47 : decode cX4_init 47 = .ok (.aload_n 0, 1) := by decide +kernel
theorem dX4_init_48 : decode cX4_init 48 = .ok (.getfield 17, 3) := by decide +kernel
theorem dX4_init_51 : decode cX4_init 51 = .ok (.iload_n 1, 1) := by decide +kernel
theorem dX4_init_52 : decode cX4_init 52 = .ok (.new 15, 3) := by decide +kernel
theorem dX4_init_55 : decode cX4_init 55 = .ok (.dup, 1) := by decide +kernel
theorem dX4_init_56 : decode cX4_init 56 = .ok (.invokespecial 28, 3) := by decide +kernel
theorem dX4_init_59 : decode cX4_init 59 = .ok (.aastore, 1) := by decide +kernel
theorem dX4_init_60 : decode cX4_init 60 = .ok (.iinc 1 1, 3) := by decide +kernel
theorem dX4_init_63 : decode cX4_init 63 = .ok (.goto (-22), 3) := by decide +kernel
theorem dX4_init_66 : decode cX4_init 66 = .ok (.return_, 1) := by decide +kernel
theorem dX4_begin_0 : decode cX4_begin 0 = .ok (.aload_n 0, 1) := by decide +kernel
theorem dX4_begin_1 : decode cX4_begin 1 = .ok (.iconst 1, 1) := by decide +kernel
theorem dX4_begin_2 : decode cX4_begin 2 = .ok (.putfield 29, 3) := by decide +kernel
theorem dX4_begin_5 : decode cX4_begin 5 = .ok (.aload_n 0, 1) := by decide +kernel
theorem dX4_begin_6 : decode cX4_begin 6 = .ok (.iload_n 1, 1) := by decide +kernel
theorem dX4_begin_7 : decode cX4_begin 7 = .ok (.putfield 33, 3) := by decide +kernel
theorem dX4_begin_10 : decode cX4_begin 10 = .ok (.aload_n 0, 1) := by decide +kernel
theorem dX4_begin_11 : decode cX4_begin 11 = .ok (.iload_n 2, 1) := by decide +kernel
theorem dX4_begin_12 : decode cX4_begin 12 = .ok (.putfield 37, 3) := by decide +kernel
theorem dX4_begin_15 : decode cX4_begin 15 = .ok (.aload_n 0, 1) := by decide +kernel
theorem dX4_begin_16 : decode cX4_begin 16 = .ok (.iload_n 3, 1) := by decide +kernel
theorem dX4_begin_17 : decode cX4_begin 17 = .ok (.putfield 40, 3) := by decide +kernel
theorem dX4_begin_20 : decode cX4_begin 20 = .ok (.aload_n 0, 1) := by decide +kernel
theorem dX4_begin_21 : decode cX4_begin 21 = .ok (.iload 4, 2) := by decide +kernel
theorem dX4_begin_23 : decode cX4_begin 23 = .ok (.putfield 43, 3) := by decide +kernel
theorem dX4_begin_26 : decode cX4_begin 26 = .ok (.aload_n 0, 1) := by decide +kernel
theorem dX4_begin_27 : decode cX4_begin 27 = .ok (.iconst 0, 1) := by decide +kernel
theorem dX4_begin_28 : decode cX4_begin 28 = .ok (.putfield 46, 3) := by decide +kernel
theorem dX4_begin_31 : decode cX4_begin 31 = .ok (.aload_n 0, 1) := by decide +kernel
theorem dX4_begin_32 : decode cX4_begin 32 = .ok (.iconst 0, 1) := by decide +kernel
theorem dX4_begin_33 : decode cX4_begin 33 = .ok (.putfield 49, 3) := by decide +kernel
theorem dX4_begin_36 : decode cX4_begin 36 = .ok (.aload_n 0, 1) := by decide +kernel
theorem dX4_begin_37 : decode cX4_begin 37 = .ok (.iconst 0, 1) := by decide +kernel
theorem dX4_begin_38 : decode cX4_begin 38 = .ok (.putfield 52, 3) := by decide +kernel
theorem dX4_begin_41 : decode cX4_begin 41 = .ok (.aload_n 0, 1) := by decide +kernel
theorem dX4_begin_42 : decode cX4_begin 42 = .ok (.getfield 9, 3) := by decide +kernel
theorem dX4_begin_45 : decode cX4_begin 45 = .ok (.iconst 0, 1) := by decide +kernel
theorem dX4_begin_46 : decode cX4_begin 46 = .ok (.invokestatic 55, 3) := by decide +kernel
theorem dX4_begin_49 : decode cX4_begin 49 = .ok (.aload_n 0, 1) := by decide +kernel
theorem dX4_begin_50 : decode cX4_begin 50 = .ok (.getfield 21, 3) := by decide +kernel
theorem dX4_begin_53 : decode cX4_begin 53 = .ok (.lconst 0, 1) := by decide +kernel
theorem dX4_begin_54 : decode cX4_begin 54 = .ok (.invokestatic 61, 3) := by decide +kernel
theorem dX4_begin_57 : decode cX4_begin 57 = .ok (.aload_n 0, 1) := by decide +kernel
theorem dX4_begin_58 : decode cX4_begin 58 = .ok (.getfield 25, 3) := by decide +kernel
theorem dX4_begin_61 : decode cX4_begin 61 = .ok (.lconst 0, 1) := by decide +kernel
theorem dX4_begin_62 : decode cX4_begin 62 = .ok (.invokestatic 61, 3) := by decide +kernel
theorem dX4_begin_65 : decode cX4_begin 65 = .ok (.return_, 1) := by decide +kernel
theorem dX4_hasLeaf_0 : decode cX4_hasLeaf 0 = .ok (.lconst 0, 1) := by decide +kernel
theorem dX4_hasLeaf_1 : decode cX4_hasLeaf 1 = .ok (.lload_n 1, 1) := by decide +kernel
theorem dX4_hasLeaf_2 : decode cX4_hasLeaf 2 = .ok (.lcmp, 1) := by decide +kernel
theorem dX4_hasLeaf_3 : decode cX4_hasLeaf 3 = .ok (.ifCond .gt 17, 3) := by decide +kernel
theorem dX4_hasLeaf_6 : decode cX4_hasLeaf 6 = .ok (.lload_n 1, 1) := by decide +kernel
theorem dX4_hasLeaf_7 : decode cX4_hasLeaf 7 = .ok (.aload_n 0, 1) := by decide +kernel
theorem dX4_hasLeaf_8 : decode cX4_hasLeaf 8 = .ok (.getfield 33, 3) := by decide +kernel
theorem dX4_hasLeaf_11 : decode cX4_hasLeaf 11 = .ok (.i2l, 1) := by decide +kernel
theorem dX4_hasLeaf_12 : decode cX4_hasLeaf 12 = .ok (.lcmp, 1) := by decide +kernel
theorem dX4_hasLeaf_13 : decode cX4_hasLeaf 13 = .ok (.ifCond .ge 7, 3) := by decide +kernel
theorem dX4_hasLeaf_16 : decode cX4_hasLeaf 16 = .ok (.iconst 1, 1) := by decide +kernel
theorem dX4_hasLeaf_17 : decode cX4_hasLeaf 17 = .ok (.goto 4, 3) := by decide +kernel
theorem dX4_hasLeaf_20 : decode cX4_hasLeaf 20 = .ok (.iconst 0, 1) := by decide +kernel
theorem dX4_hasLeaf_21 : decode cX4_hasLeaf 21 = .ok (.ireturn, 1) := by decide +kernel
theorem dX4_widthOf_0 : decode cX4_widthOf 0 = .ok (.iconst 1, 1) := by decide +kernel
theorem dX4_widthOf_1 : decode cX4_widthOf 1 = .ok (.aload_n 0, 1) := by decide +kernel
theorem dX4_widthOf_2 : decode cX4_widthOf 2 = .ok (.getfield 40, 3) := by decide +kernel
theorem dX4_widthOf_5 : decode cX4_widthOf 5 = .ok (.iload_n 1, 1) := by decide +kernel
theorem dX4_widthOf_6 : decode cX4_widthOf 6 = .ok (.aload_n 0, 1) := by decide +kernel
theorem dX4_widthOf_7 : decode cX4_widthOf 7 = .ok (.getfield 43, 3) := by decide +kernel
theorem dX4_widthOf_10 : decode cX4_widthOf 10 = .ok (.imul, 1) := by decide +kernel
theorem dX4_widthOf_11 : decode cX4_widthOf 11 = .ok (.iadd, 1) := by decide +kernel
theorem dX4_widthOf_12 : decode cX4_widthOf 12 = .ok (.invokestatic 64, 3) := by decide +kernel
theorem dX4_widthOf_15 : decode cX4_widthOf 15 = .ok (.ireturn, 1) := by decide +kernel
theorem dX4_toneOf_0 : decode cX4_toneOf 0 = .ok (.aload_n 0, 1) := by decide +kernel
theorem dX4_toneOf_1 : decode cX4_toneOf 1 = .ok (.getfield 46, 3) := by decide +kernel
theorem dX4_toneOf_4 : decode cX4_toneOf 4 = .ok (.iload_n 1, 1) := by decide +kernel
theorem dX4_toneOf_5 : decode cX4_toneOf 5 = .ok (.aload_n 0, 1) := by decide +kernel
theorem dX4_toneOf_6 : decode cX4_toneOf 6 = .ok (.getfield 49, 3) := by decide +kernel
theorem dX4_toneOf_9 : decode cX4_toneOf 9 = .ok (.imul, 1) := by decide +kernel
theorem dX4_toneOf_10 : decode cX4_toneOf 10 = .ok (.iadd, 1) := by decide +kernel
theorem dX4_toneOf_11 : decode cX4_toneOf 11 = .ok (.ireturn, 1) := by decide +kernel
theorem dX4_holds_0 : decode cX4_holds 0 = .ok (.iconst 0, 1) := by decide +kernel
theorem dX4_holds_1 : decode cX4_holds 1 = .ok (.iload_n 2, 1) := by decide +kernel
theorem dX4_holds_2 : decode cX4_holds 2 = .ok (.if_icmp .gt 38, 3) := by decide +kernel
theorem dX4_holds_5 : decode cX4_holds 5 = .ok (.iload_n 2, 1) := by decide +kernel
theorem dX4_holds_6 : decode cX4_holds 6 = .ok (.aload_n 0, 1) := by decide +kernel
theorem dX4_holds_7 : decode cX4_holds 7 = .ok (.iload_n 1, 1) := by decide +kernel
theorem dX4_holds_8 : decode cX4_holds 8 = .ok (.invokevirtual 70, 3) := by decide +kernel
theorem dX4_holds_11 : decode cX4_holds 11 = .ok (.iload 5, 2) := by decide +kernel
theorem dX4_holds_13 : decode cX4_holds 13 = .ok (.isub, 1) := by decide +kernel
theorem dX4_holds_14 : decode cX4_holds 14 = .ok (.if_icmp .gt 26, 3) := by decide +kernel
theorem dX4_holds_17 : decode cX4_holds 17 = .ok (.lconst 0, 1) := by decide +kernel
theorem dX4_holds_18 : decode cX4_holds 18 = .ok (.lload_n 3, 1) := by decide +kernel
theorem dX4_holds_19 : decode cX4_holds 19 = .ok (.lcmp, 1) := by decide +kernel
theorem dX4_holds_20 : decode cX4_holds 20 = .ok (.ifCond .gt 20, 3) := by decide +kernel
theorem dX4_holds_23 : decode cX4_holds 23 = .ok (.lload_n 3, 1) := by decide +kernel
theorem dX4_holds_24 : decode cX4_holds 24 = .ok (.aload_n 0, 1) := by decide +kernel
theorem dX4_holds_25 : decode cX4_holds 25 = .ok (.getfield 37, 3) := by decide +kernel
theorem dX4_holds_28 : decode cX4_holds 28 = .ok (.iload 6, 2) := by decide +kernel
theorem dX4_holds_30 : decode cX4_holds 30 = .ok (.isub, 1) := by decide +kernel
theorem dX4_holds_31 : decode cX4_holds 31 = .ok (.i2l, 1) := by decide +kernel
theorem dX4_holds_32 : decode cX4_holds 32 = .ok (.lcmp, 1) := by decide +kernel
theorem dX4_holds_33 : decode cX4_holds 33 = .ok (.ifCond .gt 7, 3) := by decide +kernel
theorem dX4_holds_36 : decode cX4_holds 36 = .ok (.iconst 1, 1) := by decide +kernel
theorem dX4_holds_37 : decode cX4_holds 37 = .ok (.goto 4, 3) := by decide +kernel
theorem dX4_holds_40 : decode cX4_holds 40 = .ok (.iconst 0, 1) := by decide +kernel
theorem dX4_holds_41 : decode cX4_holds 41 = .ok (.ireturn, 1) := by decide +kernel
theorem dX4_addFlaw_0 : decode cX4_addFlaw 0 = .ok (.aload_n 0, 1) := by decide +kernel
theorem dX4_addFlaw_1 : decode cX4_addFlaw 1 = .ok (.getfield 52, 3) := by decide +kernel
theorem dX4_addFlaw_4 : decode cX4_addFlaw 4 = .ok (.bipush 10, 2) := by decide +kernel
theorem dX4_addFlaw_6 : decode cX4_addFlaw 6 = .ok (.if_icmp .lt 5, 3) := by decide +kernel
theorem dX4_addFlaw_9 : decode cX4_addFlaw 9 = .ok (.iconst (-1), 1) := by decide +kernel
theorem dX4_addFlaw_10 : decode cX4_addFlaw 10 = .ok (.ireturn, 1) := by decide +kernel
theorem dX4_addFlaw_11 : decode cX4_addFlaw 11 = .ok (.aload_n 0, 1) := by decide +kernel
theorem dX4_addFlaw_12 : decode cX4_addFlaw 12 = .ok (.getfield 17, 3) := by decide +kernel
theorem dX4_addFlaw_15 : decode cX4_addFlaw 15 = .ok (.aload_n 0, 1) := by decide +kernel
theorem dX4_addFlaw_16 : decode cX4_addFlaw 16 = .ok (.getfield 52, 3) := by decide +kernel
theorem dX4_addFlaw_19 : decode cX4_addFlaw 19 = .ok (.aaload, 1) := by decide +kernel
theorem dX4_addFlaw_20 : decode cX4_addFlaw 20 = .ok (.iload_n 1, 1) := by decide +kernel
theorem dX4_addFlaw_21 : decode cX4_addFlaw 21 = .ok (.iload_n 2, 1) := by decide +kernel
theorem dX4_addFlaw_22 : decode cX4_addFlaw 22 = .ok (.iload_n 3, 1) := by decide +kernel
theorem dX4_addFlaw_23 : decode cX4_addFlaw 23 = .ok (.iload 4, 2) := by decide +kernel
theorem dX4_addFlaw_25 : decode cX4_addFlaw 25 = .ok (.iload 5, 2) := by decide +kernel
theorem dX4_addFlaw_27 : decode cX4_addFlaw 27 = .ok (.invokevirtual 74, 3) := by decide +kernel
theorem dX4_addFlaw_30 : decode cX4_addFlaw 30 = .ok (.aload_n 0, 1) := by decide +kernel
theorem dX4_addFlaw_31 : decode cX4_addFlaw 31 = .ok (.aload_n 0, 1) := by decide +kernel
theorem dX4_addFlaw_32 : decode cX4_addFlaw 32 = .ok (.getfield 17, 3) := by decide +kernel
theorem dX4_addFlaw_35 : decode cX4_addFlaw 35 = .ok (.aload_n 0, 1) := by decide +kernel
theorem dX4_addFlaw_36 : decode cX4_addFlaw 36 = .ok (.getfield 52, 3) := by decide +kernel
theorem dX4_addFlaw_39 : decode cX4_addFlaw 39 = .ok (.aaload, 1) := by decide +kernel
theorem dX4_addFlaw_40 : decode cX4_addFlaw 40 = .ok (.invokevirtual 78, 3) := by decide +kernel
theorem dX4_addFlaw_43 : decode cX4_addFlaw 43 = .ok (.aload_n 0, 1) := by decide +kernel
theorem dX4_addFlaw_44 : decode cX4_addFlaw 44 = .ok (.dup, 1) := by decide +kernel
theorem dX4_addFlaw_45 : decode cX4_addFlaw 45 = .ok (.getfield 52, 3) := by decide +kernel
theorem dX4_addFlaw_48 : decode cX4_addFlaw 48 = .ok (.iconst 1, 1) := by decide +kernel
theorem dX4_addFlaw_49 : decode cX4_addFlaw 49 = .ok (.iadd, 1) := by decide +kernel
theorem dX4_addFlaw_50 : decode cX4_addFlaw 50 = .ok (.putfield 52, 3) := by decide +kernel
theorem dX4_addFlaw_53 : decode cX4_addFlaw 53 = .ok (.aload_n 0, 1) := by decide +kernel
theorem dX4_addFlaw_54 : decode cX4_addFlaw 54 = .ok (.getfield 52, 3) := by decide +kernel
theorem dX4_addFlaw_57 : decode cX4_addFlaw 57 = .ok (.iconst 1, 1) := by decide +kernel
theorem dX4_addFlaw_58 : decode cX4_addFlaw 58 = .ok (.isub, 1) := by decide +kernel
theorem dX4_addFlaw_59 : decode cX4_addFlaw 59 = .ok (.ireturn, 1) := by decide +kernel
theorem dX4_driftLatest_0 : decode cX4_driftLatest 0 = .ok (.aload_n 0, 1) := by decide +kernel
theorem dX4_driftLatest_1 : decode cX4_driftLatest 1 = .ok (.getfield 52, 3) := by decide +kernel
theorem dX4_driftLatest_4 : decode cX4_driftLatest 4 = .ok (.ifCond .eq 21, 3) := by decide +kernel
theorem dX4_driftLatest_7 : decode cX4_driftLatest 7 = .ok (.iload_n 1, 1) := by decide +kernel
theorem dX4_driftLatest_8 : decode cX4_driftLatest 8 = .ok (.aload_n 0, 1) := by decide +kernel
theorem dX4_driftLatest_9 : decode cX4_driftLatest 9 = .ok (.getfield 17, 3) := by decide +kernel
theorem dX4_driftLatest_12 : decode cX4_driftLatest 12 = .ok (.aload_n 0, 1) := by decide +kernel
theorem dX4_driftLatest_13 : decode cX4_driftLatest 13 = .ok (.getfield 52, 3) := by decide +kernel
theorem dX4_driftLatest_16 : decode cX4_driftLatest 16 = .ok (.iconst 1, 1) := by decide +kernel
theorem dX4_driftLatest_17 : decode cX4_driftLatest 17 = .ok (.isub, 1) := by decide +kernel
theorem dX4_driftLatest_18 : decode cX4_driftLatest 18 = .ok (.aaload, 1) := by decide +kernel
theorem dX4_driftLatest_19 : decode cX4_driftLatest 19 = .ok (.getfield 82, 3) := by decide +kernel
theorem dX4_driftLatest_22 : decode cX4_driftLatest 22 = .ok (.if_icmp .ge 5, 3) := by decide +kernel
theorem dX4_driftLatest_25 : decode cX4_driftLatest 25 = .ok (.iconst 0, 1) := by decide +kernel
theorem dX4_driftLatest_26 : decode cX4_driftLatest 26 = .ok (.ireturn, 1) := by decide +kernel
theorem dX4_driftLatest_27 : decode cX4_driftLatest 27 = .ok (.aload_n 0, 1) := by decide +kernel
theorem dX4_driftLatest_28 : decode cX4_driftLatest 28 = .ok (.getfield 17, 3) := by decide +kernel
theorem dX4_driftLatest_31 : decode cX4_driftLatest 31 = .ok (.aload_n 0, 1) := by decide +kernel
theorem dX4_driftLatest_32 : decode cX4_driftLatest 32 = .ok (.getfield 52, 3) := by decide +kernel
theorem dX4_driftLatest_35 : decode cX4_driftLatest 35 = .ok (.iconst 1, 1) := by decide +kernel
theorem dX4_driftLatest_36 : decode cX4_driftLatest 36 = .ok (.isub, 1) := by decide +kernel
theorem dX4_driftLatest_37 : decode cX4_driftLatest 37 = .ok (.aaload, 1) := by decide +kernel
theorem dX4_driftLatest_38 : decode cX4_driftLatest 38 = .ok (.iload_n 1, 1) := by decide +kernel
theorem dX4_driftLatest_39 : decode cX4_driftLatest 39 = .ok (.iload_n 2, 1) := by decide +kernel
theorem dX4_driftLatest_40 : decode cX4_driftLatest 40 = .ok (.iload_n 3, 1) := by decide +kernel
theorem dX4_driftLatest_41 : decode cX4_driftLatest 41 = .ok (.invokevirtual 85, 3) := by decide +kernel
theorem dX4_driftLatest_44 : decode cX4_driftLatest 44 = .ok (.aload_n 0, 1) := by decide +kernel
theorem dX4_driftLatest_45 : decode cX4_driftLatest 45 = .ok (.getfield 21, 3) := by decide +kernel
theorem dX4_driftLatest_48 : decode cX4_driftLatest 48 = .ok (.lconst 0, 1) := by decide +kernel
theorem dX4_driftLatest_49 : decode cX4_driftLatest 49 = .ok (.invokestatic 61, 3) := by decide +kernel
theorem dX4_driftLatest_52 : decode cX4_driftLatest 52 = .ok (.iconst 0, 1) := by decide +kernel
theorem dX4_driftLatest_53 : decode cX4_driftLatest 53 = .ok (.istore 4, 2) := by decide +kernel
theorem dX4_driftLatest_55 : decode cX4_driftLatest 55 = .ok (.iload 4, 2) := by decide +kernel
theorem dX4_driftLatest_57 : decode cX4_driftLatest 57 = .ok (.aload_n 0, 1) := by decide +kernel
theorem dX4_driftLatest_58 : decode cX4_driftLatest 58 = .ok (.getfield 52, 3) := by decide +kernel
theorem dX4_driftLatest_61 : decode cX4_driftLatest 61 = .ok (.if_icmp .ge 20, 3) := by decide +kernel
theorem dX4_driftLatest_64 : decode cX4_driftLatest 64 = .ok (.aload_n 0, 1) := by decide +kernel
theorem dX4_driftLatest_65 : decode cX4_driftLatest 65 = .ok (.aload_n 0, 1) := by decide +kernel
theorem dX4_driftLatest_66 : decode cX4_driftLatest 66 = .ok (.getfield 17, 3) := by decide +kernel
theorem dX4_driftLatest_69 : decode cX4_driftLatest 69 = .ok (.iload 4, 2) := by decide +kernel
theorem dX4_driftLatest_71 : decode cX4_driftLatest 71 = .ok (.aaload, 1) := by decide +kernel
theorem dX4_driftLatest_72 : decode cX4_driftLatest 72 = .ok (.invokevirtual 78, 3) := by decide +kernel
theorem dX4_driftLatest_75 : decode cX4_driftLatest 75 = .ok (.iinc 4 1, 3) := by decide +kernel
theorem dX4_driftLatest_78 : decode cX4_driftLatest 78 = .ok (.goto (-23), 3) := by decide +kernel
theorem dX4_driftLatest_81 : decode cX4_driftLatest 81 = .ok (.iconst 1, 1) := by decide +kernel
theorem dX4_driftLatest_82 : decode cX4_driftLatest 82 = .ok (.ireturn, 1) := by decide +kernel
theorem dX4_markFlaw_0 : decode cX4_markFlaw 0 = .ok (.aload_n 1, 1) := by decide +kernel
theorem dX4_markFlaw_1 : decode cX4_markFlaw 1 = .ok (.getfield 82, 3) := by decide +kernel
theorem dX4_markFlaw_4 : decode cX4_markFlaw 4 = .ok (.istore_n 2, 1) := by decide +kernel
theorem dX4_markFlaw_5 : decode cX4_markFlaw 5 = .ok (.iload_n 2, 1) := by decide +kernel
theorem dX4_markFlaw_6 : decode cX4_markFlaw 6 = .ok (.aload_n 1, 1) := by decide +kernel
theorem dX4_markFlaw_7 : decode cX4_markFlaw 7 = .ok (.getfield 89, 3) := by decide +kernel
theorem dX4_markFlaw_10 : decode cX4_markFlaw 10 = .ok (.if_icmp .gt 123, 3) := by decide +kernel
theorem dX4_markFlaw_13 : decode cX4_markFlaw 13 = .ok (.iload_n 2, 1) := by decide +kernel
theorem dX4_markFlaw_14 : decode cX4_markFlaw 14 = .ok (.aload_n 0, 1) := by decide +kernel
theorem dX4_markFlaw_15 : decode cX4_markFlaw 15 = .ok (.getfield 33, 3) := by decide +kernel
theorem dX4_markFlaw_18 : decode cX4_markFlaw 18 = .ok (.if_icmp .ge 115, 3) := by decide +kernel
theorem dX4_markFlaw_21 : decode cX4_markFlaw 21 = .ok (.iconst 0, 1) := by decide +kernel
theorem dX4_markFlaw_22 : decode cX4_markFlaw 22 = .ok (.aload_n 1, 1) := by decide +kernel
theorem dX4_markFlaw_23 : decode cX4_markFlaw 23 = .ok (.iload_n 2, 1) := by decide +kernel
theorem dX4_markFlaw_24 : decode cX4_markFlaw 24 = .ok (.invokevirtual 92, 3) := by decide +kernel
theorem dX4_markFlaw_27 : decode cX4_markFlaw 27 = .ok (.invokestatic 64, 3) := by decide +kernel
theorem dX4_markFlaw_30 : decode cX4_markFlaw 30 = .ok (.istore_n 3, 1) := by decide +kernel
theorem dX4_markFlaw_31 : decode cX4_markFlaw 31 = .ok (.aload_n 0, 1) := by decide +kernel
theorem dX4_markFlaw_32 : decode cX4_markFlaw 32 = .ok (.iload_n 2, 1) := by decide +kernel
theorem dX4_markFlaw_33 : decode cX4_markFlaw 33 = .ok (.invokevirtual 70, 3) := by decide +kernel
theorem dX4_markFlaw_36 : decode cX4_markFlaw 36 = .ok (.aload_n 1, 1) := by decide +kernel
theorem dX4_markFlaw_37 : decode cX4_markFlaw 37 = .ok (.iload_n 2, 1) := by decide +kernel
theorem dX4_markFlaw_38 : decode cX4_markFlaw 38 = .ok (.invokevirtual 92, 3) := by decide +kernel
theorem dX4_markFlaw_41 : decode cX4_markFlaw 41 = .ok (.aload_n 1, 1) := by decide +kernel
theorem dX4_markFlaw_42 : decode cX4_markFlaw 42 = .ok (.getfield 95, 3) := by decide +kernel
theorem dX4_markFlaw_45 : decode cX4_markFlaw 45 = .ok (.iadd, 1) := by decide +kernel
theorem dX4_markFlaw_46 : decode cX4_markFlaw 46 = .ok (.invokestatic 96, 3) := by decide +kernel
theorem dX4_markFlaw_49 : decode cX4_markFlaw 49 = .ok (.istore 4, 2) := by decide +kernel
theorem dX4_markFlaw_51 : decode cX4_markFlaw 51 = .ok (.iconst 0, 1) := by decide +kernel
theorem dX4_markFlaw_52 : decode cX4_markFlaw 52 = .ok (.aload_n 1, 1) := by decide +kernel
theorem dX4_markFlaw_53 : decode cX4_markFlaw 53 = .ok (.iload_n 2, 1) := by decide +kernel
theorem dX4_markFlaw_54 : decode cX4_markFlaw 54 = .ok (.invokevirtual 99, 3) := by decide +kernel
theorem dX4_markFlaw_57 : decode cX4_markFlaw 57 = .ok (.invokestatic 64, 3) := by decide +kernel
theorem dX4_markFlaw_60 : decode cX4_markFlaw 60 = .ok (.istore 5, 2) := by decide +kernel
theorem dX4_markFlaw_62 : decode cX4_markFlaw 62 = .ok (.aload_n 0, 1) := by decide +kernel
theorem dX4_markFlaw_63 : decode cX4_markFlaw 63 = .ok (.getfield 37, 3) := by decide +kernel
theorem dX4_markFlaw_66 : decode cX4_markFlaw 66 = .ok (.aload_n 1, 1) := by decide +kernel
theorem dX4_markFlaw_67 : decode cX4_markFlaw 67 = .ok (.iload_n 2, 1) := by decide +kernel
theorem dX4_markFlaw_68 : decode cX4_markFlaw 68 = .ok (.invokevirtual 99, 3) := by decide +kernel
theorem dX4_markFlaw_71 : decode cX4_markFlaw 71 = .ok (.aload_n 1, 1) := by decide +kernel
theorem dX4_markFlaw_72 : decode cX4_markFlaw 72 = .ok (.getfield 102, 3) := by decide +kernel
theorem dX4_markFlaw_75 : decode cX4_markFlaw 75 = .ok (.iadd, 1) := by decide +kernel
theorem dX4_markFlaw_76 : decode cX4_markFlaw 76 = .ok (.invokestatic 96, 3) := by decide +kernel
theorem dX4_markFlaw_79 : decode cX4_markFlaw 79 = .ok (.istore 6, 2) := by decide +kernel
theorem dX4_markFlaw_81 : decode cX4_markFlaw 81 = .ok (.iload 5, 2) := by decide +kernel
theorem dX4_markFlaw_83 : decode cX4_markFlaw 83 = .ok (.istore 7, 2) := by decide +kernel
theorem dX4_markFlaw_85 : decode cX4_markFlaw 85 = .ok (.iload 7, 2) := by decide +kernel
theorem dX4_markFlaw_87 : decode cX4_markFlaw 87 = .ok (.iload 6, 2) := by decide +kernel
theorem dX4_markFlaw_89 : decode cX4_markFlaw 89 = .ok (.if_icmp .ge 38, 3) := by decide +kernel
theorem dX4_markFlaw_92 : decode cX4_markFlaw 92 = .ok (.iload_n 3, 1) := by decide +kernel
theorem dX4_markFlaw_93 : decode cX4_markFlaw 93 = .ok (.iload 4, 2) := by decide +kernel
theorem dX4_markFlaw_95 : decode cX4_markFlaw 95 = .ok (.if_icmp .ge 32, 3) := by decide +kernel
theorem dX4_markFlaw_98 : decode cX4_markFlaw 98 = .ok (.aload_n 0, 1) := by decide +kernel
theorem dX4_markFlaw_99 : decode cX4_markFlaw 99 = .ok (.getfield 21, 3) := by decide +kernel
theorem dX4_markFlaw_102 : decode cX4_markFlaw 102 = .ok (.iload_n 2, 1) := by decide +kernel
theorem dX4_markFlaw_103 : decode cX4_markFlaw 103 = .ok (.bipush 60, 2) := by decide +kernel
theorem dX4_markFlaw_105 : decode cX4_markFlaw 105 = .ok (.imul, 1) := by decide +kernel
theorem dX4_markFlaw_106 : decode cX4_markFlaw 106 = .ok (.iload 7, 2) := by decide +kernel
theorem dX4_markFlaw_108 : decode cX4_markFlaw 108 = .ok (.iadd, 1) := by decide +kernel
theorem dX4_markFlaw_109 : decode cX4_markFlaw 109 = .ok (.dup2, 1) := by decide +kernel
theorem dX4_markFlaw_110 : decode cX4_markFlaw 110 = .ok (.laload, 1) := by decide +kernel
theorem dX4_markFlaw_111 : decode cX4_markFlaw 111 = .ok (.iload_n 3, 1) := by decide +kernel
theorem dX4_markFlaw_112 : decode cX4_markFlaw 112 = .ok (.iload 4, 2) := by decide +kernel
theorem dX4_markFlaw_114 : decode cX4_markFlaw 114 = .ok (.iload_n 3, 1) := by decide +kernel
theorem dX4_markFlaw_115 : decode cX4_markFlaw 115 = .ok (.isub, 1) := by decide +kernel
theorem dX4_markFlaw_116 : decode cX4_markFlaw 116 = .ok (.invokestatic 105, 3) := by decide +kernel
theorem dX4_markFlaw_119 : decode cX4_markFlaw 119 = .ok (.lor, 1) := by decide +kernel
theorem dX4_markFlaw_120 : decode cX4_markFlaw 120 = .ok (.lastore, 1) := by decide +kernel
theorem dX4_markFlaw_121 : decode cX4_markFlaw 121 = .ok (.iinc 7 1, 3) := by decide +kernel
theorem dX4_markFlaw_124 : decode cX4_markFlaw 124 = .ok (.goto (-39), 3) := by decide +kernel
theorem dX4_markFlaw_127 : decode cX4_markFlaw 127 = .ok (.iinc 2 1, 3) := by decide +kernel
theorem dX4_markFlaw_130 : decode cX4_markFlaw 130 = .ok (.goto (-125), 3) := by decide +kernel
theorem dX4_markFlaw_133 : decode cX4_markFlaw 133 = .ok (.return_, 1) := by decide +kernel
theorem dX4_countFlawsIn_0 : decode cX4_countFlawsIn 0 = .ok (.iconst 0, 1) := by decide +kernel
theorem dX4_countFlawsIn_1 : decode cX4_countFlawsIn 1 = .ok (.istore_n 2, 1) := by decide +kernel
theorem dX4_countFlawsIn_2 : decode cX4_countFlawsIn 2 = .ok (.iconst 0, 1) := by decide +kernel
theorem dX4_countFlawsIn_3 : decode cX4_countFlawsIn 3 = .ok (.istore_n 3, 1) := by decide +kernel
theorem dX4_countFlawsIn_4 : decode cX4_countFlawsIn 4 = .ok (.iload_n 3, 1) := by decide +kernel
theorem dX4_countFlawsIn_5 : decode cX4_countFlawsIn 5 = .ok (.aload_n 0, 1) := by decide +kernel
theorem dX4_countFlawsIn_6 : decode cX4_countFlawsIn 6 = .ok (.getfield 52, 3) := by decide +kernel
theorem dX4_countFlawsIn_9 : decode cX4_countFlawsIn 9 = .ok (.if_icmp .ge 41, 3) := by decide +kernel
theorem dX4_countFlawsIn_12 : decode cX4_countFlawsIn 12 = .ok (.iload_n 2, 1) := by decide +kernel
theorem dX4_countFlawsIn_13 : decode cX4_countFlawsIn 13 = .ok (.aload_n 0, 1) := by decide +kernel
theorem dX4_countFlawsIn_14 : decode cX4_countFlawsIn 14 = .ok (.getfield 17, 3) := by decide +kernel
theorem dX4_countFlawsIn_17 : decode cX4_countFlawsIn 17 = .ok (.iload_n 3, 1) := by decide +kernel
theorem dX4_countFlawsIn_18 : decode cX4_countFlawsIn 18 = .ok (.aaload, 1) := by decide +kernel
theorem dX4_countFlawsIn_19 : decode cX4_countFlawsIn 19 = .ok (.iload_n 1, 1) := by decide +kernel
theorem dX4_countFlawsIn_20 : decode cX4_countFlawsIn 20 = .ok (.iconst 0, 1) := by decide +kernel
theorem dX4_countFlawsIn_21 : decode cX4_countFlawsIn 21 = .ok (.iconst 0, 1) := by decide +kernel
theorem dX4_countFlawsIn_22 : decode cX4_countFlawsIn 22 = .ok (.aload_n 0, 1) := by decide +kernel
theorem dX4_countFlawsIn_23 : decode cX4_countFlawsIn 23 = .ok (.iload_n 1, 1) := by decide +kernel
theorem dX4_countFlawsIn_24 : decode cX4_countFlawsIn 24 = .ok (.invokevirtual 70, 3) := by decide +kernel
theorem dX4_countFlawsIn_27 : decode cX4_countFlawsIn 27 = .ok (.aload_n 0, 1) := by decide +kernel
theorem dX4_countFlawsIn_28 : decode cX4_countFlawsIn 28 = .ok (.getfield 37, 3) := by decide +kernel
theorem dX4_countFlawsIn_31 : decode cX4_countFlawsIn 31 = .ok (.invokevirtual 109, 3) := by decide +kernel
theorem dX4_countFlawsIn_34 : decode cX4_countFlawsIn 34 = .ok (.ifCond .eq 7, 3) := by decide +kernel
theorem dX4_countFlawsIn_37 : decode cX4_countFlawsIn 37 = .ok (.iconst 1, 1) := by decide +kernel
theorem dX4_countFlawsIn_38 : decode cX4_countFlawsIn 38 = .ok (.goto 4, 3) := by decide +kernel
theorem dX4_countFlawsIn_41 : decode cX4_countFlawsIn 41 = .ok (.iconst 0, 1) := by decide +kernel
theorem dX4_countFlawsIn_42 : decode cX4_countFlawsIn 42 = .ok (.iadd, 1) := by decide +kernel
theorem dX4_countFlawsIn_43 : decode cX4_countFlawsIn 43 = .ok (.istore_n 2, 1) := by decide +kernel
theorem dX4_countFlawsIn_44 : decode cX4_countFlawsIn 44 = .ok (.iinc 3 1, 3) := by decide +kernel
theorem dX4_countFlawsIn_47 : decode cX4_countFlawsIn 47 = .ok (.goto (-43), 3) := by decide +kernel
theorem dX4_countFlawsIn_50 : decode cX4_countFlawsIn 50 = .ok (.iload_n 2, 1) := by decide +kernel
theorem dX4_countFlawsIn_51 : decode cX4_countFlawsIn 51 = .ok (.ireturn, 1) := by decide +kernel
theorem dX4_leastFlawIn_0 : decode cX4_leastFlawIn 0 = .ok (.iconst 0, 1) := by decide +kernel
theorem dX4_leastFlawIn_1 : decode cX4_leastFlawIn 1 = .ok (.istore 6, 2) := by decide +kernel
theorem dX4_leastFlawIn_3 : decode cX4_leastFlawIn 3 = .ok (.iload 6, 2) := by decide +kernel
theorem dX4_leastFlawIn_5 : decode cX4_leastFlawIn 5 = .ok (.aload_n 0, 1) := by decide +kernel
theorem dX4_leastFlawIn_6 : decode cX4_leastFlawIn 6 = .ok (.getfield 52, 3) := by decide +kernel
theorem dX4_leastFlawIn_9 : decode cX4_leastFlawIn 9 = .ok (.if_icmp .ge 32, 3) := by decide +kernel
theorem dX4_leastFlawIn_12 : decode cX4_leastFlawIn 12 = .ok (.aload_n 0, 1) := by decide +kernel
theorem dX4_leastFlawIn_13 : decode cX4_leastFlawIn 13 = .ok (.getfield 17, 3) := by decide +kernel
theorem dX4_leastFlawIn_16 : decode cX4_leastFlawIn 16 = .ok (.iload 6, 2) := by decide +kernel
theorem dX4_leastFlawIn_18 : decode cX4_leastFlawIn 18 = .ok (.aaload, 1) := by decide +kernel
theorem dX4_leastFlawIn_19 : decode cX4_leastFlawIn 19 = .ok (.iload_n 1, 1) := by decide +kernel
theorem dX4_leastFlawIn_20 : decode cX4_leastFlawIn 20 = .ok (.iload_n 2, 1) := by decide +kernel
theorem dX4_leastFlawIn_21 : decode cX4_leastFlawIn 21 = .ok (.iload_n 3, 1) := by decide +kernel
theorem dX4_leastFlawIn_22 : decode cX4_leastFlawIn 22 = .ok (.iload 4, 2) := by decide +kernel
theorem dX4_leastFlawIn_24 : decode cX4_leastFlawIn 24 = .ok (.iload 5, 2) := by decide +kernel
theorem dX4_leastFlawIn_26 : decode cX4_leastFlawIn 26 = .ok (.invokevirtual 109, 3) := by decide +kernel
theorem dX4_leastFlawIn_29 : decode cX4_leastFlawIn 29 = .ok (.ifCond .eq 6, 3) := by decide +kernel
theorem dX4_leastFlawIn_32 : decode cX4_leastFlawIn 32 = .ok (.iload 6, 2) := by decide +kernel
theorem dX4_leastFlawIn_34 : decode cX4_leastFlawIn 34 = .ok (.ireturn, 1) := by decide +kernel
theorem dX4_leastFlawIn_35 : decode cX4_leastFlawIn 35 = .ok (.iinc 6 1, 3) := by decide +kernel
theorem dX4_leastFlawIn_38 : decode cX4_leastFlawIn 38 = .ok (.goto (-35), 3) := by decide +kernel
theorem dX4_leastFlawIn_41 : decode cX4_leastFlawIn 41 = .ok (.iconst (-1), 1) := by decide +kernel
theorem dX4_leastFlawIn_42 : decode cX4_leastFlawIn 42 = .ok (.ireturn, 1) := by decide +kernel
theorem dX4_isFlawed_0 : decode cX4_isFlawed 0 = .ok (.aload_n 0, 1) := by decide +kernel
theorem dX4_isFlawed_1 : decode cX4_isFlawed 1 = .ok (.getfield 21, 3) := by decide +kernel
theorem dX4_isFlawed_4 : decode cX4_isFlawed 4 = .ok (.iload_n 1, 1) := by decide +kernel
theorem dX4_isFlawed_5 : decode cX4_isFlawed 5 = .ok (.iload_n 3, 1) := by decide +kernel
theorem dX4_isFlawed_6 : decode cX4_isFlawed 6 = .ok (.iload 5, 2) := by decide +kernel
theorem dX4_isFlawed_8 : decode cX4_isFlawed 8 = .ok (.iload_n 2, 1) := by decide +kernel
theorem dX4_isFlawed_9 : decode cX4_isFlawed 9 = .ok (.iload 4, 2) := by decide +kernel
theorem dX4_isFlawed_11 : decode cX4_isFlawed 11 = .ok (.invokestatic 105, 3) := by decide +kernel
theorem dX4_isFlawed_14 : decode cX4_isFlawed 14 = .ok (.invokestatic 113, 3) := by decide +kernel
theorem dX4_isFlawed_17 : decode cX4_isFlawed 17 = .ok (.ireturn, 1) := by decide +kernel
theorem dX4_isCut_0 : decode cX4_isCut 0 = .ok (.aload_n 0, 1) := by decide +kernel
theorem dX4_isCut_1 : decode cX4_isCut 1 = .ok (.getfield 25, 3) := by decide +kernel
theorem dX4_isCut_4 : decode cX4_isCut 4 = .ok (.iload_n 1, 1) := by decide +kernel
theorem dX4_isCut_5 : decode cX4_isCut 5 = .ok (.iload_n 3, 1) := by decide +kernel
theorem dX4_isCut_6 : decode cX4_isCut 6 = .ok (.iload 5, 2) := by decide +kernel
theorem dX4_isCut_8 : decode cX4_isCut 8 = .ok (.iload_n 2, 1) := by decide +kernel
theorem dX4_isCut_9 : decode cX4_isCut 9 = .ok (.iload 4, 2) := by decide +kernel
theorem dX4_isCut_11 : decode cX4_isCut 11 = .ok (.invokestatic 105, 3) := by decide +kernel
theorem dX4_isCut_14 : decode cX4_isCut 14 = .ok (.invokestatic 113, 3) := by decide +kernel
theorem dX4_isCut_17 : decode cX4_isCut 17 = .ok (.ireturn, 1) := by decide +kernel
theorem dX4_meets_0 : decode cX4_meets 0 = .ok (.iload_n 1, 1) := by decide +kernel
theorem dX4_meets_1 : decode cX4_meets 1 = .ok (.bipush 60, 2) := by decide +kernel
theorem dX4_meets_3 : decode cX4_meets 3 = .ok (.imul, 1) := by decide +kernel
theorem dX4_meets_4 : decode cX4_meets 4 = .ok (.iload_n 2, 1) := by decide +kernel
theorem dX4_meets_5 : decode cX4_meets 5 = .ok (.iadd, 1) := by decide +kernel
theorem dX4_meets_6 : decode cX4_meets 6 = .ok (.istore 6, 2) := by decide +kernel
theorem dX4_meets_8 : decode cX4_meets 8 = .ok (.iload 6, 2) := by decide +kernel
theorem dX4_meets_10 : decode cX4_meets 10 = .ok (.iload_n 3, 1) := by decide +kernel
theorem dX4_meets_11 : decode cX4_meets 11 = .ok (.iadd, 1) := by decide +kernel
theorem dX4_meets_12 : decode cX4_meets 12 = .ok (.aload_n 0, 1) := by decide +kernel
theorem dX4_meets_13 : decode cX4_meets 13 = .ok (.arraylength, 1) := by decide +kernel
theorem dX4_meets_14 : decode cX4_meets 14 = .ok (.invokestatic 96, 3) := by decide +kernel
theorem dX4_meets_17 : decode cX4_meets 17 = .ok (.istore 7, 2) := by decide +kernel
theorem dX4_meets_19 : decode cX4_meets 19 = .ok (.iconst 0, 1) := by decide +kernel
theorem dX4_meets_20 : decode cX4_meets 20 = .ok (.iload 6, 2) := by decide +kernel
theorem dX4_meets_22 : decode cX4_meets 22 = .ok (.invokestatic 64, 3) := by decide +kernel
theorem dX4_meets_25 : decode cX4_meets 25 = .ok (.istore 8, 2) := by decide +kernel
theorem dX4_meets_27 : decode cX4_meets 27 = .ok (.iload 8, 2) := by decide +kernel
theorem dX4_meets_29 : decode cX4_meets 29 = .ok (.iload 7, 2) := by decide +kernel
theorem dX4_meets_31 : decode cX4_meets 31 = .ok (.if_icmp .ge 23, 3) := by decide +kernel
theorem dX4_meets_34 : decode cX4_meets 34 = .ok (.aload_n 0, 1) := by decide +kernel
theorem dX4_meets_35 : decode cX4_meets 35 = .ok (.iload 8, 2) := by decide +kernel
theorem dX4_meets_37 : decode cX4_meets 37 = .ok (.laload, 1) := by decide +kernel
theorem dX4_meets_38 : decode cX4_meets 38 = .ok (.lload 4, 2) := by decide +kernel
theorem dX4_meets_40 : decode cX4_meets 40 = .ok (.land, 1) := by decide +kernel
theorem dX4_meets_41 : decode cX4_meets 41 = .ok (.lconst 0, 1) := by decide +kernel
theorem dX4_meets_42 : decode cX4_meets 42 = .ok (.lcmp, 1) := by decide +kernel
theorem dX4_meets_43 : decode cX4_meets 43 = .ok (.ifCond .eq 5, 3) := by decide +kernel
theorem dX4_meets_46 : decode cX4_meets 46 = .ok (.iconst 1, 1) := by decide +kernel
theorem dX4_meets_47 : decode cX4_meets 47 = .ok (.ireturn, 1) := by decide +kernel
theorem dX4_meets_48 : decode cX4_meets 48 = .ok (.iinc 8 1, 3) := by decide +kernel
theorem dX4_meets_51 : decode cX4_meets 51 = .ok (.goto (-24), 3) := by decide +kernel
theorem dX4_meets_54 : decode cX4_meets 54 = .ok (.iconst 0, 1) := by decide +kernel
theorem dX4_meets_55 : decode cX4_meets 55 = .ok (.ireturn, 1) := by decide +kernel
theorem dX4_takenColumns_0 : decode cX4_takenColumns 0 = .ok (.lconst 0, 1) := by decide +kernel
theorem dX4_takenColumns_1 : decode cX4_takenColumns 1 = .ok (.lstore 4, 2) := by decide +kernel
theorem dX4_takenColumns_3 : decode cX4_takenColumns 3 = .ok (.iload_n 1, 1) := by decide +kernel
theorem dX4_takenColumns_4 : decode cX4_takenColumns 4 = .ok (.bipush 60, 2) := by decide +kernel
theorem dX4_takenColumns_6 : decode cX4_takenColumns 6 = .ok (.imul, 1) := by decide +kernel
theorem dX4_takenColumns_7 : decode cX4_takenColumns 7 = .ok (.iload_n 2, 1) := by decide +kernel
theorem dX4_takenColumns_8 : decode cX4_takenColumns 8 = .ok (.iadd, 1) := by decide +kernel
theorem dX4_takenColumns_9 : decode cX4_takenColumns 9 = .ok (.istore 6, 2) := by decide +kernel
theorem dX4_takenColumns_11 : decode cX4_takenColumns 11 = .ok (.iload 6, 2) := by decide +kernel
theorem dX4_takenColumns_13 : decode cX4_takenColumns 13 = .ok (.istore 7, 2) := by decide +kernel
theorem dX4_takenColumns_15 : decode cX4_takenColumns 15 = .ok (.iload 7, 2) := by decide +kernel
theorem dX4_takenColumns_17 : decode cX4_takenColumns 17 = .ok (.iload 6, 2) := by decide +kernel
theorem dX4_takenColumns_19 : decode cX4_takenColumns 19 = .ok (.iload_n 3, 1) := by decide +kernel
theorem dX4_takenColumns_20 : decode cX4_takenColumns 20 = .ok (.iadd, 1) := by decide +kernel
theorem dX4_takenColumns_21 : decode cX4_takenColumns 21 = .ok (.if_icmp .ge 39, 3) := by decide +kernel
theorem dX4_takenColumns_24 : decode cX4_takenColumns 24 = .ok (.iload 7, 2) := by decide +kernel
theorem dX4_takenColumns_26 : decode cX4_takenColumns 26 = .ok (.aload_n 0, 1) := by decide +kernel
theorem dX4_takenColumns_27 : decode cX4_takenColumns 27 = .ok (.getfield 25, 3) := by decide +kernel
theorem dX4_takenColumns_30 : decode cX4_takenColumns 30 = .ok (.arraylength, 1) := by decide +kernel
theorem dX4_takenColumns_31 : decode cX4_takenColumns 31 = .ok (.if_icmp .ge 29, 3) := by decide +kernel
theorem dX4_takenColumns_34 : decode cX4_takenColumns 34 = .ok (.lload 4, 2) := by decide +kernel
theorem dX4_takenColumns_36 : decode cX4_takenColumns 36 = .ok (.aload_n 0, 1) := by decide +kernel
theorem dX4_takenColumns_37 : decode cX4_takenColumns 37 = .ok (.getfield 21, 3) := by decide +kernel
theorem dX4_takenColumns_40 : decode cX4_takenColumns 40 = .ok (.iload 7, 2) := by decide +kernel
theorem dX4_takenColumns_42 : decode cX4_takenColumns 42 = .ok (.laload, 1) := by decide +kernel
theorem dX4_takenColumns_43 : decode cX4_takenColumns 43 = .ok (.aload_n 0, 1) := by decide +kernel
theorem dX4_takenColumns_44 : decode cX4_takenColumns 44 = .ok (.getfield 25, 3) := by decide +kernel
theorem dX4_takenColumns_47 : decode cX4_takenColumns 47 = .ok (.iload 7, 2) := by decide +kernel
theorem dX4_takenColumns_49 : decode cX4_takenColumns 49 = .ok (.laload, 1) := by decide +kernel
theorem dX4_takenColumns_50 : decode cX4_takenColumns 50 = .ok (.lor, 1) := by decide +kernel
theorem dX4_takenColumns_51 : decode cX4_takenColumns 51 = .ok (.lor, 1) := by decide +kernel
theorem dX4_takenColumns_52 : decode cX4_takenColumns 52 = .ok (.lstore 4, 2) := by decide +kernel
theorem dX4_takenColumns_54 : decode cX4_takenColumns 54 = .ok (.iinc 7 1, 3) := by decide +kernel
theorem dX4_takenColumns_57 : decode cX4_takenColumns 57 = .ok (.goto (-42), 3) := by decide +kernel
theorem dX4_takenColumns_60 : decode cX4_takenColumns 60 = .ok (.lload 4, 2) := by decide +kernel
theorem dX4_takenColumns_62 : decode cX4_takenColumns 62 = .ok (.lreturn, 1) := by decide +kernel
theorem dX4_changeCuts_0 : decode cX4_changeCuts 0 = .ok (.iconst 0, 1) := by decide +kernel
theorem dX4_changeCuts_1 : decode cX4_changeCuts 1 = .ok (.istore_n 3, 1) := by decide +kernel
theorem dX4_changeCuts_2 : decode cX4_changeCuts 2 = .ok (.iload_n 3, 1) := by decide +kernel
theorem dX4_changeCuts_3 : decode cX4_changeCuts 3 = .ok (.bipush 10, 2) := by decide +kernel
theorem dX4_changeCuts_5 : decode cX4_changeCuts 5 = .ok (.if_icmp .ge 126, 3) := by decide +kernel
theorem dX4_changeCuts_8 : decode cX4_changeCuts 8 = .ok (.aload_n 1, 1) := by decide +kernel
theorem dX4_changeCuts_9 : decode cX4_changeCuts 9 = .ok (.getfield 117, 3) := by decide +kernel
theorem dX4_changeCuts_12 : decode cX4_changeCuts 12 = .ok (.iload_n 3, 1) := by decide +kernel
theorem dX4_changeCuts_13 : decode cX4_changeCuts 13 = .ok (.iadd, 1) := by decide +kernel
theorem dX4_changeCuts_14 : decode cX4_changeCuts 14 = .ok (.istore 4, 2) := by decide +kernel
theorem dX4_changeCuts_16 : decode cX4_changeCuts 16 = .ok (.aload_n 1, 1) := by decide +kernel
theorem dX4_changeCuts_17 : decode cX4_changeCuts 17 = .ok (.getfield 122, 3) := by decide +kernel
theorem dX4_changeCuts_20 : decode cX4_changeCuts 20 = .ok (.iload_n 3, 1) := by decide +kernel
theorem dX4_changeCuts_21 : decode cX4_changeCuts 21 = .ok (.iaload, 1) := by decide +kernel
theorem dX4_changeCuts_22 : decode cX4_changeCuts 22 = .ok (.ifCond .eq 103, 3) := by decide +kernel
theorem dX4_changeCuts_25 : decode cX4_changeCuts 25 = .ok (.aload_n 0, 1) := by decide +kernel
theorem dX4_changeCuts_26 : decode cX4_changeCuts 26 = .ok (.iload 4, 2) := by decide +kernel
theorem dX4_changeCuts_28 : decode cX4_changeCuts 28 = .ok (.i2l, 1) := by decide +kernel
theorem dX4_changeCuts_29 : decode cX4_changeCuts 29 = .ok (.invokevirtual 125, 3) := by decide +kernel
theorem dX4_changeCuts_32 : decode cX4_changeCuts 32 = .ok (.ifCond .ne 6, 3) := by decide +kernel
theorem dX4_changeCuts_35 : decode cX4_changeCuts 35 = .ok (.goto 90, 3) := by decide +kernel
theorem dX4_changeCuts_38 : decode cX4_changeCuts 38 = .ok (.aload_n 0, 1) := by decide +kernel
theorem dX4_changeCuts_39 : decode cX4_changeCuts 39 = .ok (.getfield 9, 3) := by decide +kernel
theorem dX4_changeCuts_42 : decode cX4_changeCuts 42 = .ok (.iload 4, 2) := by decide +kernel
theorem dX4_changeCuts_44 : decode cX4_changeCuts 44 = .ok (.dup2, 1) := by decide +kernel
theorem dX4_changeCuts_45 : decode cX4_changeCuts 45 = .ok (.iaload, 1) := by decide +kernel
theorem dX4_changeCuts_46 : decode cX4_changeCuts 46 = .ok (.iload_n 2, 1) := by decide +kernel
theorem dX4_changeCuts_47 : decode cX4_changeCuts 47 = .ok (.aload_n 1, 1) := by decide +kernel
theorem dX4_changeCuts_48 : decode cX4_changeCuts 48 = .ok (.getfield 122, 3) := by decide +kernel
theorem dX4_changeCuts_51 : decode cX4_changeCuts 51 = .ok (.iload_n 3, 1) := by decide +kernel
theorem dX4_changeCuts_52 : decode cX4_changeCuts 52 = .ok (.iaload, 1) := by decide +kernel
theorem dX4_changeCuts_53 : decode cX4_changeCuts 53 = .ok (.imul, 1) := by decide +kernel
theorem dX4_changeCuts_54 : decode cX4_changeCuts 54 = .ok (.iadd, 1) := by decide +kernel
theorem dX4_changeCuts_55 : decode cX4_changeCuts 55 = .ok (.iastore, 1) := by decide +kernel
theorem dX4_changeCuts_56 : decode cX4_changeCuts 56 = .ok (.aload_n 0, 1) := by decide +kernel
theorem dX4_changeCuts_57 : decode cX4_changeCuts 57 = .ok (.getfield 37, 3) := by decide +kernel
theorem dX4_changeCuts_60 : decode cX4_changeCuts 60 = .ok (.aload_n 1, 1) := by decide +kernel
theorem dX4_changeCuts_61 : decode cX4_changeCuts 61 = .ok (.getfield 129, 3) := by decide +kernel
theorem dX4_changeCuts_64 : decode cX4_changeCuts 64 = .ok (.aload_n 1, 1) := by decide +kernel
theorem dX4_changeCuts_65 : decode cX4_changeCuts 65 = .ok (.iload_n 3, 1) := by decide +kernel
theorem dX4_changeCuts_66 : decode cX4_changeCuts 66 = .ok (.invokevirtual 132, 3) := by decide +kernel
theorem dX4_changeCuts_69 : decode cX4_changeCuts 69 = .ok (.iadd, 1) := by decide +kernel
theorem dX4_changeCuts_70 : decode cX4_changeCuts 70 = .ok (.invokestatic 96, 3) := by decide +kernel
theorem dX4_changeCuts_73 : decode cX4_changeCuts 73 = .ok (.istore 5, 2) := by decide +kernel
theorem dX4_changeCuts_75 : decode cX4_changeCuts 75 = .ok (.iconst 0, 1) := by decide +kernel
theorem dX4_changeCuts_76 : decode cX4_changeCuts 76 = .ok (.aload_n 1, 1) := by decide +kernel
theorem dX4_changeCuts_77 : decode cX4_changeCuts 77 = .ok (.getfield 129, 3) := by decide +kernel
theorem dX4_changeCuts_80 : decode cX4_changeCuts 80 = .ok (.invokestatic 64, 3) := by decide +kernel
theorem dX4_changeCuts_83 : decode cX4_changeCuts 83 = .ok (.istore 6, 2) := by decide +kernel
theorem dX4_changeCuts_85 : decode cX4_changeCuts 85 = .ok (.iload 6, 2) := by decide +kernel
theorem dX4_changeCuts_87 : decode cX4_changeCuts 87 = .ok (.iload 5, 2) := by decide +kernel
theorem dX4_changeCuts_89 : decode cX4_changeCuts 89 = .ok (.if_icmp .ge 36, 3) := by decide +kernel
theorem dX4_changeCuts_92 : decode cX4_changeCuts 92 = .ok (.aload_n 0, 1) := by decide +kernel
theorem dX4_changeCuts_93 : decode cX4_changeCuts 93 = .ok (.getfield 25, 3) := by decide +kernel
theorem dX4_changeCuts_96 : decode cX4_changeCuts 96 = .ok (.iload 4, 2) := by decide +kernel
theorem dX4_changeCuts_98 : decode cX4_changeCuts 98 = .ok (.bipush 60, 2) := by decide +kernel
theorem dX4_changeCuts_100 : decode cX4_changeCuts 100 = .ok (.imul, 1) := by decide +kernel
theorem dX4_changeCuts_101 : decode cX4_changeCuts 101 = .ok (.iload 6, 2) := by decide +kernel
theorem dX4_changeCuts_103 : decode cX4_changeCuts 103 = .ok (.iadd, 1) := by decide +kernel
theorem dX4_changeCuts_104 : decode cX4_changeCuts 104 = .ok (.dup2, 1) := by decide +kernel
theorem dX4_changeCuts_105 : decode cX4_changeCuts 105 = .ok (.laload, 1) := by decide +kernel
theorem dX4_changeCuts_106 : decode cX4_changeCuts 106 = .ok (.aload_n 1, 1) := by decide +kernel
theorem dX4_changeCuts_107 : decode cX4_changeCuts 107 = .ok (.getfield 135, 3) := by decide +kernel
theorem dX4_changeCuts_110 : decode cX4_changeCuts 110 = .ok (.aload_n 1, 1) := by decide +kernel
theorem dX4_changeCuts_111 : decode cX4_changeCuts 111 = .ok (.getfield 138, 3) := by decide +kernel
theorem dX4_changeCuts_114 : decode cX4_changeCuts 114 = .ok (.invokestatic 105, 3) := by decide +kernel
theorem dX4_changeCuts_117 : decode cX4_changeCuts 117 = .ok (.lxor, 1) := by decide +kernel
theorem dX4_changeCuts_118 : decode cX4_changeCuts 118 = .ok (.lastore, 1) := by decide +kernel
theorem dX4_changeCuts_119 : decode cX4_changeCuts 119 = .ok (.iinc 6 1, 3) := by decide +kernel
theorem dX4_changeCuts_122 : decode cX4_changeCuts 122 = .ok (.goto (-37), 3) := by decide +kernel
theorem dX4_changeCuts_125 : decode cX4_changeCuts 125 = .ok (.iinc 3 1, 3) := by decide +kernel
theorem dX4_changeCuts_128 : decode cX4_changeCuts 128 = .ok (.goto (-126), 3) := by decide +kernel
theorem dX4_changeCuts_131 : decode cX4_changeCuts 131 = .ok (.return_, 1) := by decide +kernel
theorem dX4_addCuts_0 : decode cX4_addCuts 0 = .ok (.aload_n 0, 1) := by decide +kernel
theorem dX4_addCuts_1 : decode cX4_addCuts 1 = .ok (.aload_n 1, 1) := by decide +kernel
theorem dX4_addCuts_2 : decode cX4_addCuts 2 = .ok (.iconst 1, 1) := by decide +kernel
theorem dX4_addCuts_3 : decode cX4_addCuts 3 = .ok (.invokevirtual 139, 3) := by decide +kernel
theorem dX4_addCuts_6 : decode cX4_addCuts 6 = .ok (.return_, 1) := by decide +kernel
theorem dX4_removeCuts_0 : decode cX4_removeCuts 0 = .ok (.aload_n 0, 1) := by decide +kernel
theorem dX4_removeCuts_1 : decode cX4_removeCuts 1 = .ok (.aload_n 1, 1) := by decide +kernel
theorem dX4_removeCuts_2 : decode cX4_removeCuts 2 = .ok (.iconst (-1), 1) := by decide +kernel
theorem dX4_removeCuts_3 : decode cX4_removeCuts 3 = .ok (.invokevirtual 139, 3) := by decide +kernel
theorem dX4_removeCuts_6 : decode cX4_removeCuts 6 = .ok (.return_, 1) := by decide +kernel
theorem dX4_mask_0 : decode cX4_mask 0 = .ok (.lconst 1, 1) := by decide +kernel
theorem dX4_mask_1 : decode cX4_mask 1 = .ok (.iload_n 1, 1) := by decide +kernel
theorem dX4_mask_2 : decode cX4_mask 2 = .ok (.lshl, 1) := by decide +kernel
theorem dX4_mask_3 : decode cX4_mask 3 = .ok (.lconst 1, 1) := by decide +kernel
theorem dX4_mask_4 : decode cX4_mask 4 = .ok (.lsub, 1) := by decide +kernel
theorem dX4_mask_5 : decode cX4_mask 5 = .ok (.iload_n 0, 1) := by decide +kernel
theorem dX4_mask_6 : decode cX4_mask 6 = .ok (.lshl, 1) := by decide +kernel
theorem dX4_mask_7 : decode cX4_mask 7 = .ok (.lreturn, 1) := by decide +kernel
end
section
theorem dX5_init_0 : decode cX5_init 0 = .ok (.aload_n 0, 1) := by decide +kernel
theorem dX5_init_1 : decode cX5_init 1 = .ok (.invokespecial 3, 3) := by decide +kernel
theorem dX5_init_4 : decode cX5_init 4 = .ok (.aload_n 0, 1) := by decide +kernel
theorem dX5_init_5 : decode cX5_init 5 = .ok (.bipush 8, 2) := by decide +kernel
theorem dX5_init_7 : decode cX5_init 7 = .ok (.newarray .int, 2) := by decide +kernel
theorem dX5_init_9 : decode cX5_init 9 = .ok (.putfield 9, 3) := by decide +kernel
theorem dX5_init_12 : decode cX5_init 12 = .ok (.aload_n 0, 1) := by decide +kernel
theorem dX5_init_13 : decode cX5_init 13 = .ok (.iconst 3, 1) := by decide +kernel
theorem dX5_init_14 : decode cX5_init 14 = .ok (.newarray .int, 2) := by decide +kernel
theorem dX5_init_16 : decode cX5_init 16 = .ok (.putfield 15, 3) := by decide +kernel
theorem dX5_init_19 : decode cX5_init 19 = .ok (.aload_n 0, 1) := by decide +kernel
theorem dX5_init_20 : decode cX5_init 20 = .ok (.iconst 3, 1) := by decide +kernel
theorem dX5_init_21 : decode cX5_init 21 = .ok (.newarray .int, 2) := by decide +kernel
theorem dX5_init_23 : decode cX5_init 23 = .ok (.putfield 18, 3) := by decide +kernel
theorem dX5_init_26 : decode cX5_init 26 = .ok (.aload_n 0, 1) := by decide +kernel
theorem dX5_init_27 : decode cX5_init 27 = .ok (.iconst 3, 1) := by decide +kernel
theorem dX5_init_28 : decode cX5_init 28 = .ok (.newarray .int, 2) := by decide +kernel
theorem dX5_init_30 : decode cX5_init 30 = .ok (.putfield 21, 3) := by decide +kernel
theorem dX5_init_33 : decode cX5_init 33 = .ok (.aload_n 0, 1) := by decide +kernel
theorem dX5_init_34 : decode cX5_init 34 = .ok (.aload_n 1, 1) := by decide +kernel
theorem dX5_init_35 : decode cX5_init 35 = .ok (.putfield 24, 3) := by decide +kernel
theorem dX5_init_38 : decode cX5_init 38 = .ok (.aload_n 0, 1) := by decide +kernel
theorem dX5_init_39 : decode cX5_init 39 = .ok (.getfield 9, 3) := by decide +kernel
theorem dX5_init_42 : decode cX5_init 42 = .ok (.iconst (-1), 1) := by decide +kernel
theorem dX5_init_43 : decode cX5_init 43 = .ok (.invokestatic 28, 3) := by decide +kernel
theorem dX5_init_46 : decode cX5_init 46 = .ok (.return_, 1) := by decide +kernel
theorem dX5_tell_0 : decode cX5_tell 0 = .ok (.aload_n 0, 1) := by decide +kernel
theorem dX5_tell_1 : decode cX5_tell 1 = .ok (.invokevirtual 34, 3) := by decide +kernel
theorem dX5_tell_4 : decode cX5_tell 4 = .ok (.ifCond .ne 5, 3) := by decide +kernel
theorem dX5_tell_7 : decode cX5_tell 7 = .ok (.iconst (-1), 1) := by decide +kernel
theorem dX5_tell_8 : decode cX5_tell 8 = .ok (.ireturn, 1) := by decide +kernel
theorem dX5_tell_9 : decode cX5_tell 9 = .ok (.aload_n 0, 1) := by decide +kernel
theorem dX5_tell_10 : decode cX5_tell 10 = .ok (.iconst 4, 1) := by decide +kernel
theorem dX5_tell_11 : decode cX5_tell 11 = .ok (.putfield 38, 3) := by decide +kernel
theorem dX5_tell_14 : decode cX5_tell 14 = .ok (.aload_n 0, 1) := by decide +kernel
theorem dX5_tell_15 : decode cX5_tell 15 = .ok (.iconst 0, 1) := by decide +kernel
theorem dX5_tell_16 : decode cX5_tell 16 = .ok (.iconst 0, 1) := by decide +kernel
theorem dX5_tell_17 : decode cX5_tell 17 = .ok (.invokevirtual 42, 3) := by decide +kernel
theorem dX5_tell_20 : decode cX5_tell 20 = .ok (.aload_n 0, 1) := by decide +kernel
theorem dX5_tell_21 : decode cX5_tell 21 = .ok (.getfield 38, 3) := by decide +kernel
theorem dX5_tell_24 : decode cX5_tell 24 = .ok (.iconst 3, 1) := by decide +kernel
theorem dX5_tell_25 : decode cX5_tell 25 = .ok (.if_icmp .le 6, 3) := by decide +kernel
theorem dX5_tell_28 : decode cX5_tell 28 = .ok (.bipush (-2), 2) := by decide +kernel
theorem dX5_tell_30 : decode cX5_tell 30 = .ok (.ireturn, 1) := by decide +kernel
theorem dX5_tell_31 : decode cX5_tell 31 = .ok (.aload_n 0, 1) := by decide +kernel
theorem dX5_tell_32 : decode cX5_tell 32 = .ok (.getfield 9, 3) := by decide +kernel
theorem dX5_tell_35 : decode cX5_tell 35 = .ok (.iconst (-1), 1) := by decide +kernel
theorem dX5_tell_36 : decode cX5_tell 36 = .ok (.invokestatic 28, 3) := by decide +kernel
theorem dX5_tell_39 : decode cX5_tell 39 = .ok (.iconst 0, 1) := by decide +kernel
theorem dX5_tell_40 : decode cX5_tell 40 = .ok (.istore_n 1, 1) := by decide +kernel
theorem dX5_tell_41 : decode cX5_tell 41 = .ok (.iload_n 1, 1) := by decide +kernel
theorem dX5_tell_42 : decode cX5_tell 42 = .ok (.aload_n 0, 1) := by decide +kernel
theorem dX5_tell_43 : decode cX5_tell 43 = .ok (.getfield 46, 3) := by decide +kernel
theorem dX5_tell_46 : decode cX5_tell 46 = .ok (.if_icmp .ge 26, 3) := by decide +kernel
theorem dX5_tell_49 : decode cX5_tell 49 = .ok (.aload_n 0, 1) := by decide +kernel
theorem dX5_tell_50 : decode cX5_tell 50 = .ok (.getfield 9, 3) := by decide +kernel
theorem dX5_tell_53 : decode cX5_tell 53 = .ok (.aload_n 0, 1) := by decide +kernel
theorem dX5_tell_54 : decode cX5_tell 54 = .ok (.getfield 15, 3) := by decide +kernel
theorem dX5_tell_57 : decode cX5_tell 57 = .ok (.iload_n 1, 1) := by decide +kernel
theorem dX5_tell_58 : decode cX5_tell 58 = .ok (.iaload, 1) := by decide +kernel
theorem dX5_tell_59 : decode cX5_tell 59 = .ok (.aload_n 0, 1) := by decide +kernel
theorem dX5_tell_60 : decode cX5_tell 60 = .ok (.getfield 21, 3) := by decide +kernel
theorem dX5_tell_63 : decode cX5_tell 63 = .ok (.iload_n 1, 1) := by decide +kernel
theorem dX5_tell_64 : decode cX5_tell 64 = .ok (.iaload, 1) := by decide +kernel
theorem dX5_tell_65 : decode cX5_tell 65 = .ok (.iastore, 1) := by decide +kernel
theorem dX5_tell_66 : decode cX5_tell 66 = .ok (.iinc 1 1, 3) := by decide +kernel
theorem dX5_tell_69 : decode cX5_tell 69 = .ok (.goto (-28), 3) := by decide +kernel
theorem dX5_tell_72 : decode cX5_tell 72 = .ok (.aload_n 0, 1) := by decide +kernel
theorem dX5_tell_73 : decode cX5_tell 73 = .ok (.getfield 38, 3) := by decide +kernel
theorem dX5_tell_76 : decode cX5_tell 76 = .ok (.ireturn, 1) := by decide +kernel
theorem dX5_gatherWaiting_0 : decode cX5_gatherWaiting 0 = .ok (.aload_n 0, 1) := by decide +kernel
theorem dX5_gatherWaiting_1 : decode cX5_gatherWaiting 1 = .ok (.iconst 0, 1) := by decide +kernel
theorem dX5_gatherWaiting_2 : decode cX5_gatherWaiting 2 = .ok (.putfield 46, 3) := by decide +kernel
theorem dX5_gatherWaiting_5 : decode cX5_gatherWaiting 5 = .ok (.iconst 0, 1) := by decide +kernel
theorem dX5_gatherWaiting_6 : decode cX5_gatherWaiting 6 = .ok (.istore_n 1, 1) := by decide +kernel
theorem dX5_gatherWaiting_7 : decode cX5_gatherWaiting 7 = .ok (.iload_n 1, 1) := by decide +kernel
theorem dX5_gatherWaiting_8 : decode cX5_gatherWaiting 8 = .ok (.bipush 8, 2) := by decide +kernel
theorem dX5_gatherWaiting_10 : decode cX5_gatherWaiting 10 = .ok (.if_icmp .ge 72, 3) := by decide +kernel
theorem dX5_gatherWaiting_13 : decode cX5_gatherWaiting 13 = .ok (.aload_n 0, 1) := by decide +kernel
theorem dX5_gatherWaiting_14 : decode cX5_gatherWaiting 14 = .ok (.getfield 24, 3) := by decide +kernel
theorem dX5_gatherWaiting_17 : decode cX5_gatherWaiting 17 = .ok (.getfield 49, 3) := by decide +kernel
theorem dX5_gatherWaiting_20 : decode cX5_gatherWaiting 20 = .ok (.iload_n 1, 1) := by decide +kernel
theorem dX5_gatherWaiting_21 : decode cX5_gatherWaiting 21 = .ok (.aaload, 1) := by decide +kernel
theorem dX5_gatherWaiting_22 : decode cX5_gatherWaiting 22 = .ok (.getfield 55, 3) := by decide +kernel
theorem dX5_gatherWaiting_25 : decode cX5_gatherWaiting 25 = .ok (.ifCond .eq 51, 3) := by decide +kernel
theorem dX5_gatherWaiting_28 : decode cX5_gatherWaiting 28 = .ok (.aload_n 0, 1) := by decide +kernel
theorem dX5_gatherWaiting_29 : decode cX5_gatherWaiting 29 = .ok (.getfield 24, 3) := by decide +kernel
theorem dX5_gatherWaiting_32 : decode cX5_gatherWaiting 32 = .ok (.getfield 49, 3) := by decide +kernel
theorem dX5_gatherWaiting_35 : decode cX5_gatherWaiting 35 = .ok (.iload_n 1, 1) := by decide +kernel
theorem dX5_gatherWaiting_36 : decode cX5_gatherWaiting 36 = .ok (.aaload, 1) := by decide +kernel
theorem dX5_gatherWaiting_37 : decode cX5_gatherWaiting 37 = .ok (.invokevirtual 61, 3) := by decide +kernel
theorem dX5_gatherWaiting_40 : decode cX5_gatherWaiting 40 = .ok (.ifCond .eq 6, 3) := by decide +kernel
theorem dX5_gatherWaiting_43 : decode cX5_gatherWaiting 43 = .ok (.goto 33, 3) := by decide +kernel
theorem dX5_gatherWaiting_46 : decode cX5_gatherWaiting 46 = .ok (.aload_n 0, 1) := by decide +kernel
theorem dX5_gatherWaiting_47 : decode cX5_gatherWaiting 47 = .ok (.getfield 46, 3) := by decide +kernel
theorem dX5_gatherWaiting_50 : decode cX5_gatherWaiting 50 = .ok (.iconst 3, 1) := by decide +kernel
theorem dX5_gatherWaiting_51 : decode cX5_gatherWaiting 51 = .ok (.if_icmp .ne 5, 3) := by decide +kernel
theorem dX5_gatherWaiting_54 : decode cX5_gatherWaiting 54 = .ok (.iconst 0, 1) := by decide +kernel
theorem dX5_gatherWaiting_55 : decode cX5_gatherWaiting 55 = .ok (.ireturn, 1) := by decide +kernel
theorem dX5_gatherWaiting_56 : decode cX5_gatherWaiting 56 = .ok (.aload_n 0, 1) := by decide +kernel
theorem dX5_gatherWaiting_57 : decode cX5_gatherWaiting 57 = .ok (.getfield 15, 3) := by decide +kernel
theorem dX5_gatherWaiting_60 : decode cX5_gatherWaiting 60 = .ok (.aload_n 0, 1) := by decide +kernel
theorem dX5_gatherWaiting_61 : decode cX5_gatherWaiting 61 = .ok (.getfield 46, 3) := by decide +kernel
theorem dX5_gatherWaiting_64 : decode cX5_gatherWaiting 64 = .ok (.iload_n 1, 1) := by decide +kernel
theorem dX5_gatherWaiting_65 : decode cX5_gatherWaiting 65 = .ok (.iastore, 1) := by decide +kernel
theorem dX5_gatherWaiting_66 : decode cX5_gatherWaiting 66 = .ok (.aload_n 0, 1) := by decide +kernel
theorem dX5_gatherWaiting_67 : decode cX5_gatherWaiting 67 = .ok (.dup, 1) := by decide +kernel
theorem dX5_gatherWaiting_68 : decode cX5_gatherWaiting 68 = .ok (.getfield 46, 3) := by decide +kernel
theorem dX5_gatherWaiting_71 : decode cX5_gatherWaiting 71 = .ok (.iconst 1, 1) := by decide +kernel
theorem dX5_gatherWaiting_72 : decode cX5_gatherWaiting 72 = .ok (.iadd, 1) := by decide +kernel
theorem dX5_gatherWaiting_73 : decode cX5_gatherWaiting 73 = .ok (.putfield 46, 3) := by decide +kernel
theorem dX5_gatherWaiting_76 : decode cX5_gatherWaiting 76 = .ok (.iinc 1 1, 3) := by decide +kernel
theorem dX5_gatherWaiting_79 : decode cX5_gatherWaiting 79 = .ok (.goto (-72), 3) := by decide +kernel
theorem dX5_gatherWaiting_82 : decode cX5_gatherWaiting 82 = .ok (.aload_n 0, 1) := by decide +kernel
theorem dX5_gatherWaiting_83 : decode cX5_gatherWaiting 83 = .ok (.getfield 46, 3) := by decide +kernel
theorem dX5_gatherWaiting_86 : decode cX5_gatherWaiting 86 = .ok (.ifCond .le 7, 3) := by decide +kernel
theorem dX5_gatherWaiting_89 : decode cX5_gatherWaiting 89 = .ok (.iconst 1, 1) := by decide +kernel
theorem dX5_gatherWaiting_90 : decode cX5_gatherWaiting 90 = .ok (.goto 4, 3) := by decide +kernel
theorem dX5_gatherWaiting_93 : decode cX5_gatherWaiting 93 = .ok (.iconst 0, 1) := by decide +kernel
theorem dX5_gatherWaiting_94 : decode cX5_gatherWaiting 94 = .ok (.ireturn, 1) := by decide +kernel
theorem dX5_tryDoor_0 : decode cX5_tryDoor 0 = .ok (.iload_n 2, 1) := by decide +kernel
theorem dX5_tryDoor_1 : decode cX5_tryDoor 1 = .ok (.invokestatic 64, 3) := by decide +kernel
theorem dX5_tryDoor_4 : decode cX5_tryDoor 4 = .ok (.aload_n 0, 1) := by decide +kernel
theorem dX5_tryDoor_5 : decode cX5_tryDoor 5 = .ok (.getfield 38, 3) := by decide +kernel
theorem dX5_tryDoor_8 : decode cX5_tryDoor 8 = .ok (.if_icmp .lt 4, 3) := by decide +kernel
theorem dX5_tryDoor_11 : decode cX5_tryDoor 11 = .ok (.return_, 1) := by decide +kernel
theorem dX5_tryDoor_12 : decode cX5_tryDoor 12 = .ok (.iload_n 1, 1) := by decide +kernel
theorem dX5_tryDoor_13 : decode cX5_tryDoor 13 = .ok (.aload_n 0, 1) := by decide +kernel
theorem dX5_tryDoor_14 : decode cX5_tryDoor 14 = .ok (.getfield 46, 3) := by decide +kernel
theorem dX5_tryDoor_17 : decode cX5_tryDoor 17 = .ok (.if_icmp .lt 29, 3) := by decide +kernel
theorem dX5_tryDoor_20 : decode cX5_tryDoor 20 = .ok (.aload_n 0, 1) := by decide +kernel
theorem dX5_tryDoor_21 : decode cX5_tryDoor 21 = .ok (.iload_n 2, 1) := by decide +kernel
theorem dX5_tryDoor_22 : decode cX5_tryDoor 22 = .ok (.invokestatic 64, 3) := by decide +kernel
theorem dX5_tryDoor_25 : decode cX5_tryDoor 25 = .ok (.putfield 38, 3) := by decide +kernel
theorem dX5_tryDoor_28 : decode cX5_tryDoor 28 = .ok (.aload_n 0, 1) := by decide +kernel
theorem dX5_tryDoor_29 : decode cX5_tryDoor 29 = .ok (.getfield 18, 3) := by decide +kernel
theorem dX5_tryDoor_32 : decode cX5_tryDoor 32 = .ok (.iconst 0, 1) := by decide +kernel
theorem dX5_tryDoor_33 : decode cX5_tryDoor 33 = .ok (.aload_n 0, 1) := by decide +kernel
theorem dX5_tryDoor_34 : decode cX5_tryDoor 34 = .ok (.getfield 21, 3) := by decide +kernel
theorem dX5_tryDoor_37 : decode cX5_tryDoor 37 = .ok (.iconst 0, 1) := by decide +kernel
theorem dX5_tryDoor_38 : decode cX5_tryDoor 38 = .ok (.aload_n 0, 1) := by decide +kernel
theorem dX5_tryDoor_39 : decode cX5_tryDoor 39 = .ok (.getfield 46, 3) := by decide +kernel
theorem dX5_tryDoor_42 : decode cX5_tryDoor 42 = .ok (.invokestatic 70, 3) := by decide +kernel
theorem dX5_tryDoor_45 : decode cX5_tryDoor 45 = .ok (.return_, 1) := by decide +kernel
theorem dX5_tryDoor_46 : decode cX5_tryDoor 46 = .ok (.aload_n 0, 1) := by decide +kernel
theorem dX5_tryDoor_47 : decode cX5_tryDoor 47 = .ok (.getfield 24, 3) := by decide +kernel
theorem dX5_tryDoor_50 : decode cX5_tryDoor 50 = .ok (.getfield 49, 3) := by decide +kernel
theorem dX5_tryDoor_53 : decode cX5_tryDoor 53 = .ok (.aload_n 0, 1) := by decide +kernel
theorem dX5_tryDoor_54 : decode cX5_tryDoor 54 = .ok (.getfield 15, 3) := by decide +kernel
theorem dX5_tryDoor_57 : decode cX5_tryDoor 57 = .ok (.iload_n 1, 1) := by decide +kernel
theorem dX5_tryDoor_58 : decode cX5_tryDoor 58 = .ok (.iaload, 1) := by decide +kernel
theorem dX5_tryDoor_59 : decode cX5_tryDoor 59 = .ok (.aaload, 1) := by decide +kernel
theorem dX5_tryDoor_60 : decode cX5_tryDoor 60 = .ok (.astore_n 3, 1) := by decide +kernel
theorem dX5_tryDoor_61 : decode cX5_tryDoor 61 = .ok (.iconst 0, 1) := by decide +kernel
theorem dX5_tryDoor_62 : decode cX5_tryDoor 62 = .ok (.istore 4, 2) := by decide +kernel
theorem dX5_tryDoor_64 : decode cX5_tryDoor 64 = .ok (.iload 4, 2) := by decide +kernel
theorem dX5_tryDoor_66 : decode cX5_tryDoor 66 = .ok (.iconst 3, 1) := by decide +kernel
theorem dX5_tryDoor_67 : decode cX5_tryDoor 67 = .ok (.if_icmp .ge 51, 3) := by decide +kernel
theorem dX5_tryDoor_70 : decode cX5_tryDoor 70 = .ok (.aload_n 0, 1) := by decide +kernel
theorem dX5_tryDoor_71 : decode cX5_tryDoor 71 = .ok (.getfield 24, 3) := by decide +kernel
theorem dX5_tryDoor_74 : decode cX5_tryDoor 74 = .ok (.aload_n 3, 1) := by decide +kernel
theorem dX5_tryDoor_75 : decode cX5_tryDoor 75 = .ok (.iload 4, 2) := by decide +kernel
theorem dX5_tryDoor_77 : decode cX5_tryDoor 77 = .ok (.invokevirtual 76, 3) := by decide +kernel
theorem dX5_tryDoor_80 : decode cX5_tryDoor 80 = .ok (.ifCond .eq 32, 3) := by decide +kernel
theorem dX5_tryDoor_83 : decode cX5_tryDoor 83 = .ok (.aload_n 0, 1) := by decide +kernel
theorem dX5_tryDoor_84 : decode cX5_tryDoor 84 = .ok (.getfield 18, 3) := by decide +kernel
theorem dX5_tryDoor_87 : decode cX5_tryDoor 87 = .ok (.iload_n 1, 1) := by decide +kernel
theorem dX5_tryDoor_88 : decode cX5_tryDoor 88 = .ok (.iload 4, 2) := by decide +kernel
theorem dX5_tryDoor_90 : decode cX5_tryDoor 90 = .ok (.iastore, 1) := by decide +kernel
theorem dX5_tryDoor_91 : decode cX5_tryDoor 91 = .ok (.aload_n 0, 1) := by decide +kernel
theorem dX5_tryDoor_92 : decode cX5_tryDoor 92 = .ok (.iload_n 1, 1) := by decide +kernel
theorem dX5_tryDoor_93 : decode cX5_tryDoor 93 = .ok (.iconst 1, 1) := by decide +kernel
theorem dX5_tryDoor_94 : decode cX5_tryDoor 94 = .ok (.iadd, 1) := by decide +kernel
theorem dX5_tryDoor_95 : decode cX5_tryDoor 95 = .ok (.iload_n 2, 1) := by decide +kernel
theorem dX5_tryDoor_96 : decode cX5_tryDoor 96 = .ok (.iconst 1, 1) := by decide +kernel
theorem dX5_tryDoor_97 : decode cX5_tryDoor 97 = .ok (.iload 4, 2) := by decide +kernel
theorem dX5_tryDoor_99 : decode cX5_tryDoor 99 = .ok (.ishl, 1) := by decide +kernel
theorem dX5_tryDoor_100 : decode cX5_tryDoor 100 = .ok (.ior, 1) := by decide +kernel
theorem dX5_tryDoor_101 : decode cX5_tryDoor 101 = .ok (.invokevirtual 42, 3) := by decide +kernel
theorem dX5_tryDoor_104 : decode cX5_tryDoor 104 = .ok (.aload_n 0, 1) := by decide +kernel
theorem dX5_tryDoor_105 : decode cX5_tryDoor 105 = .ok (.getfield 24, 3) := by decide +kernel
theorem dX5_tryDoor_108 : decode cX5_tryDoor 108 = .ok (.aload_n 3, 1) := by decide +kernel
theorem dX5_tryDoor_109 : decode cX5_tryDoor 109 = .ok (.invokevirtual 80, 3) := by decide +kernel
theorem dX5_tryDoor_112 : decode cX5_tryDoor 112 = .ok (.iinc 4 1, 3) := by decide +kernel
theorem dX5_tryDoor_115 : decode cX5_tryDoor 115 = .ok (.goto (-51), 3) := by decide +kernel
theorem dX5_tryDoor_118 : decode cX5_tryDoor 118 = .ok (.return_, 1) := by decide +kernel
theorem dX6_init_0 : decode cX6_init 0 = .ok (.aload_n 0, 1) := by decide +kernel
theorem dX6_init_1 : decode cX6_init 1 = .ok (.invokespecial 3, 3) := by decide +kernel
theorem dX6_init_4 : decode cX6_init 4 = .ok (.aload_n 0, 1) := by decide +kernel
theorem dX6_init_5 : decode cX6_init 5 = .ok (.new 9, 3) := by decide +kernel
theorem dX6_init_8 : decode cX6_init 8 = .ok (.dup, 1) := by decide +kernel
theorem dX6_init_9 : decode cX6_init 9 = .ok (.invokespecial 11, 3) := by decide +kernel
theorem dX6_init_12 : decode cX6_init 12 = .ok (.putfield 12, 3) := by decide +kernel
theorem dX6_init_15 : decode cX6_init 15 = .ok (.aload_n 0, 1) := by decide +kernel
theorem dX6_init_16 : decode cX6_init 16 = .ok (.iconst (-1), 1) := by decide +kernel
theorem dX6_init_17 : decode cX6_init 17 = .ok (.putfield 18, 3) := by decide +kernel
theorem dX6_init_20 : decode cX6_init 20 = .ok (.aload_n 0, 1) := by decide +kernel
theorem dX6_init_21 : decode cX6_init 21 = .ok (.aload_n 1, 1) := by decide +kernel
theorem dX6_init_22 : decode cX6_init 22 = .ok (.putfield 22, 3) := by decide +kernel
theorem dX6_init_25 : decode cX6_init 25 = .ok (.return_, 1) := by decide +kernel
theorem dX6_readTape_0 : decode cX6_readTape 0 = .ok (.aload_n 0, 1) := by decide +kernel
theorem dX6_readTape_1 : decode cX6_readTape 1 = .ok (.iconst 0, 1) := by decide +kernel
theorem dX6_readTape_2 : decode cX6_readTape 2 = .ok (.putfield 26, 3) := by decide +kernel
theorem dX6_readTape_5 : decode cX6_readTape 5 = .ok (.aload_n 0, 1) := by decide +kernel
theorem dX6_readTape_6 : decode cX6_readTape 6 = .ok (.iconst 0, 1) := by decide +kernel
theorem dX6_readTape_7 : decode cX6_readTape 7 = .ok (.putfield 29, 3) := by decide +kernel
theorem dX6_readTape_10 : decode cX6_readTape 10 = .ok (.aload_n 0, 1) := by decide +kernel
theorem dX6_readTape_11 : decode cX6_readTape 11 = .ok (.iconst (-1), 1) := by decide +kernel
theorem dX6_readTape_12 : decode cX6_readTape 12 = .ok (.putfield 18, 3) := by decide +kernel
theorem dX6_readTape_15 : decode cX6_readTape 15 = .ok (.aload_n 0, 1) := by decide +kernel
theorem dX6_readTape_16 : decode cX6_readTape 16 = .ok (.iconst 0, 1) := by decide +kernel
theorem dX6_readTape_17 : decode cX6_readTape 17 = .ok (.iconst 0, 1) := by decide +kernel
theorem dX6_readTape_18 : decode cX6_readTape 18 = .ok (.iconst 0, 1) := by decide +kernel
theorem dX6_readTape_19 : decode cX6_readTape 19 = .ok (.invokevirtual 32, 3) := by decide +kernel
theorem dX6_readTape_22 : decode cX6_readTape 22 = .ok (.ifCond .ne 5, 3) := by decide +kernel
theorem dX6_readTape_25 : decode cX6_readTape 25 = .ok (.iconst 0, 1) := by decide +kernel
theorem dX6_readTape_26 : decode cX6_readTape 26 = .ok (.ireturn, 1) := by decide +kernel
theorem dX6_readTape_27 : decode cX6_readTape 27 = .ok (.aload_n 0, 1) := by decide +kernel
theorem dX6_readTape_28 : decode cX6_readTape 28 = .ok (.invokevirtual 36, 3) := by decide +kernel
theorem dX6_readTape_31 : decode cX6_readTape 31 = .ok (.iconst (-1), 1) := by decide +kernel
theorem dX6_readTape_32 : decode cX6_readTape 32 = .ok (.if_icmp .eq 13, 3) := by decide +kernel
theorem dX6_readTape_35 : decode cX6_readTape 35 = .ok (.aload_n 0, 1) := by decide +kernel
theorem dX6_readTape_36 : decode cX6_readTape 36 = .ok (.iconst 1, 1) := by decide +kernel
theorem dX6_readTape_37 : decode cX6_readTape 37 = .ok (.aload_n 0, 1) := by decide +kernel
theorem dX6_readTape_38 : decode cX6_readTape 38 = .ok (.getfield 26, 3) := by decide +kernel
theorem dX6_readTape_41 : decode cX6_readTape 41 = .ok (.invokevirtual 40, 3) := by decide +kernel
theorem dX6_readTape_44 : decode cX6_readTape 44 = .ok (.ireturn, 1) := by decide +kernel
theorem dX6_readTape_45 : decode cX6_readTape 45 = .ok (.aload_n 0, 1) := by decide +kernel
theorem dX6_readTape_46 : decode cX6_readTape 46 = .ok (.getfield 12, 3) := by decide +kernel
theorem dX6_readTape_49 : decode cX6_readTape 49 = .ok (.aload_n 0, 1) := by decide +kernel
theorem dX6_readTape_50 : decode cX6_readTape 50 = .ok (.getfield 44, 3) := by decide +kernel
theorem dX6_readTape_53 : decode cX6_readTape 53 = .ok (.putfield 47, 3) := by decide +kernel
theorem dX6_readTape_56 : decode cX6_readTape 56 = .ok (.aload_n 0, 1) := by decide +kernel
theorem dX6_readTape_57 : decode cX6_readTape 57 = .ok (.getfield 12, 3) := by decide +kernel
theorem dX6_readTape_60 : decode cX6_readTape 60 = .ok (.aload_n 0, 1) := by decide +kernel
theorem dX6_readTape_61 : decode cX6_readTape 61 = .ok (.getfield 48, 3) := by decide +kernel
theorem dX6_readTape_64 : decode cX6_readTape 64 = .ok (.putfield 51, 3) := by decide +kernel
theorem dX6_readTape_67 : decode cX6_readTape 67 = .ok (.iconst 1, 1) := by decide +kernel
theorem dX6_readTape_68 : decode cX6_readTape 68 = .ok (.ireturn, 1) := by decide +kernel
theorem dX6_readRow_0 : decode cX6_readRow 0 = .ok (.aload_n 0, 1) := by decide +kernel
theorem dX6_readRow_1 : decode cX6_readRow 1 = .ok (.iload_n 1, 1) := by decide +kernel
theorem dX6_readRow_2 : decode cX6_readRow 2 = .ok (.iload_n 2, 1) := by decide +kernel
theorem dX6_readRow_3 : decode cX6_readRow 3 = .ok (.iload_n 3, 1) := by decide +kernel
theorem dX6_readRow_4 : decode cX6_readRow 4 = .ok (.invokevirtual 52, 3) := by decide +kernel
theorem dX6_readRow_7 : decode cX6_readRow 7 = .ok (.ifCond .ne 5, 3) := by decide +kernel
theorem dX6_readRow_10 : decode cX6_readRow 10 = .ok (.iconst 0, 1) := by decide +kernel
theorem dX6_readRow_11 : decode cX6_readRow 11 = .ok (.ireturn, 1) := by decide +kernel
theorem dX6_readRow_12 : decode cX6_readRow 12 = .ok (.aload_n 0, 1) := by decide +kernel
theorem dX6_readRow_13 : decode cX6_readRow 13 = .ok (.getfield 44, 3) := by decide +kernel
theorem dX6_readRow_16 : decode cX6_readRow 16 = .ok (.istore 4, 2) := by decide +kernel
theorem dX6_readRow_18 : decode cX6_readRow 18 = .ok (.aload_n 0, 1) := by decide +kernel
theorem dX6_readRow_19 : decode cX6_readRow 19 = .ok (.getfield 48, 3) := by decide +kernel
theorem dX6_readRow_22 : decode cX6_readRow 22 = .ok (.istore 5, 2) := by decide +kernel
theorem dX6_readRow_24 : decode cX6_readRow 24 = .ok (.iconst 0, 1) := by decide +kernel
theorem dX6_readRow_25 : decode cX6_readRow 25 = .ok (.istore 6, 2) := by decide +kernel
theorem dX6_readRow_27 : decode cX6_readRow 27 = .ok (.iload 6, 2) := by decide +kernel
theorem dX6_readRow_29 : decode cX6_readRow 29 = .ok (.bipush 8, 2) := by decide +kernel
theorem dX6_readRow_31 : decode cX6_readRow 31 = .ok (.if_icmp .ge 90, 3) := by decide +kernel
theorem dX6_readRow_34 : decode cX6_readRow 34 = .ok (.aload_n 0, 1) := by decide +kernel
theorem dX6_readRow_35 : decode cX6_readRow 35 = .ok (.invokevirtual 36, 3) := by decide +kernel
theorem dX6_readRow_38 : decode cX6_readRow 38 = .ok (.bipush 124, 2) := by decide +kernel
theorem dX6_readRow_40 : decode cX6_readRow 40 = .ok (.if_icmp .ne 81, 3) := by decide +kernel
theorem dX6_readRow_43 : decode cX6_readRow 43 = .ok (.aload_n 0, 1) := by decide +kernel
theorem dX6_readRow_44 : decode cX6_readRow 44 = .ok (.getfield 26, 3) := by decide +kernel
theorem dX6_readRow_47 : decode cX6_readRow 47 = .ok (.istore 7, 2) := by decide +kernel
theorem dX6_readRow_49 : decode cX6_readRow 49 = .ok (.aload_n 0, 1) := by decide +kernel
theorem dX6_readRow_50 : decode cX6_readRow 50 = .ok (.dup, 1) := by decide +kernel
theorem dX6_readRow_51 : decode cX6_readRow 51 = .ok (.getfield 26, 3) := by decide +kernel
theorem dX6_readRow_54 : decode cX6_readRow 54 = .ok (.iconst 1, 1) := by decide +kernel
theorem dX6_readRow_55 : decode cX6_readRow 55 = .ok (.iadd, 1) := by decide +kernel
theorem dX6_readRow_56 : decode cX6_readRow 56 = .ok (.putfield 26, 3) := by decide +kernel
theorem dX6_readRow_59 : decode cX6_readRow 59 = .ok (.aload_n 0, 1) := by decide +kernel
theorem dX6_readRow_60 : decode cX6_readRow 60 = .ok (.iload_n 1, 1) := by decide +kernel
theorem dX6_readRow_61 : decode cX6_readRow 61 = .ok (.iload 4, 2) := by decide +kernel
theorem dX6_readRow_63 : decode cX6_readRow 63 = .ok (.iadd, 1) := by decide +kernel
theorem dX6_readRow_64 : decode cX6_readRow 64 = .ok (.iload_n 2, 1) := by decide +kernel
theorem dX6_readRow_65 : decode cX6_readRow 65 = .ok (.iload_n 3, 1) := by decide +kernel
theorem dX6_readRow_66 : decode cX6_readRow 66 = .ok (.invokevirtual 52, 3) := by decide +kernel
theorem dX6_readRow_69 : decode cX6_readRow 69 = .ok (.ifCond .ne 5, 3) := by decide +kernel
theorem dX6_readRow_72 : decode cX6_readRow 72 = .ok (.iconst 0, 1) := by decide +kernel
theorem dX6_readRow_73 : decode cX6_readRow 73 = .ok (.ireturn, 1) := by decide +kernel
theorem dX6_readRow_74 : decode cX6_readRow 74 = .ok (.aload_n 0, 1) := by decide +kernel
theorem dX6_readRow_75 : decode cX6_readRow 75 = .ok (.getfield 48, 3) := by decide +kernel
theorem dX6_readRow_78 : decode cX6_readRow 78 = .ok (.iload 5, 2) := by decide +kernel
theorem dX6_readRow_80 : decode cX6_readRow 80 = .ok (.if_icmp .eq 11, 3) := by decide +kernel
theorem dX6_readRow_83 : decode cX6_readRow 83 = .ok (.aload_n 0, 1) := by decide +kernel
theorem dX6_readRow_84 : decode cX6_readRow 84 = .ok (.iconst 2, 1) := by decide +kernel
theorem dX6_readRow_85 : decode cX6_readRow 85 = .ok (.iload 7, 2) := by decide +kernel
theorem dX6_readRow_87 : decode cX6_readRow 87 = .ok (.invokevirtual 40, 3) := by decide +kernel
theorem dX6_readRow_90 : decode cX6_readRow 90 = .ok (.ireturn, 1) := by decide +kernel
theorem dX6_readRow_91 : decode cX6_readRow 91 = .ok (.iload 4, 2) := by decide +kernel
theorem dX6_readRow_93 : decode cX6_readRow 93 = .ok (.aload_n 0, 1) := by decide +kernel
theorem dX6_readRow_94 : decode cX6_readRow 94 = .ok (.getfield 44, 3) := by decide +kernel
theorem dX6_readRow_97 : decode cX6_readRow 97 = .ok (.iadd, 1) := by decide +kernel
theorem dX6_readRow_98 : decode cX6_readRow 98 = .ok (.istore 4, 2) := by decide +kernel
theorem dX6_readRow_100 : decode cX6_readRow 100 = .ok (.iload 4, 2) := by decide +kernel
theorem dX6_readRow_102 : decode cX6_readRow 102 = .ok (.bipush 8, 2) := by decide +kernel
theorem dX6_readRow_104 : decode cX6_readRow 104 = .ok (.if_icmp .le 11, 3) := by decide +kernel
theorem dX6_readRow_107 : decode cX6_readRow 107 = .ok (.aload_n 0, 1) := by decide +kernel
theorem dX6_readRow_108 : decode cX6_readRow 108 = .ok (.iconst 3, 1) := by decide +kernel
theorem dX6_readRow_109 : decode cX6_readRow 109 = .ok (.iload 7, 2) := by decide +kernel
theorem dX6_readRow_111 : decode cX6_readRow 111 = .ok (.invokevirtual 40, 3) := by decide +kernel
theorem dX6_readRow_114 : decode cX6_readRow 114 = .ok (.ireturn, 1) := by decide +kernel
theorem dX6_readRow_115 : decode cX6_readRow 115 = .ok (.iinc 6 1, 3) := by decide +kernel
theorem dX6_readRow_118 : decode cX6_readRow 118 = .ok (.goto (-91), 3) := by decide +kernel
theorem dX6_readRow_121 : decode cX6_readRow 121 = .ok (.aload_n 0, 1) := by decide +kernel
theorem dX6_readRow_122 : decode cX6_readRow 122 = .ok (.iload 4, 2) := by decide +kernel
theorem dX6_readRow_124 : decode cX6_readRow 124 = .ok (.putfield 44, 3) := by decide +kernel
theorem dX6_readRow_127 : decode cX6_readRow 127 = .ok (.aload_n 0, 1) := by decide +kernel
theorem dX6_readRow_128 : decode cX6_readRow 128 = .ok (.iload 5, 2) := by decide +kernel
theorem dX6_readRow_130 : decode cX6_readRow 130 = .ok (.putfield 48, 3) := by decide +kernel
theorem dX6_readRow_133 : decode cX6_readRow 133 = .ok (.iconst 1, 1) := by decide +kernel
theorem dX6_readRow_134 : decode cX6_readRow 134 = .ok (.ireturn, 1) := by decide +kernel
theorem dX6_readColumn_0 : decode cX6_readColumn 0 = .ok (.aload_n 0, 1) := by decide +kernel
theorem dX6_readColumn_1 : decode cX6_readColumn 1 = .ok (.iload_n 1, 1) := by decide +kernel
theorem dX6_readColumn_2 : decode cX6_readColumn 2 = .ok (.iload_n 2, 1) := by decide +kernel
theorem dX6_readColumn_3 : decode cX6_readColumn 3 = .ok (.iload_n 3, 1) := by decide +kernel
theorem dX6_readColumn_4 : decode cX6_readColumn 4 = .ok (.invokevirtual 55, 3) := by decide +kernel
theorem dX6_readColumn_7 : decode cX6_readColumn 7 = .ok (.ifCond .ne 5, 3) := by decide +kernel
theorem dX6_readColumn_10 : decode cX6_readColumn 10 = .ok (.iconst 0, 1) := by decide +kernel
theorem dX6_readColumn_11 : decode cX6_readColumn 11 = .ok (.ireturn, 1) := by decide +kernel
theorem dX6_readColumn_12 : decode cX6_readColumn 12 = .ok (.aload_n 0, 1) := by decide +kernel
theorem dX6_readColumn_13 : decode cX6_readColumn 13 = .ok (.getfield 44, 3) := by decide +kernel
theorem dX6_readColumn_16 : decode cX6_readColumn 16 = .ok (.istore 4, 2) := by decide +kernel
theorem dX6_readColumn_18 : decode cX6_readColumn 18 = .ok (.aload_n 0, 1) := by decide +kernel
theorem dX6_readColumn_19 : decode cX6_readColumn 19 = .ok (.getfield 48, 3) := by decide +kernel
theorem dX6_readColumn_22 : decode cX6_readColumn 22 = .ok (.istore 5, 2) := by decide +kernel
theorem dX6_readColumn_24 : decode cX6_readColumn 24 = .ok (.iconst 0, 1) := by decide +kernel
theorem dX6_readColumn_25 : decode cX6_readColumn 25 = .ok (.istore 6, 2) := by decide +kernel
theorem dX6_readColumn_27 : decode cX6_readColumn 27 = .ok (.iload 6, 2) := by decide +kernel
theorem dX6_readColumn_29 : decode cX6_readColumn 29 = .ok (.bipush 8, 2) := by decide +kernel
theorem dX6_readColumn_31 : decode cX6_readColumn 31 = .ok (.if_icmp .ge 90, 3) := by decide +kernel
theorem dX6_readColumn_34 : decode cX6_readColumn 34 = .ok (.aload_n 0, 1) := by decide +kernel
theorem dX6_readColumn_35 : decode cX6_readColumn 35 = .ok (.invokevirtual 36, 3) := by decide +kernel
theorem dX6_readColumn_38 : decode cX6_readColumn 38 = .ok (.bipush 47, 2) := by decide +kernel
theorem dX6_readColumn_40 : decode cX6_readColumn 40 = .ok (.if_icmp .ne 81, 3) := by decide +kernel
theorem dX6_readColumn_43 : decode cX6_readColumn 43 = .ok (.aload_n 0, 1) := by decide +kernel
theorem dX6_readColumn_44 : decode cX6_readColumn 44 = .ok (.getfield 26, 3) := by decide +kernel
theorem dX6_readColumn_47 : decode cX6_readColumn 47 = .ok (.istore 7, 2) := by decide +kernel
theorem dX6_readColumn_49 : decode cX6_readColumn 49 = .ok (.aload_n 0, 1) := by decide +kernel
theorem dX6_readColumn_50 : decode cX6_readColumn 50 = .ok (.dup, 1) := by decide +kernel
theorem dX6_readColumn_51 : decode cX6_readColumn 51 = .ok (.getfield 26, 3) := by decide +kernel
theorem dX6_readColumn_54 : decode cX6_readColumn 54 = .ok (.iconst 1, 1) := by decide +kernel
theorem dX6_readColumn_55 : decode cX6_readColumn 55 = .ok (.iadd, 1) := by decide +kernel
theorem dX6_readColumn_56 : decode cX6_readColumn 56 = .ok (.putfield 26, 3) := by decide +kernel
theorem dX6_readColumn_59 : decode cX6_readColumn 59 = .ok (.aload_n 0, 1) := by decide +kernel
theorem dX6_readColumn_60 : decode cX6_readColumn 60 = .ok (.iload_n 1, 1) := by decide +kernel
theorem dX6_readColumn_61 : decode cX6_readColumn 61 = .ok (.iload_n 2, 1) := by decide +kernel
theorem dX6_readColumn_62 : decode cX6_readColumn 62 = .ok (.iload 5, 2) := by decide +kernel
theorem dX6_readColumn_64 : decode cX6_readColumn 64 = .ok (.iadd, 1) := by decide +kernel
theorem dX6_readColumn_65 : decode cX6_readColumn 65 = .ok (.iload_n 3, 1) := by decide +kernel
theorem dX6_readColumn_66 : decode cX6_readColumn 66 = .ok (.invokevirtual 55, 3) := by decide +kernel
theorem dX6_readColumn_69 : decode cX6_readColumn 69 = .ok (.ifCond .ne 5, 3) := by decide +kernel
theorem dX6_readColumn_72 : decode cX6_readColumn 72 = .ok (.iconst 0, 1) := by decide +kernel
theorem dX6_readColumn_73 : decode cX6_readColumn 73 = .ok (.ireturn, 1) := by decide +kernel
theorem dX6_readColumn_74 : decode cX6_readColumn 74 = .ok (.aload_n 0, 1) := by decide +kernel
theorem dX6_readColumn_75 : decode cX6_readColumn 75 = .ok (.getfield 44, 3) := by decide +kernel
theorem dX6_readColumn_78 : decode cX6_readColumn 78 = .ok (.iload 4, 2) := by decide +kernel
theorem dX6_readColumn_80 : decode cX6_readColumn 80 = .ok (.if_icmp .eq 11, 3) := by decide +kernel
theorem dX6_readColumn_83 : decode cX6_readColumn 83 = .ok (.aload_n 0, 1) := by decide +kernel
theorem dX6_readColumn_84 : decode cX6_readColumn 84 = .ok (.iconst 2, 1) := by decide +kernel
theorem dX6_readColumn_85 : decode cX6_readColumn 85 = .ok (.iload 7, 2) := by decide +kernel
theorem dX6_readColumn_87 : decode cX6_readColumn 87 = .ok (.invokevirtual 40, 3) := by decide +kernel
theorem dX6_readColumn_90 : decode cX6_readColumn 90 = .ok (.ireturn, 1) := by decide +kernel
theorem dX6_readColumn_91 : decode cX6_readColumn 91 = .ok (.iload 5, 2) := by decide +kernel
theorem dX6_readColumn_93 : decode cX6_readColumn 93 = .ok (.aload_n 0, 1) := by decide +kernel
theorem dX6_readColumn_94 : decode cX6_readColumn 94 = .ok (.getfield 48, 3) := by decide +kernel
theorem dX6_readColumn_97 : decode cX6_readColumn 97 = .ok (.iadd, 1) := by decide +kernel
theorem dX6_readColumn_98 : decode cX6_readColumn 98 = .ok (.istore 5, 2) := by decide +kernel
theorem dX6_readColumn_100 : decode cX6_readColumn 100 = .ok (.iload 5, 2) := by decide +kernel
theorem dX6_readColumn_102 : decode cX6_readColumn 102 = .ok (.bipush 8, 2) := by decide +kernel
theorem dX6_readColumn_104 : decode cX6_readColumn 104 = .ok (.if_icmp .le 11, 3) := by decide +kernel
theorem dX6_readColumn_107 : decode cX6_readColumn 107 = .ok (.aload_n 0, 1) := by decide +kernel
theorem dX6_readColumn_108 : decode cX6_readColumn 108 = .ok (.iconst 3, 1) := by decide +kernel
theorem dX6_readColumn_109 : decode cX6_readColumn 109 = .ok (.iload 7, 2) := by decide +kernel
theorem dX6_readColumn_111 : decode cX6_readColumn 111 = .ok (.invokevirtual 40, 3) := by decide +kernel
theorem dX6_readColumn_114 : decode cX6_readColumn 114 = .ok (.ireturn, 1) := by decide +kernel
theorem dX6_readColumn_115 : decode cX6_readColumn 115 = .ok (.iinc 6 1, 3) := by decide +kernel
theorem dX6_readColumn_118 : decode cX6_readColumn 118 = .ok (.goto (-91), 3) := by decide +kernel
theorem dX6_readColumn_121 : decode cX6_readColumn 121 = .ok (.aload_n 0, 1) := by decide +kernel
theorem dX6_readColumn_122 : decode cX6_readColumn 122 = .ok (.iload 4, 2) := by decide +kernel
theorem dX6_readColumn_124 : decode cX6_readColumn 124 = .ok (.putfield 44, 3) := by decide +kernel
theorem dX6_readColumn_127 : decode cX6_readColumn 127 = .ok (.aload_n 0, 1) := by decide +kernel
theorem dX6_readColumn_128 : decode cX6_readColumn 128 = .ok (.iload 5, 2) := by decide +kernel
theorem dX6_readColumn_130 : decode cX6_readColumn 130 = .ok (.putfield 48, 3) := by decide +kernel
theorem dX6_readColumn_133 : decode cX6_readColumn 133 = .ok (.iconst 1, 1) := by decide +kernel
theorem dX6_readColumn_134 : decode cX6_readColumn 134 = .ok (.ireturn, 1) := by decide +kernel
theorem dX6_readPart_0 : decode cX6_readPart 0 = .ok (.aload_n 0, 1) := by decide +kernel
theorem dX6_readPart_1 : decode cX6_readPart 1 = .ok (.invokevirtual 36, 3) := by decide +kernel
theorem dX6_readPart_4 : decode cX6_readPart 4 = .ok (.istore 4, 2) := by decide +kernel
theorem dX6_readPart_6 : decode cX6_readPart 6 = .ok (.aload_n 0, 1) := by decide +kernel
theorem dX6_readPart_7 : decode cX6_readPart 7 = .ok (.getfield 26, 3) := by decide +kernel
theorem dX6_readPart_10 : decode cX6_readPart 10 = .ok (.istore 5, 2) := by decide +kernel
theorem dX6_readPart_12 : decode cX6_readPart 12 = .ok (.iload 4, 2) := by decide +kernel
theorem dX6_readPart_14 : decode cX6_readPart 14 = .ok (.bipush 48, 2) := by decide +kernel
theorem dX6_readPart_16 : decode cX6_readPart 16 = .ok (.bipush 57, 2) := by decide +kernel
theorem dX6_readPart_18 : decode cX6_readPart 18 = .ok (.invokestatic 58, 3) := by decide +kernel
theorem dX6_readPart_21 : decode cX6_readPart 21 = .ok (.istore 6, 2) := by decide +kernel
theorem dX6_readPart_23 : decode cX6_readPart 23 = .ok (.iload 6, 2) := by decide +kernel
theorem dX6_readPart_25 : decode cX6_readPart 25 = .ok (.ifCond .ne 32, 3) := by decide +kernel
theorem dX6_readPart_28 : decode cX6_readPart 28 = .ok (.iload 4, 2) := by decide +kernel
theorem dX6_readPart_30 : decode cX6_readPart 30 = .ok (.bipush 40, 2) := by decide +kernel
theorem dX6_readPart_32 : decode cX6_readPart 32 = .ok (.if_icmp .eq 25, 3) := by decide +kernel
theorem dX6_readPart_35 : decode cX6_readPart 35 = .ok (.iload 4, 2) := by decide +kernel
theorem dX6_readPart_37 : decode cX6_readPart 37 = .ok (.bipush 33, 2) := by decide +kernel
theorem dX6_readPart_39 : decode cX6_readPart 39 = .ok (.if_icmp .eq 18, 3) := by decide +kernel
theorem dX6_readPart_42 : decode cX6_readPart 42 = .ok (.iload 4, 2) := by decide +kernel
theorem dX6_readPart_44 : decode cX6_readPart 44 = .ok (.bipush 126, 2) := by decide +kernel
theorem dX6_readPart_46 : decode cX6_readPart 46 = .ok (.if_icmp .eq 11, 3) := by decide +kernel
theorem dX6_readPart_49 : decode cX6_readPart 49 = .ok (.aload_n 0, 1) := by decide +kernel
theorem dX6_readPart_50 : decode cX6_readPart 50 = .ok (.iconst 1, 1) := by decide +kernel
theorem dX6_readPart_51 : decode cX6_readPart 51 = .ok (.iload 5, 2) := by decide +kernel
theorem dX6_readPart_53 : decode cX6_readPart 53 = .ok (.invokevirtual 40, 3) := by decide +kernel
theorem dX6_readPart_56 : decode cX6_readPart 56 = .ok (.ireturn, 1) := by decide +kernel
theorem dX6_readPart_57 : decode cX6_readPart 57 = .ok (.aload_n 0, 1) := by decide +kernel
theorem dX6_readPart_58 : decode cX6_readPart 58 = .ok (.dup, 1) := by decide +kernel
theorem dX6_readPart_59 : decode cX6_readPart 59 = .ok (.getfield 26, 3) := by decide +kernel
theorem dX6_readPart_62 : decode cX6_readPart 62 = .ok (.iconst 1, 1) := by decide +kernel
theorem dX6_readPart_63 : decode cX6_readPart 63 = .ok (.iadd, 1) := by decide +kernel
theorem dX6_readPart_64 : decode cX6_readPart 64 = .ok (.putfield 26, 3) := by decide +kernel
theorem dX6_readPart_67 : decode cX6_readPart 67 = .ok (.iload 4, 2) := by decide +kernel
theorem dX6_readPart_69 : decode cX6_readPart 69 = .ok (.bipush 50, 2) := by decide +kernel
theorem dX6_readPart_71 : decode cX6_readPart 71 = .ok (.bipush 57, 2) := by decide +kernel
theorem dX6_readPart_73 : decode cX6_readPart 73 = .ok (.invokestatic 58, 3) := by decide +kernel
theorem dX6_readPart_76 : decode cX6_readPart 76 = .ok (.ifCond .eq 16, 3) := by decide +kernel
theorem dX6_readPart_79 : decode cX6_readPart 79 = .ok (.aload_n 0, 1) := by decide +kernel
theorem dX6_readPart_80 : decode cX6_readPart 80 = .ok (.invokevirtual 36, 3) := by decide +kernel
theorem dX6_readPart_83 : decode cX6_readPart 83 = .ok (.bipush 120, 2) := by decide +kernel
theorem dX6_readPart_85 : decode cX6_readPart 85 = .ok (.if_icmp .ne 7, 3) := by decide +kernel
theorem dX6_readPart_88 : decode cX6_readPart 88 = .ok (.iconst 1, 1) := by decide +kernel
theorem dX6_readPart_89 : decode cX6_readPart 89 = .ok (.goto 4, 3) := by decide +kernel
theorem dX6_readPart_92 : decode cX6_readPart 92 = .ok (.iconst 0, 1) := by decide +kernel
theorem dX6_readPart_93 : decode cX6_readPart 93 = .ok (.istore 7, 2) := by decide +kernel
theorem dX6_readPart_95 : decode cX6_readPart 95 = .ok (.iload 6, 2) := by decide +kernel
theorem dX6_readPart_97 : decode cX6_readPart 97 = .ok (.ifCond .eq 20, 3) := by decide +kernel
theorem dX6_readPart_100 : decode cX6_readPart 100 = .ok (.iload 7, 2) := by decide +kernel
theorem dX6_readPart_102 : decode cX6_readPart 102 = .ok (.ifCond .ne 15, 3) := by decide +kernel
theorem dX6_readPart_105 : decode cX6_readPart 105 = .ok (.aload_n 0, 1) := by decide +kernel
theorem dX6_readPart_106 : decode cX6_readPart 106 = .ok (.iload_n 1, 1) := by decide +kernel
theorem dX6_readPart_107 : decode cX6_readPart 107 = .ok (.iload_n 2, 1) := by decide +kernel
theorem dX6_readPart_108 : decode cX6_readPart 108 = .ok (.iload 4, 2) := by decide +kernel
theorem dX6_readPart_110 : decode cX6_readPart 110 = .ok (.bipush 48, 2) := by decide +kernel
theorem dX6_readPart_112 : decode cX6_readPart 112 = .ok (.isub, 1) := by decide +kernel
theorem dX6_readPart_113 : decode cX6_readPart 113 = .ok (.invokevirtual 61, 3) := by decide +kernel
theorem dX6_readPart_116 : decode cX6_readPart 116 = .ok (.ireturn, 1) := by decide +kernel
theorem dX6_readPart_117 : decode cX6_readPart 117 = .ok (.iload_n 3, 1) := by decide +kernel
theorem dX6_readPart_118 : decode cX6_readPart 118 = .ok (.bipush 6, 2) := by decide +kernel
theorem dX6_readPart_120 : decode cX6_readPart 120 = .ok (.if_icmp .lt 11, 3) := by decide +kernel
theorem dX6_readPart_123 : decode cX6_readPart 123 = .ok (.aload_n 0, 1) := by decide +kernel
theorem dX6_readPart_124 : decode cX6_readPart 124 = .ok (.iconst 1, 1) := by decide +kernel
theorem dX6_readPart_125 : decode cX6_readPart 125 = .ok (.iload 5, 2) := by decide +kernel
theorem dX6_readPart_127 : decode cX6_readPart 127 = .ok (.invokevirtual 40, 3) := by decide +kernel
theorem dX6_readPart_130 : decode cX6_readPart 130 = .ok (.ireturn, 1) := by decide +kernel
theorem dX6_readPart_131 : decode cX6_readPart 131 = .ok (.iload 7, 2) := by decide +kernel
theorem dX6_readPart_133 : decode cX6_readPart 133 = .ok (.ifCond .eq 18, 3) := by decide +kernel
theorem dX6_readPart_136 : decode cX6_readPart 136 = .ok (.aload_n 0, 1) := by decide +kernel
theorem dX6_readPart_137 : decode cX6_readPart 137 = .ok (.iload_n 1, 1) := by decide +kernel
theorem dX6_readPart_138 : decode cX6_readPart 138 = .ok (.iload_n 2, 1) := by decide +kernel
theorem dX6_readPart_139 : decode cX6_readPart 139 = .ok (.iload_n 3, 1) := by decide +kernel
theorem dX6_readPart_140 : decode cX6_readPart 140 = .ok (.iconst 1, 1) := by decide +kernel
theorem dX6_readPart_141 : decode cX6_readPart 141 = .ok (.iadd, 1) := by decide +kernel
theorem dX6_readPart_142 : decode cX6_readPart 142 = .ok (.iload 4, 2) := by decide +kernel
theorem dX6_readPart_144 : decode cX6_readPart 144 = .ok (.bipush 48, 2) := by decide +kernel
theorem dX6_readPart_146 : decode cX6_readPart 146 = .ok (.isub, 1) := by decide +kernel
theorem dX6_readPart_147 : decode cX6_readPart 147 = .ok (.invokevirtual 64, 3) := by decide +kernel
theorem dX6_readPart_150 : decode cX6_readPart 150 = .ok (.ireturn, 1) := by decide +kernel
theorem dX6_readPart_151 : decode cX6_readPart 151 = .ok (.iload 4, 2) := by decide +kernel
theorem dX6_readPart_153 : decode cX6_readPart 153 = .ok (.bipush 40, 2) := by decide +kernel
theorem dX6_readPart_155 : decode cX6_readPart 155 = .ok (.if_icmp .ne 15, 3) := by decide +kernel
theorem dX6_readPart_158 : decode cX6_readPart 158 = .ok (.aload_n 0, 1) := by decide +kernel
theorem dX6_readPart_159 : decode cX6_readPart 159 = .ok (.iload_n 1, 1) := by decide +kernel
theorem dX6_readPart_160 : decode cX6_readPart 160 = .ok (.iload_n 2, 1) := by decide +kernel
theorem dX6_readPart_161 : decode cX6_readPart 161 = .ok (.iload_n 3, 1) := by decide +kernel
theorem dX6_readPart_162 : decode cX6_readPart 162 = .ok (.iconst 1, 1) := by decide +kernel
theorem dX6_readPart_163 : decode cX6_readPart 163 = .ok (.iadd, 1) := by decide +kernel
theorem dX6_readPart_164 : decode cX6_readPart 164 = .ok (.invokevirtual 68, 3) := by decide +kernel
theorem dX6_readPart_167 : decode cX6_readPart 167 = .ok (.goto 24, 3) := by decide +kernel
theorem dX6_readPart_170 : decode cX6_readPart 170 = .ok (.aload_n 0, 1) := by decide +kernel
theorem dX6_readPart_171 : decode cX6_readPart 171 = .ok (.iload_n 1, 1) := by decide +kernel
theorem dX6_readPart_172 : decode cX6_readPart 172 = .ok (.iload_n 2, 1) := by decide +kernel
theorem dX6_readPart_173 : decode cX6_readPart 173 = .ok (.iload_n 3, 1) := by decide +kernel
theorem dX6_readPart_174 : decode cX6_readPart 174 = .ok (.iconst 1, 1) := by decide +kernel
theorem dX6_readPart_175 : decode cX6_readPart 175 = .ok (.iadd, 1) := by decide +kernel
theorem dX6_readPart_176 : decode cX6_readPart 176 = .ok (.iload 4, 2) := by decide +kernel
theorem dX6_readPart_178 : decode cX6_readPart 178 = .ok (.bipush 126, 2) := by decide +kernel
theorem dX6_readPart_180 : decode cX6_readPart 180 = .ok (.if_icmp .ne 7, 3) := by decide +kernel
theorem dX6_readPart_183 : decode cX6_readPart 183 = .ok (.iconst 1, 1) := by decide +kernel
theorem dX6_readPart_184 : decode cX6_readPart 184 = .ok (.goto 4, 3) := by decide +kernel
theorem dX6_readPart_187 : decode cX6_readPart 187 = .ok (.iconst 0, 1) := by decide +kernel
theorem dX6_readPart_188 : decode cX6_readPart 188 = .ok (.invokevirtual 71, 3) := by decide +kernel
theorem dX6_readPart_191 : decode cX6_readPart 191 = .ok (.ireturn, 1) := by decide +kernel
theorem dX6_drawPiece_0 : decode cX6_drawPiece 0 = .ok (.aload_n 0, 1) := by decide +kernel
theorem dX6_drawPiece_1 : decode cX6_drawPiece 1 = .ok (.getfield 12, 3) := by decide +kernel
theorem dX6_drawPiece_4 : decode cX6_drawPiece 4 = .ok (.iload_n 1, 1) := by decide +kernel
theorem dX6_drawPiece_5 : decode cX6_drawPiece 5 = .ok (.iload_n 2, 1) := by decide +kernel
theorem dX6_drawPiece_6 : decode cX6_drawPiece 6 = .ok (.iload_n 3, 1) := by decide +kernel
theorem dX6_drawPiece_7 : decode cX6_drawPiece 7 = .ok (.invokevirtual 75, 3) := by decide +kernel
theorem dX6_drawPiece_10 : decode cX6_drawPiece 10 = .ok (.aload_n 0, 1) := by decide +kernel
theorem dX6_drawPiece_11 : decode cX6_drawPiece 11 = .ok (.iconst 1, 1) := by decide +kernel
theorem dX6_drawPiece_12 : decode cX6_drawPiece 12 = .ok (.putfield 44, 3) := by decide +kernel
theorem dX6_drawPiece_15 : decode cX6_drawPiece 15 = .ok (.aload_n 0, 1) := by decide +kernel
theorem dX6_drawPiece_16 : decode cX6_drawPiece 16 = .ok (.iconst 1, 1) := by decide +kernel
theorem dX6_drawPiece_17 : decode cX6_drawPiece 17 = .ok (.putfield 48, 3) := by decide +kernel
theorem dX6_drawPiece_20 : decode cX6_drawPiece 20 = .ok (.iconst 1, 1) := by decide +kernel
theorem dX6_drawPiece_21 : decode cX6_drawPiece 21 = .ok (.ireturn, 1) := by decide +kernel
theorem dX6_readBracket_0 : decode cX6_readBracket 0 = .ok (.aload_n 0, 1) := by decide +kernel
theorem dX6_readBracket_1 : decode cX6_readBracket 1 = .ok (.iload_n 1, 1) := by decide +kernel
theorem dX6_readBracket_2 : decode cX6_readBracket 2 = .ok (.iload_n 2, 1) := by decide +kernel
theorem dX6_readBracket_3 : decode cX6_readBracket 3 = .ok (.iload_n 3, 1) := by decide +kernel
theorem dX6_readBracket_4 : decode cX6_readBracket 4 = .ok (.invokevirtual 32, 3) := by decide +kernel
theorem dX6_readBracket_7 : decode cX6_readBracket 7 = .ok (.ifCond .ne 5, 3) := by decide +kernel
theorem dX6_readBracket_10 : decode cX6_readBracket 10 = .ok (.iconst 0, 1) := by decide +kernel
theorem dX6_readBracket_11 : decode cX6_readBracket 11 = .ok (.ireturn, 1) := by decide +kernel
theorem dX6_readBracket_12 : decode cX6_readBracket 12 = .ok (.aload_n 0, 1) := by decide +kernel
theorem dX6_readBracket_13 : decode cX6_readBracket 13 = .ok (.invokevirtual 36, 3) := by decide +kernel
theorem dX6_readBracket_16 : decode cX6_readBracket 16 = .ok (.bipush 41, 2) := by decide +kernel
theorem dX6_readBracket_18 : decode cX6_readBracket 18 = .ok (.if_icmp .eq 13, 3) := by decide +kernel
theorem dX6_readBracket_21 : decode cX6_readBracket 21 = .ok (.aload_n 0, 1) := by decide +kernel
theorem dX6_readBracket_22 : decode cX6_readBracket 22 = .ok (.iconst 1, 1) := by decide +kernel
theorem dX6_readBracket_23 : decode cX6_readBracket 23 = .ok (.aload_n 0, 1) := by decide +kernel
theorem dX6_readBracket_24 : decode cX6_readBracket 24 = .ok (.getfield 26, 3) := by decide +kernel
theorem dX6_readBracket_27 : decode cX6_readBracket 27 = .ok (.invokevirtual 40, 3) := by decide +kernel
theorem dX6_readBracket_30 : decode cX6_readBracket 30 = .ok (.ireturn, 1) := by decide +kernel
theorem dX6_readBracket_31 : decode cX6_readBracket 31 = .ok (.aload_n 0, 1) := by decide +kernel
theorem dX6_readBracket_32 : decode cX6_readBracket 32 = .ok (.dup, 1) := by decide +kernel
theorem dX6_readBracket_33 : decode cX6_readBracket 33 = .ok (.getfield 26, 3) := by decide +kernel
theorem dX6_readBracket_36 : decode cX6_readBracket 36 = .ok (.iconst 1, 1) := by decide +kernel
theorem dX6_readBracket_37 : decode cX6_readBracket 37 = .ok (.iadd, 1) := by decide +kernel
theorem dX6_readBracket_38 : decode cX6_readBracket 38 = .ok (.putfield 26, 3) := by decide +kernel
theorem dX6_readBracket_41 : decode cX6_readBracket 41 = .ok (.iconst 1, 1) := by decide +kernel
theorem dX6_readBracket_42 : decode cX6_readBracket 42 = .ok (.ireturn, 1) := by decide +kernel
theorem dX6_readChanged_0 : decode cX6_readChanged 0 = .ok (.aload_n 0, 1) := by decide +kernel
theorem dX6_readChanged_1 : decode cX6_readChanged 1 = .ok (.iload_n 1, 1) := by decide +kernel
theorem dX6_readChanged_2 : decode cX6_readChanged 2 = .ok (.iload_n 2, 1) := by decide +kernel
theorem dX6_readChanged_3 : decode cX6_readChanged 3 = .ok (.iload_n 3, 1) := by decide +kernel
theorem dX6_readChanged_4 : decode cX6_readChanged 4 = .ok (.invokevirtual 55, 3) := by decide +kernel
theorem dX6_readChanged_7 : decode cX6_readChanged 7 = .ok (.ifCond .ne 5, 3) := by decide +kernel
theorem dX6_readChanged_10 : decode cX6_readChanged 10 = .ok (.iconst 0, 1) := by decide +kernel
theorem dX6_readChanged_11 : decode cX6_readChanged 11 = .ok (.ireturn, 1) := by decide +kernel
theorem dX6_readChanged_12 : decode cX6_readChanged 12 = .ok (.aload_n 0, 1) := by decide +kernel
theorem dX6_readChanged_13 : decode cX6_readChanged 13 = .ok (.getfield 12, 3) := by decide +kernel
theorem dX6_readChanged_16 : decode cX6_readChanged 16 = .ok (.iload_n 1, 1) := by decide +kernel
theorem dX6_readChanged_17 : decode cX6_readChanged 17 = .ok (.iload_n 2, 1) := by decide +kernel
theorem dX6_readChanged_18 : decode cX6_readChanged 18 = .ok (.aload_n 0, 1) := by decide +kernel
theorem dX6_readChanged_19 : decode cX6_readChanged 19 = .ok (.getfield 44, 3) := by decide +kernel
theorem dX6_readChanged_22 : decode cX6_readChanged 22 = .ok (.aload_n 0, 1) := by decide +kernel
theorem dX6_readChanged_23 : decode cX6_readChanged 23 = .ok (.getfield 48, 3) := by decide +kernel
theorem dX6_readChanged_26 : decode cX6_readChanged 26 = .ok (.invokevirtual 79, 3) := by decide +kernel
theorem dX6_readChanged_29 : decode cX6_readChanged 29 = .ok (.iload 4, 2) := by decide +kernel
theorem dX6_readChanged_31 : decode cX6_readChanged 31 = .ok (.ifCond .eq 20, 3) := by decide +kernel
theorem dX6_readChanged_34 : decode cX6_readChanged 34 = .ok (.aload_n 0, 1) := by decide +kernel
theorem dX6_readChanged_35 : decode cX6_readChanged 35 = .ok (.getfield 12, 3) := by decide +kernel
theorem dX6_readChanged_38 : decode cX6_readChanged 38 = .ok (.iload_n 1, 1) := by decide +kernel
theorem dX6_readChanged_39 : decode cX6_readChanged 39 = .ok (.iload_n 2, 1) := by decide +kernel
theorem dX6_readChanged_40 : decode cX6_readChanged 40 = .ok (.aload_n 0, 1) := by decide +kernel
theorem dX6_readChanged_41 : decode cX6_readChanged 41 = .ok (.getfield 44, 3) := by decide +kernel
theorem dX6_readChanged_44 : decode cX6_readChanged 44 = .ok (.aload_n 0, 1) := by decide +kernel
theorem dX6_readChanged_45 : decode cX6_readChanged 45 = .ok (.getfield 48, 3) := by decide +kernel
theorem dX6_readChanged_48 : decode cX6_readChanged 48 = .ok (.invokevirtual 83, 3) := by decide +kernel
theorem dX6_readChanged_51 : decode cX6_readChanged 51 = .ok (.iconst 1, 1) := by decide +kernel
theorem dX6_readChanged_52 : decode cX6_readChanged 52 = .ok (.ireturn, 1) := by decide +kernel
theorem dX6_readRepeated_0 : decode cX6_readRepeated 0 = .ok (.aload_n 0, 1) := by decide +kernel
theorem dX6_readRepeated_1 : decode cX6_readRepeated 1 = .ok (.getfield 26, 3) := by decide +kernel
theorem dX6_readRepeated_4 : decode cX6_readRepeated 4 = .ok (.istore 5, 2) := by decide +kernel
theorem dX6_readRepeated_6 : decode cX6_readRepeated 6 = .ok (.aload_n 0, 1) := by decide +kernel
theorem dX6_readRepeated_7 : decode cX6_readRepeated 7 = .ok (.dup, 1) := by decide +kernel
theorem dX6_readRepeated_8 : decode cX6_readRepeated 8 = .ok (.getfield 26, 3) := by decide +kernel
theorem dX6_readRepeated_11 : decode cX6_readRepeated 11 = .ok (.iconst 1, 1) := by decide +kernel
theorem dX6_readRepeated_12 : decode cX6_readRepeated 12 = .ok (.iadd, 1) := by decide +kernel
theorem dX6_readRepeated_13 : decode cX6_readRepeated 13 = .ok (.putfield 26, 3) := by decide +kernel
theorem dX6_readRepeated_16 : decode cX6_readRepeated 16 = .ok (.aload_n 0, 1) := by decide +kernel
theorem dX6_readRepeated_17 : decode cX6_readRepeated 17 = .ok (.iload_n 1, 1) := by decide +kernel
theorem dX6_readRepeated_18 : decode cX6_readRepeated 18 = .ok (.iload_n 2, 1) := by decide +kernel
theorem dX6_readRepeated_19 : decode cX6_readRepeated 19 = .ok (.iload_n 3, 1) := by decide +kernel
theorem dX6_readRepeated_20 : decode cX6_readRepeated 20 = .ok (.invokevirtual 55, 3) := by decide +kernel
theorem dX6_readRepeated_23 : decode cX6_readRepeated 23 = .ok (.ifCond .ne 5, 3) := by decide +kernel
theorem dX6_readRepeated_26 : decode cX6_readRepeated 26 = .ok (.iconst 0, 1) := by decide +kernel
theorem dX6_readRepeated_27 : decode cX6_readRepeated 27 = .ok (.ireturn, 1) := by decide +kernel
theorem dX6_readRepeated_28 : decode cX6_readRepeated 28 = .ok (.aload_n 0, 1) := by decide +kernel
theorem dX6_readRepeated_29 : decode cX6_readRepeated 29 = .ok (.getfield 44, 3) := by decide +kernel
theorem dX6_readRepeated_32 : decode cX6_readRepeated 32 = .ok (.iload 4, 2) := by decide +kernel
theorem dX6_readRepeated_34 : decode cX6_readRepeated 34 = .ok (.imul, 1) := by decide +kernel
theorem dX6_readRepeated_35 : decode cX6_readRepeated 35 = .ok (.bipush 8, 2) := by decide +kernel
theorem dX6_readRepeated_37 : decode cX6_readRepeated 37 = .ok (.if_icmp .le 11, 3) := by decide +kernel
theorem dX6_readRepeated_40 : decode cX6_readRepeated 40 = .ok (.aload_n 0, 1) := by decide +kernel
theorem dX6_readRepeated_41 : decode cX6_readRepeated 41 = .ok (.iconst 3, 1) := by decide +kernel
theorem dX6_readRepeated_42 : decode cX6_readRepeated 42 = .ok (.iload 5, 2) := by decide +kernel
theorem dX6_readRepeated_44 : decode cX6_readRepeated 44 = .ok (.invokevirtual 40, 3) := by decide +kernel
theorem dX6_readRepeated_47 : decode cX6_readRepeated 47 = .ok (.ireturn, 1) := by decide +kernel
theorem dX6_readRepeated_48 : decode cX6_readRepeated 48 = .ok (.aload_n 0, 1) := by decide +kernel
theorem dX6_readRepeated_49 : decode cX6_readRepeated 49 = .ok (.getfield 12, 3) := by decide +kernel
theorem dX6_readRepeated_52 : decode cX6_readRepeated 52 = .ok (.iload_n 1, 1) := by decide +kernel
theorem dX6_readRepeated_53 : decode cX6_readRepeated 53 = .ok (.iload_n 2, 1) := by decide +kernel
theorem dX6_readRepeated_54 : decode cX6_readRepeated 54 = .ok (.aload_n 0, 1) := by decide +kernel
theorem dX6_readRepeated_55 : decode cX6_readRepeated 55 = .ok (.getfield 44, 3) := by decide +kernel
theorem dX6_readRepeated_58 : decode cX6_readRepeated 58 = .ok (.aload_n 0, 1) := by decide +kernel
theorem dX6_readRepeated_59 : decode cX6_readRepeated 59 = .ok (.getfield 48, 3) := by decide +kernel
theorem dX6_readRepeated_62 : decode cX6_readRepeated 62 = .ok (.iload 4, 2) := by decide +kernel
theorem dX6_readRepeated_64 : decode cX6_readRepeated 64 = .ok (.invokevirtual 86, 3) := by decide +kernel
theorem dX6_readRepeated_67 : decode cX6_readRepeated 67 = .ok (.aload_n 0, 1) := by decide +kernel
theorem dX6_readRepeated_68 : decode cX6_readRepeated 68 = .ok (.dup, 1) := by decide +kernel
theorem dX6_readRepeated_69 : decode cX6_readRepeated 69 = .ok (.getfield 44, 3) := by decide +kernel
theorem dX6_readRepeated_72 : decode cX6_readRepeated 72 = .ok (.iload 4, 2) := by decide +kernel
theorem dX6_readRepeated_74 : decode cX6_readRepeated 74 = .ok (.imul, 1) := by decide +kernel
theorem dX6_readRepeated_75 : decode cX6_readRepeated 75 = .ok (.putfield 44, 3) := by decide +kernel
theorem dX6_readRepeated_78 : decode cX6_readRepeated 78 = .ok (.iconst 1, 1) := by decide +kernel
theorem dX6_readRepeated_79 : decode cX6_readRepeated 79 = .ok (.ireturn, 1) := by decide +kernel
theorem dX6_nextByte_0 : decode cX6_nextByte 0 = .ok (.aload_n 0, 1) := by decide +kernel
theorem dX6_nextByte_1 : decode cX6_nextByte 1 = .ok (.getfield 26, 3) := by decide +kernel
theorem dX6_nextByte_4 : decode cX6_nextByte 4 = .ok (.aload_n 0, 1) := by decide +kernel
theorem dX6_nextByte_5 : decode cX6_nextByte 5 = .ok (.getfield 22, 3) := by decide +kernel
theorem dX6_nextByte_8 : decode cX6_nextByte 8 = .ok (.getfield 90, 3) := by decide +kernel
theorem dX6_nextByte_11 : decode cX6_nextByte 11 = .ok (.if_icmp .ge 33, 3) := by decide +kernel
theorem dX6_nextByte_14 : decode cX6_nextByte 14 = .ok (.aload_n 0, 1) := by decide +kernel
theorem dX6_nextByte_15 : decode cX6_nextByte 15 = .ok (.getfield 22, 3) := by decide +kernel
theorem dX6_nextByte_18 : decode cX6_nextByte 18 = .ok (.aload_n 0, 1) := by decide +kernel
theorem dX6_nextByte_19 : decode cX6_nextByte 19 = .ok (.getfield 26, 3) := by decide +kernel
theorem dX6_nextByte_22 : decode cX6_nextByte 22 = .ok (.invokevirtual 95, 3) := by decide +kernel
theorem dX6_nextByte_25 : decode cX6_nextByte 25 = .ok (.invokestatic 99, 3) := by decide +kernel
theorem dX6_nextByte_28 : decode cX6_nextByte 28 = .ok (.ifCond .eq 16, 3) := by decide +kernel
theorem dX6_nextByte_31 : decode cX6_nextByte 31 = .ok (.aload_n 0, 1) := by decide +kernel
theorem dX6_nextByte_32 : decode cX6_nextByte 32 = .ok (.dup, 1) := by decide +kernel
theorem dX6_nextByte_33 : decode cX6_nextByte 33 = .ok (.getfield 26, 3) := by decide +kernel
theorem dX6_nextByte_36 : decode cX6_nextByte 36 = .ok (.iconst 1, 1) := by decide +kernel
theorem dX6_nextByte_37 : decode cX6_nextByte 37 = .ok (.iadd, 1) := by decide +kernel
theorem dX6_nextByte_38 : decode cX6_nextByte 38 = .ok (.putfield 26, 3) := by decide +kernel
theorem dX6_nextByte_41 : decode cX6_nextByte 41 = .ok (.goto (-41), 3) := by decide +kernel
theorem dX6_nextByte_44 : decode cX6_nextByte 44 = .ok (.aload_n 0, 1) := by decide +kernel
theorem dX6_nextByte_45 : decode cX6_nextByte 45 = .ok (.getfield 22, 3) := by decide +kernel
theorem dX6_nextByte_48 : decode cX6_nextByte 48 = .ok (.aload_n 0, 1) := by decide +kernel
theorem dX6_nextByte_49 : decode cX6_nextByte 49 = .ok (.getfield 26, 3) := by decide +kernel
theorem dX6_nextByte_52 : decode cX6_nextByte 52 = .ok (.invokevirtual 95, 3) := by decide +kernel
theorem dX6_nextByte_55 : decode cX6_nextByte 55 = .ok (.ireturn, 1) := by decide +kernel
theorem dX6_isBlank_0 : decode cX6_isBlank 0 = .ok (.iload_n 0, 1) := by decide +kernel
theorem dX6_isBlank_1 : decode cX6_isBlank 1 = .ok (.bipush 10, 2) := by decide +kernel
theorem dX6_isBlank_3 : decode cX6_isBlank 3 = .ok (.if_icmp .eq 9, 3) := by decide +kernel
theorem dX6_isBlank_6 : decode cX6_isBlank 6 = .ok (.iload_n 0, 1) := by decide +kernel
theorem dX6_isBlank_7 : decode cX6_isBlank 7 = .ok (.bipush 32, 2) := by decide +kernel
theorem dX6_isBlank_9 : decode cX6_isBlank 9 = .ok (.if_icmp .ne 7, 3) := by decide +kernel
theorem dX6_isBlank_12 : decode cX6_isBlank 12 = .ok (.iconst 1, 1) := by decide +kernel
theorem dX6_isBlank_13 : decode cX6_isBlank 13 = .ok (.goto 4, 3) := by decide +kernel
theorem dX6_isBlank_16 : decode cX6_isBlank 16 = .ok (.iconst 0, 1) := by decide +kernel
theorem dX6_isBlank_17 : decode cX6_isBlank 17 = .ok (.ireturn, 1) := by decide +kernel
theorem dX6_refuse_0 : decode cX6_refuse 0 = .ok (.aload_n 0, 1) := by decide +kernel
theorem dX6_refuse_1 : decode cX6_refuse 1 = .ok (.iload_n 1, 1) := by decide +kernel
theorem dX6_refuse_2 : decode cX6_refuse 2 = .ok (.putfield 29, 3) := by decide +kernel
theorem dX6_refuse_5 : decode cX6_refuse 5 = .ok (.aload_n 0, 1) := by decide +kernel
theorem dX6_refuse_6 : decode cX6_refuse 6 = .ok (.iload_n 2, 1) := by decide +kernel
theorem dX6_refuse_7 : decode cX6_refuse 7 = .ok (.putfield 18, 3) := by decide +kernel
theorem dX6_refuse_10 : decode cX6_refuse 10 = .ok (.iconst 0, 1) := by decide +kernel
theorem dX6_refuse_11 : decode cX6_refuse 11 = .ok (.ireturn, 1) := by decide +kernel
theorem dX7_init_0 : decode cX7_init 0 = .ok (.aload_n 0, 1) := by decide +kernel
theorem dX7_init_1 : decode cX7_init 1 = .ok (.invokespecial 3, 3) := by decide +kernel
theorem dX7_init_4 : decode cX7_init 4 = .ok (.aload_n 0, 1) := by decide +kernel
theorem dX7_init_5 : decode cX7_init 5 = .ok (.sipush 400, 3) := by decide +kernel
theorem dX7_init_8 : decode cX7_init 8 = .ok (.newarray .int, 2) := by decide +kernel
theorem dX7_init_10 : decode cX7_init 10 = .ok (.putfield 11, 3) := by decide +kernel
theorem dX7_init_13 : decode cX7_init 13 = .ok (.return_, 1) := by decide +kernel
theorem dX7_hasRoom_0 : decode cX7_hasRoom 0 = .ok (.aload_n 0, 1) := by decide +kernel
theorem dX7_hasRoom_1 : decode cX7_hasRoom 1 = .ok (.getfield 15, 3) := by decide +kernel
theorem dX7_hasRoom_4 : decode cX7_hasRoom 4 = .ok (.bipush 20, 2) := by decide +kernel
theorem dX7_hasRoom_6 : decode cX7_hasRoom 6 = .ok (.iadd, 1) := by decide +kernel
theorem dX7_hasRoom_7 : decode cX7_hasRoom 7 = .ok (.sipush 400, 3) := by decide +kernel
theorem dX7_hasRoom_10 : decode cX7_hasRoom 10 = .ok (.if_icmp .gt 7, 3) := by decide +kernel
theorem dX7_hasRoom_13 : decode cX7_hasRoom 13 = .ok (.iconst 1, 1) := by decide +kernel
theorem dX7_hasRoom_14 : decode cX7_hasRoom 14 = .ok (.goto 4, 3) := by decide +kernel
theorem dX7_hasRoom_17 : decode cX7_hasRoom 17 = .ok (.iconst 0, 1) := by decide +kernel
theorem dX7_hasRoom_18 : decode cX7_hasRoom 18 = .ok (.ireturn, 1) := by decide +kernel
theorem dX7_append_0 : decode cX7_append 0 = .ok (.bipush 24, 2) := by decide +kernel
theorem dX7_append_2 : decode cX7_append 2 = .ok (.istore_n 2, 1) := by decide +kernel
theorem dX7_append_3 : decode cX7_append 3 = .ok (.iload_n 2, 1) := by decide +kernel
theorem dX7_append_4 : decode cX7_append 4 = .ok (.ifCond .lt 45, 3) := by decide +kernel
theorem dX7_append_7 : decode cX7_append 7 = .ok (.aload_n 0, 1) := by decide +kernel
theorem dX7_append_8 : decode cX7_append 8 = .ok (.getfield 15, 3) := by decide +kernel
theorem dX7_append_11 : decode cX7_append 11 = .ok (.sipush 400, 3) := by decide +kernel
theorem dX7_append_14 : decode cX7_append 14 = .ok (.if_icmp .ge 35, 3) := by decide +kernel
theorem dX7_append_17 : decode cX7_append 17 = .ok (.aload_n 0, 1) := by decide +kernel
theorem dX7_append_18 : decode cX7_append 18 = .ok (.getfield 11, 3) := by decide +kernel
theorem dX7_append_21 : decode cX7_append 21 = .ok (.aload_n 0, 1) := by decide +kernel
theorem dX7_append_22 : decode cX7_append 22 = .ok (.getfield 15, 3) := by decide +kernel
theorem dX7_append_25 : decode cX7_append 25 = .ok (.iload_n 1, 1) := by decide +kernel
theorem dX7_append_26 : decode cX7_append 26 = .ok (.iload_n 2, 1) := by decide +kernel
theorem dX7_append_27 : decode cX7_append 27 = .ok (.iushr, 1) := by decide +kernel
theorem dX7_append_28 : decode cX7_append 28 = .ok (.sipush 255, 3) := by decide +kernel
theorem dX7_append_31 : decode cX7_append 31 = .ok (.iand, 1) := by decide +kernel
theorem dX7_append_32 : decode cX7_append 32 = .ok (.iastore, 1) := by decide +kernel
theorem dX7_append_33 : decode cX7_append 33 = .ok (.aload_n 0, 1) := by decide +kernel
theorem dX7_append_34 : decode cX7_append 34 = .ok (.dup, 1) := by decide +kernel
theorem dX7_append_35 : decode cX7_append 35 = .ok (.getfield 15, 3) := by decide +kernel
theorem dX7_append_38 : decode cX7_append 38 = .ok (.iconst 1, 1) := by decide +kernel
theorem dX7_append_39 : decode cX7_append 39 = .ok (.iadd, 1) := by decide +kernel
theorem dX7_append_40 : decode cX7_append 40 = .ok (.putfield 15, 3) := by decide +kernel
theorem dX7_append_43 : decode cX7_append 43 = .ok (.iinc 2 (-8), 3) := by decide +kernel
theorem dX7_append_46 : decode cX7_append 46 = .ok (.goto (-43), 3) := by decide +kernel
theorem dX7_append_49 : decode cX7_append 49 = .ok (.return_, 1) := by decide +kernel
theorem dX7_shorten_0 : decode cX7_shorten 0 = .ok (.iload_n 1, 1) := by decide +kernel
theorem dX7_shorten_1 : decode cX7_shorten 1 = .ok (.iconst 0, 1) := by decide +kernel
theorem dX7_shorten_2 : decode cX7_shorten 2 = .ok (.aload_n 0, 1) := by decide +kernel
theorem dX7_shorten_3 : decode cX7_shorten 3 = .ok (.getfield 15, 3) := by decide +kernel
theorem dX7_shorten_6 : decode cX7_shorten 6 = .ok (.invokestatic 19, 3) := by decide +kernel
theorem dX7_shorten_9 : decode cX7_shorten 9 = .ok (.istore_n 2, 1) := by decide +kernel
theorem dX7_shorten_10 : decode cX7_shorten 10 = .ok (.iload_n 2, 1) := by decide +kernel
theorem dX7_shorten_11 : decode cX7_shorten 11 = .ok (.ifCond .eq 8, 3) := by decide +kernel
theorem dX7_shorten_14 : decode cX7_shorten 14 = .ok (.aload_n 0, 1) := by decide +kernel
theorem dX7_shorten_15 : decode cX7_shorten 15 = .ok (.iload_n 1, 1) := by decide +kernel
theorem dX7_shorten_16 : decode cX7_shorten 16 = .ok (.putfield 15, 3) := by decide +kernel
theorem dX7_shorten_19 : decode cX7_shorten 19 = .ok (.iload_n 2, 1) := by decide +kernel
theorem dX7_shorten_20 : decode cX7_shorten 20 = .ok (.ireturn, 1) := by decide +kernel
theorem dX7_byteAt_0 : decode cX7_byteAt 0 = .ok (.iload_n 1, 1) := by decide +kernel
theorem dX7_byteAt_1 : decode cX7_byteAt 1 = .ok (.iconst 0, 1) := by decide +kernel
theorem dX7_byteAt_2 : decode cX7_byteAt 2 = .ok (.aload_n 0, 1) := by decide +kernel
theorem dX7_byteAt_3 : decode cX7_byteAt 3 = .ok (.getfield 15, 3) := by decide +kernel
theorem dX7_byteAt_6 : decode cX7_byteAt 6 = .ok (.iconst 1, 1) := by decide +kernel
theorem dX7_byteAt_7 : decode cX7_byteAt 7 = .ok (.isub, 1) := by decide +kernel
theorem dX7_byteAt_8 : decode cX7_byteAt 8 = .ok (.invokestatic 19, 3) := by decide +kernel
theorem dX7_byteAt_11 : decode cX7_byteAt 11 = .ok (.ifCond .eq 12, 3) := by decide +kernel
theorem dX7_byteAt_14 : decode cX7_byteAt 14 = .ok (.aload_n 0, 1) := by decide +kernel
theorem dX7_byteAt_15 : decode cX7_byteAt 15 = .ok (.getfield 11, 3) := by decide +kernel
theorem dX7_byteAt_18 : decode cX7_byteAt 18 = .ok (.iload_n 1, 1) := by decide +kernel
theorem dX7_byteAt_19 : decode cX7_byteAt 19 = .ok (.iaload, 1) := by decide +kernel
theorem dX7_byteAt_20 : decode cX7_byteAt 20 = .ok (.goto 4, 3) := by decide +kernel
theorem dX7_byteAt_23 : decode cX7_byteAt 23 = .ok (.iconst (-1), 1) := by decide +kernel
theorem dX7_byteAt_24 : decode cX7_byteAt 24 = .ok (.ireturn, 1) := by decide +kernel
theorem dX8_init_0 : decode cX8_init 0 = .ok (.aload_n 0, 1) := by decide +kernel
theorem dX8_init_1 : decode cX8_init 1 = .ok (.invokespecial 3, 3) := by decide +kernel
theorem dX8_init_4 : decode cX8_init 4 = .ok (.aload_n 0, 1) := by decide +kernel
theorem dX8_init_5 : decode cX8_init 5 = .ok (.iconst 3, 1) := by decide +kernel
theorem dX8_init_6 : decode cX8_init 6 = .ok (.anewarray 9, 3) := by decide +kernel
theorem dX8_init_9 : decode cX8_init 9 = .ok (.putfield 11, 3) := by decide +kernel
theorem dX8_init_12 : decode cX8_init 12 = .ok (.aload_n 0, 1) := by decide +kernel
theorem dX8_init_13 : decode cX8_init 13 = .ok (.bipush 8, 2) := by decide +kernel
theorem dX8_init_15 : decode cX8_init 15 = .ok (.anewarray 17, 3) := by decide +kernel
theorem dX8_init_18 : decode cX8_init 18 = .ok (.putfield 19, 3) := by decide +kernel
theorem dX8_init_21 : decode cX8_init 21 = .ok (.aload_n 0, 1) := by decide +kernel
theorem dX8_init_22 : decode cX8_init 22 = .ok (.new 23, 3) := by decide +kernel
theorem dX8_init_25 : decode cX8_init 25 = .ok (.dup, 1) := by decide +kernel
theorem dX8_init_26 : decode cX8_init 26 = .ok (.invokespecial 25, 3) := by decide +kernel
theorem dX8_init_29 : decode cX8_init 29 = .ok (.putfield 26, 3) := by decide +kernel
theorem dX8_init_32 : decode cX8_init 32 = .ok (.iconst 0, 1) := by decide +kernel
theorem dX8_init_33 : decode cX8_init 33 = .ok (.istore_n 1, 1) := by decide +kernel
theorem dX8_init_34 : decode cX8_init 34 = .ok (.iload_n 1, 1) := by decide +kernel
theorem dX8_init_35 : decode cX8_init 35 = .ok (.iconst 3, 1) := by decide +kernel
theorem dX8_init_36 : decode cX8_init 36 = .ok (.if_icmp .ge 22, 3) := by decide +kernel
theorem dX8_init_39 : decode cX8_init 39 = .ok (.aload_n 0, 1) := by decide +kernel
theorem dX8_init_40 : decode cX8_init 40 = .ok (.getfield 11, 3) := by decide +kernel
theorem dX8_init_43 : decode cX8_init 43 = .ok (.iload_n 1, 1) := by decide +kernel
theorem dX8_init_44 : decode cX8_init 44 = .ok (.new 9, 3) := by decide +kernel
theorem dX8_init_47 : decode cX8_init 47 = .ok (.dup, 1) := by decide +kernel
theorem dX8_init_48 : decode cX8_init 48 = .ok (.invokespecial 30, 3) := by decide +kernel
theorem dX8_init_51 : decode cX8_init 51 = .ok (.aastore, 1) := by decide +kernel
theorem dX8_init_52 : decode cX8_init 52 = .ok (.iinc 1 1, 3) := by decide +kernel
theorem dX8_init_55 : decode cX8_init 55 = .ok (.goto (-21), 3) := by decide +kernel
theorem dX8_init_58 : decode cX8_init 58 = .ok (.iconst 0, 1) := by decide +kernel
theorem dX8_init_59 : decode cX8_init 59 = .ok (.istore_n 1, 1) := by decide +kernel
theorem dX8_init_60 : decode cX8_init 60 = .ok (.iload_n 1, 1) := by decide +kernel
theorem dX8_init_61 : decode cX8_init 61 = .ok (.bipush 8, 2) := by decide +kernel
theorem dX8_init_63 : decode cX8_init 63 = .ok (.if_icmp .ge 22, 3) := by decide +kernel
theorem dX8_init_66 : decode cX8_init 66 = .ok (.aload_n 0, 1) := by decide +kernel
theorem dX8_init_67 : decode cX8_init 67 = .ok (.getfield 19, 3) := by decide +kernel
theorem dX8_init_70 : decode cX8_init 70 = .ok (.iload_n 1, 1) := by decide +kernel
theorem dX8_init_71 : decode cX8_init 71 = .ok (.new 17, 3) := by decide +kernel
theorem dX8_init_74 : decode cX8_init 74 = .ok (.dup, 1) := by decide +kernel
theorem dX8_init_75 : decode cX8_init 75 = .ok (.invokespecial 31, 3) := by decide +kernel
theorem dX8_init_78 : decode cX8_init 78 = .ok (.aastore, 1) := by decide +kernel
theorem dX8_init_79 : decode cX8_init 79 = .ok (.iinc 1 1, 3) := by decide +kernel
theorem dX8_init_82 : decode cX8_init 82 = .ok (.goto (-22), 3) := by decide +kernel
theorem dX8_init_85 : decode cX8_init 85 = .ok (.return_, 1) := by decide +kernel
theorem dX8_logAt_0 : decode cX8_logAt 0 = .ok (.iload_n 1, 1) := by decide +kernel
theorem dX8_logAt_1 : decode cX8_logAt 1 = .ok (.iconst 0, 1) := by decide +kernel
theorem dX8_logAt_2 : decode cX8_logAt 2 = .ok (.iconst 2, 1) := by decide +kernel
theorem dX8_logAt_3 : decode cX8_logAt 3 = .ok (.invokestatic 32, 3) := by decide +kernel
theorem dX8_logAt_6 : decode cX8_logAt 6 = .ok (.ifCond .eq 24, 3) := by decide +kernel
theorem dX8_logAt_9 : decode cX8_logAt 9 = .ok (.aload_n 0, 1) := by decide +kernel
theorem dX8_logAt_10 : decode cX8_logAt 10 = .ok (.getfield 11, 3) := by decide +kernel
theorem dX8_logAt_13 : decode cX8_logAt 13 = .ok (.iload_n 1, 1) := by decide +kernel
theorem dX8_logAt_14 : decode cX8_logAt 14 = .ok (.aaload, 1) := by decide +kernel
theorem dX8_logAt_15 : decode cX8_logAt 15 = .ok (.getfield 36, 3) := by decide +kernel
theorem dX8_logAt_18 : decode cX8_logAt 18 = .ok (.ifCond .eq 12, 3) := by decide +kernel
theorem dX8_logAt_21 : decode cX8_logAt 21 = .ok (.aload_n 0, 1) := by decide +kernel
theorem dX8_logAt_22 : decode cX8_logAt 22 = .ok (.getfield 11, 3) := by decide +kernel
theorem dX8_logAt_25 : decode cX8_logAt 25 = .ok (.iload_n 1, 1) := by decide +kernel
theorem dX8_logAt_26 : decode cX8_logAt 26 = .ok (.aaload, 1) := by decide +kernel
theorem dX8_logAt_27 : decode cX8_logAt 27 = .ok (.goto 4, 3) := by decide +kernel
theorem dX8_logAt_30 : decode cX8_logAt 30 = .ok (.aconst_null, 1) := by decide +kernel
theorem dX8_logAt_31 : decode cX8_logAt 31 = .ok (.areturn, 1) := by decide +kernel
theorem dX8_doorAt_0 : decode cX8_doorAt 0 = .ok (.iload_n 1, 1) := by decide +kernel
theorem dX8_doorAt_1 : decode cX8_doorAt 1 = .ok (.iconst 0, 1) := by decide +kernel
theorem dX8_doorAt_2 : decode cX8_doorAt 2 = .ok (.bipush 7, 2) := by decide +kernel
theorem dX8_doorAt_4 : decode cX8_doorAt 4 = .ok (.invokestatic 32, 3) := by decide +kernel
theorem dX8_doorAt_7 : decode cX8_doorAt 7 = .ok (.ifCond .eq 24, 3) := by decide +kernel
theorem dX8_doorAt_10 : decode cX8_doorAt 10 = .ok (.aload_n 0, 1) := by decide +kernel
theorem dX8_doorAt_11 : decode cX8_doorAt 11 = .ok (.getfield 19, 3) := by decide +kernel
theorem dX8_doorAt_14 : decode cX8_doorAt 14 = .ok (.iload_n 1, 1) := by decide +kernel
theorem dX8_doorAt_15 : decode cX8_doorAt 15 = .ok (.aaload, 1) := by decide +kernel
theorem dX8_doorAt_16 : decode cX8_doorAt 16 = .ok (.getfield 40, 3) := by decide +kernel
theorem dX8_doorAt_19 : decode cX8_doorAt 19 = .ok (.ifCond .eq 12, 3) := by decide +kernel
theorem dX8_doorAt_22 : decode cX8_doorAt 22 = .ok (.aload_n 0, 1) := by decide +kernel
theorem dX8_doorAt_23 : decode cX8_doorAt 23 = .ok (.getfield 19, 3) := by decide +kernel
theorem dX8_doorAt_26 : decode cX8_doorAt 26 = .ok (.iload_n 1, 1) := by decide +kernel
theorem dX8_doorAt_27 : decode cX8_doorAt 27 = .ok (.aaload, 1) := by decide +kernel
theorem dX8_doorAt_28 : decode cX8_doorAt 28 = .ok (.goto 4, 3) := by decide +kernel
theorem dX8_doorAt_31 : decode cX8_doorAt 31 = .ok (.aconst_null, 1) := by decide +kernel
theorem dX8_doorAt_32 : decode cX8_doorAt 32 = .ok (.areturn, 1) := by decide +kernel
theorem dX8_forgetMadeOf_0 : decode cX8_forgetMadeOf 0 = .ok (.iconst 0, 1) := by decide +kernel
theorem dX8_forgetMadeOf_1 : decode cX8_forgetMadeOf 1 = .ok (.istore_n 2, 1) := by decide +kernel
theorem dX8_forgetMadeOf_2 : decode cX8_forgetMadeOf 2 = .ok (.iload_n 2, 1) := by decide +kernel
theorem dX8_forgetMadeOf_3 : decode cX8_forgetMadeOf 3 = .ok (.bipush 8, 2) := by decide +kernel
theorem dX8_forgetMadeOf_5 : decode cX8_forgetMadeOf 5 = .ok (.if_icmp .ge 31, 3) := by decide +kernel
theorem dX8_forgetMadeOf_8 : decode cX8_forgetMadeOf 8 = .ok (.aload_n 0, 1) := by decide +kernel
theorem dX8_forgetMadeOf_9 : decode cX8_forgetMadeOf 9 = .ok (.getfield 19, 3) := by decide +kernel
theorem dX8_forgetMadeOf_12 : decode cX8_forgetMadeOf 12 = .ok (.iload_n 2, 1) := by decide +kernel
theorem dX8_forgetMadeOf_13 : decode cX8_forgetMadeOf 13 = .ok (.aaload, 1) := by decide +kernel
theorem dX8_forgetMadeOf_14 : decode cX8_forgetMadeOf 14 = .ok (.getfield 41, 3) := by decide +kernel
theorem dX8_forgetMadeOf_17 : decode cX8_forgetMadeOf 17 = .ok (.iload_n 1, 1) := by decide +kernel
theorem dX8_forgetMadeOf_18 : decode cX8_forgetMadeOf 18 = .ok (.if_icmp .ne 12, 3) := by decide +kernel
theorem dX8_forgetMadeOf_21 : decode cX8_forgetMadeOf 21 = .ok (.aload_n 0, 1) := by decide +kernel
theorem dX8_forgetMadeOf_22 : decode cX8_forgetMadeOf 22 = .ok (.getfield 19, 3) := by decide +kernel
theorem dX8_forgetMadeOf_25 : decode cX8_forgetMadeOf 25 = .ok (.iload_n 2, 1) := by decide +kernel
theorem dX8_forgetMadeOf_26 : decode cX8_forgetMadeOf 26 = .ok (.aaload, 1) := by decide +kernel
theorem dX8_forgetMadeOf_27 : decode cX8_forgetMadeOf 27 = .ok (.invokevirtual 45, 3) := by decide +kernel
theorem dX8_forgetMadeOf_30 : decode cX8_forgetMadeOf 30 = .ok (.iinc 2 1, 3) := by decide +kernel
theorem dX8_forgetMadeOf_33 : decode cX8_forgetMadeOf 33 = .ok (.goto (-31), 3) := by decide +kernel
theorem dX8_forgetMadeOf_36 : decode cX8_forgetMadeOf 36 = .ok (.return_, 1) := by decide +kernel
theorem dX8_makeIn_0 : decode cX8_makeIn 0 = .ok (.aload_n 0, 1) := by decide +kernel
theorem dX8_makeIn_1 : decode cX8_makeIn 1 = .ok (.iload_n 2, 1) := by decide +kernel
theorem dX8_makeIn_2 : decode cX8_makeIn 2 = .ok (.invokevirtual 48, 3) := by decide +kernel
theorem dX8_makeIn_5 : decode cX8_makeIn 5 = .ok (.astore_n 3, 1) := by decide +kernel
theorem dX8_makeIn_6 : decode cX8_makeIn 6 = .ok (.aload_n 3, 1) := by decide +kernel
theorem dX8_makeIn_7 : decode cX8_makeIn 7 = .ok (.ifnull 15, 3) := by decide +kernel
theorem dX8_makeIn_10 : decode cX8_makeIn 10 = .ok (.aload_n 0, 1) := by decide +kernel
theorem dX8_makeIn_11 : decode cX8_makeIn 11 = .ok (.getfield 26, 3) := by decide +kernel
theorem dX8_makeIn_14 : decode cX8_makeIn 14 = .ok (.aload_n 1, 1) := by decide +kernel
theorem dX8_makeIn_15 : decode cX8_makeIn 15 = .ok (.aload_n 3, 1) := by decide +kernel
theorem dX8_makeIn_16 : decode cX8_makeIn 16 = .ok (.invokevirtual 52, 3) := by decide +kernel
theorem dX8_makeIn_19 : decode cX8_makeIn 19 = .ok (.ifCond .ne 5, 3) := by decide +kernel
theorem dX8_makeIn_22 : decode cX8_makeIn 22 = .ok (.iconst 0, 1) := by decide +kernel
theorem dX8_makeIn_23 : decode cX8_makeIn 23 = .ok (.ireturn, 1) := by decide +kernel
theorem dX8_makeIn_24 : decode cX8_makeIn 24 = .ok (.aload_n 1, 1) := by decide +kernel
theorem dX8_makeIn_25 : decode cX8_makeIn 25 = .ok (.iload_n 2, 1) := by decide +kernel
theorem dX8_makeIn_26 : decode cX8_makeIn 26 = .ok (.aload_n 0, 1) := by decide +kernel
theorem dX8_makeIn_27 : decode cX8_makeIn 27 = .ok (.getfield 26, 3) := by decide +kernel
theorem dX8_makeIn_30 : decode cX8_makeIn 30 = .ok (.invokevirtual 56, 3) := by decide +kernel
theorem dX8_makeIn_33 : decode cX8_makeIn 33 = .ok (.aload_n 3, 1) := by decide +kernel
theorem dX8_makeIn_34 : decode cX8_makeIn 34 = .ok (.aload_n 1, 1) := by decide +kernel
theorem dX8_makeIn_35 : decode cX8_makeIn 35 = .ok (.invokevirtual 60, 3) := by decide +kernel
theorem dX8_makeIn_38 : decode cX8_makeIn 38 = .ok (.iconst 1, 1) := by decide +kernel
theorem dX8_makeIn_39 : decode cX8_makeIn 39 = .ok (.ireturn, 1) := by decide +kernel
theorem dX8_takeBack_0 : decode cX8_takeBack 0 = .ok (.aload_n 0, 1) := by decide +kernel
theorem dX8_takeBack_1 : decode cX8_takeBack 1 = .ok (.aload_n 1, 1) := by decide +kernel
theorem dX8_takeBack_2 : decode cX8_takeBack 2 = .ok (.getfield 41, 3) := by decide +kernel
theorem dX8_takeBack_5 : decode cX8_takeBack 5 = .ok (.invokevirtual 48, 3) := by decide +kernel
theorem dX8_takeBack_8 : decode cX8_takeBack 8 = .ok (.astore_n 2, 1) := by decide +kernel
theorem dX8_takeBack_9 : decode cX8_takeBack 9 = .ok (.aload_n 2, 1) := by decide +kernel
theorem dX8_takeBack_10 : decode cX8_takeBack 10 = .ok (.ifnull 8, 3) := by decide +kernel
theorem dX8_takeBack_13 : decode cX8_takeBack 13 = .ok (.aload_n 2, 1) := by decide +kernel
theorem dX8_takeBack_14 : decode cX8_takeBack 14 = .ok (.aload_n 1, 1) := by decide +kernel
theorem dX8_takeBack_15 : decode cX8_takeBack 15 = .ok (.invokevirtual 64, 3) := by decide +kernel
theorem dX8_takeBack_18 : decode cX8_takeBack 18 = .ok (.aload_n 1, 1) := by decide +kernel
theorem dX8_takeBack_19 : decode cX8_takeBack 19 = .ok (.invokevirtual 45, 3) := by decide +kernel
theorem dX8_takeBack_22 : decode cX8_takeBack 22 = .ok (.return_, 1) := by decide +kernel
theorem dX9_init_0 : decode cX9_init 0 = .ok (.aload_n 0, 1) := by decide +kernel
theorem dX9_init_1 : decode cX9_init 1 = .ok (.invokespecial 1, 3) := by decide +kernel
theorem dX9_init_4 : decode cX9_init 4 = .ok (.aload_n 0, 1) := by decide +kernel
theorem dX9_init_5 : decode cX9_init 5 = .ok (.new 7, 3) := by decide +kernel
theorem dX9_init_8 : decode cX9_init 8 = .ok (.dup, 1) := by decide +kernel
theorem dX9_init_9 : decode cX9_init 9 = .ok (.invokespecial 9, 3) := by decide +kernel
theorem dX9_init_12 : decode cX9_init 12 = .ok (.putfield 10, 3) := by decide +kernel
theorem dX9_init_15 : decode cX9_init 15 = .ok (.aload_n 0, 1) := by decide +kernel
theorem dX9_init_16 : decode cX9_init 16 = .ok (.new 16, 3) := by decide +kernel
theorem dX9_init_19 : decode cX9_init 19 = .ok (.dup, 1) := by decide +kernel
theorem dX9_init_20 : decode cX9_init 20 = .ok (.aload_n 0, 1) := by decide +kernel
theorem dX9_init_21 : decode cX9_init 21 = .ok (.getfield 10, 3) := by decide +kernel
theorem dX9_init_24 : decode cX9_init 24 = .ok (.invokespecial 18, 3) := by decide +kernel
theorem dX9_init_27 : decode cX9_init 27 = .ok (.putfield 21, 3) := by decide +kernel
theorem dX9_init_30 : decode cX9_init 30 = .ok (.aload_n 0, 1) := by decide +kernel
theorem dX9_init_31 : decode cX9_init 31 = .ok (.new 25, 3) := by decide +kernel
theorem dX9_init_34 : decode cX9_init 34 = .ok (.dup, 1) := by decide +kernel
theorem dX9_init_35 : decode cX9_init 35 = .ok (.invokespecial 27, 3) := by decide +kernel
theorem dX9_init_38 : decode cX9_init 38 = .ok (.putfield 28, 3) := by decide +kernel
theorem dX9_init_41 : decode cX9_init 41 = .ok (.aload_n 0, 1) := by decide +kernel
theorem dX9_init_42 : decode cX9_init 42 = .ok (.new 32, 3) := by decide +kernel
theorem dX9_init_45 : decode cX9_init 45 = .ok (.dup, 1) := by decide +kernel
theorem dX9_init_46 : decode cX9_init 46 = .ok (.aload_n 0, 1) := by decide +kernel
theorem dX9_init_47 : decode cX9_init 47 = .ok (.getfield 28, 3) := by decide +kernel
theorem dX9_init_50 : decode cX9_init 50 = .ok (.invokespecial 34, 3) := by decide +kernel
theorem dX9_init_53 : decode cX9_init 53 = .ok (.putfield 37, 3) := by decide +kernel
theorem dX9_init_56 : decode cX9_init 56 = .ok (.return_, 1) := by decide +kernel
theorem dX9_feed_0 : decode cX9_feed 0 = .ok (.aload_n 0, 1) := by decide +kernel
theorem dX9_feed_1 : decode cX9_feed 1 = .ok (.getfield 10, 3) := by decide +kernel
theorem dX9_feed_4 : decode cX9_feed 4 = .ok (.invokevirtual 41, 3) := by decide +kernel
theorem dX9_feed_7 : decode cX9_feed 7 = .ok (.ifCond .ne 5, 3) := by decide +kernel
theorem dX9_feed_10 : decode cX9_feed 10 = .ok (.iconst (-1), 1) := by decide +kernel
theorem dX9_feed_11 : decode cX9_feed 11 = .ok (.ireturn, 1) := by decide +kernel
theorem dX9_feed_12 : decode cX9_feed 12 = .ok (.aload_n 0, 1) := by decide +kernel
theorem dX9_feed_13 : decode cX9_feed 13 = .ok (.getfield 10, 3) := by decide +kernel
theorem dX9_feed_16 : decode cX9_feed 16 = .ok (.iload_n 1, 1) := by decide +kernel
theorem dX9_feed_17 : decode cX9_feed 17 = .ok (.invokevirtual 45, 3) := by decide +kernel
theorem dX9_feed_20 : decode cX9_feed 20 = .ok (.aload_n 0, 1) := by decide +kernel
theorem dX9_feed_21 : decode cX9_feed 21 = .ok (.getfield 10, 3) := by decide +kernel
theorem dX9_feed_24 : decode cX9_feed 24 = .ok (.iload_n 2, 1) := by decide +kernel
theorem dX9_feed_25 : decode cX9_feed 25 = .ok (.invokevirtual 45, 3) := by decide +kernel
theorem dX9_feed_28 : decode cX9_feed 28 = .ok (.aload_n 0, 1) := by decide +kernel
theorem dX9_feed_29 : decode cX9_feed 29 = .ok (.getfield 10, 3) := by decide +kernel
theorem dX9_feed_32 : decode cX9_feed 32 = .ok (.iload_n 3, 1) := by decide +kernel
theorem dX9_feed_33 : decode cX9_feed 33 = .ok (.invokevirtual 45, 3) := by decide +kernel
theorem dX9_feed_36 : decode cX9_feed 36 = .ok (.aload_n 0, 1) := by decide +kernel
theorem dX9_feed_37 : decode cX9_feed 37 = .ok (.getfield 10, 3) := by decide +kernel
theorem dX9_feed_40 : decode cX9_feed 40 = .ok (.iload 4, 2) := by decide +kernel
theorem dX9_feed_42 : decode cX9_feed 42 = .ok (.invokevirtual 45, 3) := by decide +kernel
theorem dX9_feed_45 : decode cX9_feed 45 = .ok (.aload_n 0, 1) := by decide +kernel
theorem dX9_feed_46 : decode cX9_feed 46 = .ok (.getfield 10, 3) := by decide +kernel
theorem dX9_feed_49 : decode cX9_feed 49 = .ok (.iload 5, 2) := by decide +kernel
theorem dX9_feed_51 : decode cX9_feed 51 = .ok (.invokevirtual 45, 3) := by decide +kernel
theorem dX9_feed_54 : decode cX9_feed 54 = .ok (.aload_n 0, 1) := by decide +kernel
theorem dX9_feed_55 : decode cX9_feed 55 = .ok (.getfield 10, 3) := by decide +kernel
theorem dX9_feed_58 : decode cX9_feed 58 = .ok (.getfield 49, 3) := by decide +kernel
theorem dX9_feed_61 : decode cX9_feed 61 = .ok (.ireturn, 1) := by decide +kernel
theorem dX9_end_0 : decode cX9_end 0 = .ok (.aload_n 0, 1) := by decide +kernel
theorem dX9_end_1 : decode cX9_end 1 = .ok (.getfield 10, 3) := by decide +kernel
theorem dX9_end_4 : decode cX9_end 4 = .ok (.iload_n 1, 1) := by decide +kernel
theorem dX9_end_5 : decode cX9_end 5 = .ok (.invokevirtual 53, 3) := by decide +kernel
theorem dX9_end_8 : decode cX9_end 8 = .ok (.ireturn, 1) := by decide +kernel
theorem dX9_log_0 : decode cX9_log 0 = .ok (.iload_n 1, 1) := by decide +kernel
theorem dX9_log_1 : decode cX9_log 1 = .ok (.iconst 0, 1) := by decide +kernel
theorem dX9_log_2 : decode cX9_log 2 = .ok (.iconst 2, 1) := by decide +kernel
theorem dX9_log_3 : decode cX9_log 3 = .ok (.invokestatic 57, 3) := by decide +kernel
theorem dX9_log_6 : decode cX9_log 6 = .ok (.ifCond .eq 51, 3) := by decide +kernel
theorem dX9_log_9 : decode cX9_log 9 = .ok (.iload_n 2, 1) := by decide +kernel
theorem dX9_log_10 : decode cX9_log 10 = .ok (.iconst 1, 1) := by decide +kernel
theorem dX9_log_11 : decode cX9_log 11 = .ok (.bipush 12, 2) := by decide +kernel
theorem dX9_log_13 : decode cX9_log 13 = .ok (.invokestatic 57, 3) := by decide +kernel
theorem dX9_log_16 : decode cX9_log 16 = .ok (.ifCond .eq 41, 3) := by decide +kernel
theorem dX9_log_19 : decode cX9_log 19 = .ok (.iload_n 3, 1) := by decide +kernel
theorem dX9_log_20 : decode cX9_log 20 = .ok (.bipush 10, 2) := by decide +kernel
theorem dX9_log_22 : decode cX9_log 22 = .ok (.bipush 60, 2) := by decide +kernel
theorem dX9_log_24 : decode cX9_log 24 = .ok (.invokestatic 57, 3) := by decide +kernel
theorem dX9_log_27 : decode cX9_log 27 = .ok (.ifCond .eq 30, 3) := by decide +kernel
theorem dX9_log_30 : decode cX9_log 30 = .ok (.iload 4, 2) := by decide +kernel
theorem dX9_log_32 : decode cX9_log 32 = .ok (.bipush 10, 2) := by decide +kernel
theorem dX9_log_34 : decode cX9_log 34 = .ok (.bipush 40, 2) := by decide +kernel
theorem dX9_log_36 : decode cX9_log 36 = .ok (.invokestatic 57, 3) := by decide +kernel
theorem dX9_log_39 : decode cX9_log 39 = .ok (.ifCond .eq 18, 3) := by decide +kernel
theorem dX9_log_42 : decode cX9_log 42 = .ok (.iload 5, 2) := by decide +kernel
theorem dX9_log_44 : decode cX9_log 44 = .ok (.bipush (-2), 2) := by decide +kernel
theorem dX9_log_46 : decode cX9_log 46 = .ok (.iconst 2, 1) := by decide +kernel
theorem dX9_log_47 : decode cX9_log 47 = .ok (.invokestatic 57, 3) := by decide +kernel
theorem dX9_log_50 : decode cX9_log 50 = .ok (.ifCond .eq 7, 3) := by decide +kernel
theorem dX9_log_53 : decode cX9_log 53 = .ok (.iconst 1, 1) := by decide +kernel
theorem dX9_log_54 : decode cX9_log 54 = .ok (.goto 4, 3) := by decide +kernel
theorem dX9_log_57 : decode cX9_log 57 = .ok (.iconst 0, 1) := by decide +kernel
theorem dX9_log_58 : decode cX9_log 58 = .ok (.istore 6, 2) := by decide +kernel
theorem dX9_log_60 : decode cX9_log 60 = .ok (.iload 6, 2) := by decide +kernel
theorem dX9_log_62 : decode cX9_log 62 = .ok (.ifCond .ne 5, 3) := by decide +kernel
theorem dX9_log_65 : decode cX9_log 65 = .ok (.iconst 0, 1) := by decide +kernel
theorem dX9_log_66 : decode cX9_log 66 = .ok (.ireturn, 1) := by decide +kernel
theorem dX9_log_67 : decode cX9_log 67 = .ok (.aload_n 0, 1) := by decide +kernel
theorem dX9_log_68 : decode cX9_log 68 = .ok (.getfield 28, 3) := by decide +kernel
theorem dX9_log_71 : decode cX9_log 71 = .ok (.getfield 61, 3) := by decide +kernel
theorem dX9_log_74 : decode cX9_log 74 = .ok (.iload_n 1, 1) := by decide +kernel
theorem dX9_log_75 : decode cX9_log 75 = .ok (.aaload, 1) := by decide +kernel
theorem dX9_log_76 : decode cX9_log 76 = .ok (.iload_n 2, 1) := by decide +kernel
theorem dX9_log_77 : decode cX9_log 77 = .ok (.iload_n 3, 1) := by decide +kernel
theorem dX9_log_78 : decode cX9_log 78 = .ok (.iload 4, 2) := by decide +kernel
theorem dX9_log_80 : decode cX9_log 80 = .ok (.iload 5, 2) := by decide +kernel
theorem dX9_log_82 : decode cX9_log 82 = .ok (.invokevirtual 65, 3) := by decide +kernel
theorem dX9_log_85 : decode cX9_log 85 = .ok (.aload_n 0, 1) := by decide +kernel
theorem dX9_log_86 : decode cX9_log 86 = .ok (.getfield 28, 3) := by decide +kernel
theorem dX9_log_89 : decode cX9_log 89 = .ok (.iload_n 1, 1) := by decide +kernel
theorem dX9_log_90 : decode cX9_log 90 = .ok (.invokevirtual 71, 3) := by decide +kernel
theorem dX9_log_93 : decode cX9_log 93 = .ok (.iconst 1, 1) := by decide +kernel
theorem dX9_log_94 : decode cX9_log 94 = .ok (.ireturn, 1) := by decide +kernel
theorem dX9_tone_0 : decode cX9_tone 0 = .ok (.aload_n 0, 1) := by decide +kernel
theorem dX9_tone_1 : decode cX9_tone 1 = .ok (.getfield 28, 3) := by decide +kernel
theorem dX9_tone_4 : decode cX9_tone 4 = .ok (.iload_n 1, 1) := by decide +kernel
theorem dX9_tone_5 : decode cX9_tone 5 = .ok (.invokevirtual 74, 3) := by decide +kernel
theorem dX9_tone_8 : decode cX9_tone 8 = .ok (.astore 4, 2) := by decide +kernel
theorem dX9_tone_10 : decode cX9_tone 10 = .ok (.aload 4, 2) := by decide +kernel
theorem dX9_tone_12 : decode cX9_tone 12 = .ok (.ifnull 13, 3) := by decide +kernel
theorem dX9_tone_15 : decode cX9_tone 15 = .ok (.iload_n 2, 1) := by decide +kernel
theorem dX9_tone_16 : decode cX9_tone 16 = .ok (.iconst 0, 1) := by decide +kernel
theorem dX9_tone_17 : decode cX9_tone 17 = .ok (.bipush 100, 2) := by decide +kernel
theorem dX9_tone_19 : decode cX9_tone 19 = .ok (.invokestatic 57, 3) := by decide +kernel
theorem dX9_tone_22 : decode cX9_tone 22 = .ok (.ifCond .ne 5, 3) := by decide +kernel
theorem dX9_tone_25 : decode cX9_tone 25 = .ok (.iconst 0, 1) := by decide +kernel
theorem dX9_tone_26 : decode cX9_tone 26 = .ok (.ireturn, 1) := by decide +kernel
theorem dX9_tone_27 : decode cX9_tone 27 = .ok (.iload_n 3, 1) := by decide +kernel
theorem dX9_tone_28 : decode cX9_tone 28 = .ok (.bipush (-5), 2) := by decide +kernel
theorem dX9_tone_30 : decode cX9_tone 30 = .ok (.iconst 5, 1) := by decide +kernel
theorem dX9_tone_31 : decode cX9_tone 31 = .ok (.invokestatic 57, 3) := by decide +kernel
theorem dX9_tone_34 : decode cX9_tone 34 = .ok (.ifCond .ne 5, 3) := by decide +kernel
theorem dX9_tone_37 : decode cX9_tone 37 = .ok (.iconst 0, 1) := by decide +kernel
theorem dX9_tone_38 : decode cX9_tone 38 = .ok (.ireturn, 1) := by decide +kernel
theorem dX9_tone_39 : decode cX9_tone 39 = .ok (.aload 4, 2) := by decide +kernel
theorem dX9_tone_41 : decode cX9_tone 41 = .ok (.iload_n 2, 1) := by decide +kernel
theorem dX9_tone_42 : decode cX9_tone 42 = .ok (.putfield 78, 3) := by decide +kernel
theorem dX9_tone_45 : decode cX9_tone 45 = .ok (.aload 4, 2) := by decide +kernel
theorem dX9_tone_47 : decode cX9_tone 47 = .ok (.iload_n 3, 1) := by decide +kernel
theorem dX9_tone_48 : decode cX9_tone 48 = .ok (.putfield 81, 3) := by decide +kernel
theorem dX9_tone_51 : decode cX9_tone 51 = .ok (.iconst 1, 1) := by decide +kernel
theorem dX9_tone_52 : decode cX9_tone 52 = .ok (.ireturn, 1) := by decide +kernel
theorem dX9_flaw_0 : decode cX9_flaw 0 = .ok (.aload_n 0, 1) := by decide +kernel
theorem dX9_flaw_1 : decode cX9_flaw 1 = .ok (.getfield 28, 3) := by decide +kernel
theorem dX9_flaw_4 : decode cX9_flaw 4 = .ok (.iload_n 1, 1) := by decide +kernel
theorem dX9_flaw_5 : decode cX9_flaw 5 = .ok (.invokevirtual 74, 3) := by decide +kernel
theorem dX9_flaw_8 : decode cX9_flaw 8 = .ok (.astore 7, 2) := by decide +kernel
theorem dX9_flaw_10 : decode cX9_flaw 10 = .ok (.aload 7, 2) := by decide +kernel
theorem dX9_flaw_12 : decode cX9_flaw 12 = .ok (.ifnull 13, 3) := by decide +kernel
theorem dX9_flaw_15 : decode cX9_flaw 15 = .ok (.aload 7, 2) := by decide +kernel
theorem dX9_flaw_17 : decode cX9_flaw 17 = .ok (.iload_n 2, 1) := by decide +kernel
theorem dX9_flaw_18 : decode cX9_flaw 18 = .ok (.i2l, 1) := by decide +kernel
theorem dX9_flaw_19 : decode cX9_flaw 19 = .ok (.invokevirtual 84, 3) := by decide +kernel
theorem dX9_flaw_22 : decode cX9_flaw 22 = .ok (.ifCond .ne 5, 3) := by decide +kernel
theorem dX9_flaw_25 : decode cX9_flaw 25 = .ok (.iconst (-1), 1) := by decide +kernel
theorem dX9_flaw_26 : decode cX9_flaw 26 = .ok (.ireturn, 1) := by decide +kernel
theorem dX9_flaw_27 : decode cX9_flaw 27 = .ok (.iload_n 3, 1) := by decide +kernel
theorem dX9_flaw_28 : decode cX9_flaw 28 = .ok (.iconst 0, 1) := by decide +kernel
theorem dX9_flaw_29 : decode cX9_flaw 29 = .ok (.bipush 100, 2) := by decide +kernel
theorem dX9_flaw_31 : decode cX9_flaw 31 = .ok (.invokestatic 57, 3) := by decide +kernel
theorem dX9_flaw_34 : decode cX9_flaw 34 = .ok (.ifCond .eq 40, 3) := by decide +kernel
theorem dX9_flaw_37 : decode cX9_flaw 37 = .ok (.iload 4, 2) := by decide +kernel
theorem dX9_flaw_39 : decode cX9_flaw 39 = .ok (.iconst 0, 1) := by decide +kernel
theorem dX9_flaw_40 : decode cX9_flaw 40 = .ok (.bipush 100, 2) := by decide +kernel
theorem dX9_flaw_42 : decode cX9_flaw 42 = .ok (.invokestatic 57, 3) := by decide +kernel
theorem dX9_flaw_45 : decode cX9_flaw 45 = .ok (.ifCond .eq 29, 3) := by decide +kernel
theorem dX9_flaw_48 : decode cX9_flaw 48 = .ok (.iload 5, 2) := by decide +kernel
theorem dX9_flaw_50 : decode cX9_flaw 50 = .ok (.iconst 1, 1) := by decide +kernel
theorem dX9_flaw_51 : decode cX9_flaw 51 = .ok (.bipush 100, 2) := by decide +kernel
theorem dX9_flaw_53 : decode cX9_flaw 53 = .ok (.invokestatic 57, 3) := by decide +kernel
theorem dX9_flaw_56 : decode cX9_flaw 56 = .ok (.ifCond .eq 18, 3) := by decide +kernel
theorem dX9_flaw_59 : decode cX9_flaw 59 = .ok (.iload 6, 2) := by decide +kernel
theorem dX9_flaw_61 : decode cX9_flaw 61 = .ok (.iconst 1, 1) := by decide +kernel
theorem dX9_flaw_62 : decode cX9_flaw 62 = .ok (.bipush 100, 2) := by decide +kernel
theorem dX9_flaw_64 : decode cX9_flaw 64 = .ok (.invokestatic 57, 3) := by decide +kernel
theorem dX9_flaw_67 : decode cX9_flaw 67 = .ok (.ifCond .eq 7, 3) := by decide +kernel
theorem dX9_flaw_70 : decode cX9_flaw 70 = .ok (.iconst 1, 1) := by decide +kernel
theorem dX9_flaw_71 : decode cX9_flaw 71 = .ok (.goto 4, 3) := by decide +kernel
theorem dX9_flaw_74 : decode cX9_flaw 74 = .ok (.iconst 0, 1) := by decide +kernel
theorem dX9_flaw_75 : decode cX9_flaw 75 = .ok (.istore 8, 2) := by decide +kernel
theorem dX9_flaw_77 : decode cX9_flaw 77 = .ok (.iload 8, 2) := by decide +kernel
theorem dX9_flaw_79 : decode cX9_flaw 79 = .ok (.ifCond .eq 19, 3) := by decide +kernel
theorem dX9_flaw_82 : decode cX9_flaw 82 = .ok (.aload 7, 2) := by decide +kernel
theorem dX9_flaw_84 : decode cX9_flaw 84 = .ok (.iload_n 2, 1) := by decide +kernel
theorem dX9_flaw_85 : decode cX9_flaw 85 = .ok (.iload_n 3, 1) := by decide +kernel
theorem dX9_flaw_86 : decode cX9_flaw 86 = .ok (.iload 4, 2) := by decide +kernel
theorem dX9_flaw_88 : decode cX9_flaw 88 = .ok (.iload 5, 2) := by decide +kernel
theorem dX9_flaw_90 : decode cX9_flaw 90 = .ok (.iload 6, 2) := by decide +kernel
theorem dX9_flaw_92 : decode cX9_flaw 92 = .ok (.invokevirtual 88, 3) := by decide +kernel
theorem dX9_flaw_95 : decode cX9_flaw 95 = .ok (.goto 4, 3) := by decide +kernel
theorem dX9_flaw_98 : decode cX9_flaw 98 = .ok (.iconst (-1), 1) := by decide +kernel
theorem dX9_flaw_99 : decode cX9_flaw 99 = .ok (.ireturn, 1) := by decide +kernel
theorem dX9_drift_0 : decode cX9_drift 0 = .ok (.aload_n 0, 1) := by decide +kernel
theorem dX9_drift_1 : decode cX9_drift 1 = .ok (.getfield 28, 3) := by decide +kernel
theorem dX9_drift_4 : decode cX9_drift 4 = .ok (.iload_n 1, 1) := by decide +kernel
theorem dX9_drift_5 : decode cX9_drift 5 = .ok (.invokevirtual 74, 3) := by decide +kernel
theorem dX9_drift_8 : decode cX9_drift 8 = .ok (.astore 5, 2) := by decide +kernel
theorem dX9_drift_10 : decode cX9_drift 10 = .ok (.aload 5, 2) := by decide +kernel
theorem dX9_drift_12 : decode cX9_drift 12 = .ok (.ifnull 13, 3) := by decide +kernel
theorem dX9_drift_15 : decode cX9_drift 15 = .ok (.aload 5, 2) := by decide +kernel
theorem dX9_drift_17 : decode cX9_drift 17 = .ok (.iload_n 2, 1) := by decide +kernel
theorem dX9_drift_18 : decode cX9_drift 18 = .ok (.i2l, 1) := by decide +kernel
theorem dX9_drift_19 : decode cX9_drift 19 = .ok (.invokevirtual 84, 3) := by decide +kernel
theorem dX9_drift_22 : decode cX9_drift 22 = .ok (.ifCond .ne 5, 3) := by decide +kernel
theorem dX9_drift_25 : decode cX9_drift 25 = .ok (.iconst 0, 1) := by decide +kernel
theorem dX9_drift_26 : decode cX9_drift 26 = .ok (.ireturn, 1) := by decide +kernel
theorem dX9_drift_27 : decode cX9_drift 27 = .ok (.iload_n 3, 1) := by decide +kernel
theorem dX9_drift_28 : decode cX9_drift 28 = .ok (.bipush (-20), 2) := by decide +kernel
theorem dX9_drift_30 : decode cX9_drift 30 = .ok (.bipush 20, 2) := by decide +kernel
theorem dX9_drift_32 : decode cX9_drift 32 = .ok (.invokestatic 57, 3) := by decide +kernel
theorem dX9_drift_35 : decode cX9_drift 35 = .ok (.ifCond .eq 31, 3) := by decide +kernel
theorem dX9_drift_38 : decode cX9_drift 38 = .ok (.iload 4, 2) := by decide +kernel
theorem dX9_drift_40 : decode cX9_drift 40 = .ok (.bipush (-20), 2) := by decide +kernel
theorem dX9_drift_42 : decode cX9_drift 42 = .ok (.bipush 20, 2) := by decide +kernel
theorem dX9_drift_44 : decode cX9_drift 44 = .ok (.invokestatic 57, 3) := by decide +kernel
theorem dX9_drift_47 : decode cX9_drift 47 = .ok (.ifCond .eq 19, 3) := by decide +kernel
theorem dX9_drift_50 : decode cX9_drift 50 = .ok (.aload 5, 2) := by decide +kernel
theorem dX9_drift_52 : decode cX9_drift 52 = .ok (.iload_n 2, 1) := by decide +kernel
theorem dX9_drift_53 : decode cX9_drift 53 = .ok (.iload_n 3, 1) := by decide +kernel
theorem dX9_drift_54 : decode cX9_drift 54 = .ok (.iload 4, 2) := by decide +kernel
theorem dX9_drift_56 : decode cX9_drift 56 = .ok (.invokevirtual 92, 3) := by decide +kernel
theorem dX9_drift_59 : decode cX9_drift 59 = .ok (.ifCond .eq 7, 3) := by decide +kernel
theorem dX9_drift_62 : decode cX9_drift 62 = .ok (.iconst 1, 1) := by decide +kernel
theorem dX9_drift_63 : decode cX9_drift 63 = .ok (.goto 4, 3) := by decide +kernel
theorem dX9_drift_66 : decode cX9_drift 66 = .ok (.iconst 0, 1) := by decide +kernel
theorem dX9_drift_67 : decode cX9_drift 67 = .ok (.ireturn, 1) := by decide +kernel
theorem dX9_leaf_0 : decode cX9_leaf 0 = .ok (.aload_n 0, 1) := by decide +kernel
theorem dX9_leaf_1 : decode cX9_leaf 1 = .ok (.getfield 28, 3) := by decide +kernel
theorem dX9_leaf_4 : decode cX9_leaf 4 = .ok (.iload_n 1, 1) := by decide +kernel
theorem dX9_leaf_5 : decode cX9_leaf 5 = .ok (.invokevirtual 74, 3) := by decide +kernel
theorem dX9_leaf_8 : decode cX9_leaf 8 = .ok (.astore 4, 2) := by decide +kernel
theorem dX9_leaf_10 : decode cX9_leaf 10 = .ok (.aload 4, 2) := by decide +kernel
theorem dX9_leaf_12 : decode cX9_leaf 12 = .ok (.ifnull 13, 3) := by decide +kernel
theorem dX9_leaf_15 : decode cX9_leaf 15 = .ok (.aload 4, 2) := by decide +kernel
theorem dX9_leaf_17 : decode cX9_leaf 17 = .ok (.iload_n 2, 1) := by decide +kernel
theorem dX9_leaf_18 : decode cX9_leaf 18 = .ok (.i2l, 1) := by decide +kernel
theorem dX9_leaf_19 : decode cX9_leaf 19 = .ok (.invokevirtual 84, 3) := by decide +kernel
theorem dX9_leaf_22 : decode cX9_leaf 22 = .ok (.ifCond .ne 7, 3) := by decide +kernel
theorem dX9_leaf_25 : decode cX9_leaf 25 = .ok (.sipush (-1000), 3) := by decide +kernel
theorem dX9_leaf_28 : decode cX9_leaf 28 = .ok (.ireturn, 1) := by decide +kernel
theorem dX9_leaf_29 : decode cX9_leaf 29 = .ok (.iload_n 3, 1) := by decide +kernel
theorem dX9_leaf_30 : decode cX9_leaf 30 = .ok (.tableswitch 99 0 5 #[38, 45, 52, 59, 67, 83], 38) := by decide +kernel
theorem dX9_leaf_68 : decode cX9_leaf 68 = .ok (.aload 4, 2) := by decide +kernel
theorem dX9_leaf_70 : decode cX9_leaf 70 = .ok (.iload_n 2, 1) := by decide +kernel
theorem dX9_leaf_71 : decode cX9_leaf 71 = .ok (.invokevirtual 95, 3) := by decide +kernel
theorem dX9_leaf_74 : decode cX9_leaf 74 = .ok (.ireturn, 1) := by decide +kernel
theorem dX9_leaf_75 : decode cX9_leaf 75 = .ok (.aload 4, 2) := by decide +kernel
theorem dX9_leaf_77 : decode cX9_leaf 77 = .ok (.iload_n 2, 1) := by decide +kernel
theorem dX9_leaf_78 : decode cX9_leaf 78 = .ok (.invokevirtual 99, 3) := by decide +kernel
theorem dX9_leaf_81 : decode cX9_leaf 81 = .ok (.ireturn, 1) := by decide +kernel
theorem dX9_leaf_82 : decode cX9_leaf 82 = .ok (.aload 4, 2) := by decide +kernel
theorem dX9_leaf_84 : decode cX9_leaf 84 = .ok (.iload_n 2, 1) := by decide +kernel
theorem dX9_leaf_85 : decode cX9_leaf 85 = .ok (.invokevirtual 102, 3) := by decide +kernel
theorem dX9_leaf_88 : decode cX9_leaf 88 = .ok (.ireturn, 1) := by decide +kernel
theorem dX9_leaf_89 : decode cX9_leaf 89 = .ok (.aload 4, 2) := by decide +kernel
theorem dX9_leaf_91 : decode cX9_leaf 91 = .ok (.getfield 105, 3) := by decide +kernel
theorem dX9_leaf_94 : decode cX9_leaf 94 = .ok (.iload_n 2, 1) := by decide +kernel
theorem dX9_leaf_95 : decode cX9_leaf 95 = .ok (.iaload, 1) := by decide +kernel
theorem dX9_leaf_96 : decode cX9_leaf 96 = .ok (.ireturn, 1) := by decide +kernel
theorem dX9_leaf_97 : decode cX9_leaf 97 = .ok (.iload_n 2, 1) := by decide +kernel
theorem dX9_leaf_98 : decode cX9_leaf 98 = .ok (.ifCond .ne 11, 3) := by decide +kernel
theorem dX9_leaf_101 : decode cX9_leaf 101 = .ok (.aload 4, 2) := by decide +kernel
theorem dX9_leaf_103 : decode cX9_leaf 103 = .ok (.getfield 109, 3) := by decide +kernel
theorem dX9_leaf_106 : decode cX9_leaf 106 = .ok (.goto 6, 3) := by decide +kernel
theorem dX9_leaf_109 : decode cX9_leaf 109 = .ok (.sipush (-1000), 3) := by decide +kernel
theorem dX9_leaf_112 : decode cX9_leaf 112 = .ok (.ireturn, 1) := by decide +kernel
theorem dX9_leaf_113 : decode cX9_leaf 113 = .ok (.iload_n 2, 1) := by decide +kernel
theorem dX9_leaf_114 : decode cX9_leaf 114 = .ok (.ifCond .ne 11, 3) := by decide +kernel
theorem dX9_leaf_117 : decode cX9_leaf 117 = .ok (.aload 4, 2) := by decide +kernel
theorem dX9_leaf_119 : decode cX9_leaf 119 = .ok (.getfield 112, 3) := by decide +kernel
theorem dX9_leaf_122 : decode cX9_leaf 122 = .ok (.goto 6, 3) := by decide +kernel
theorem dX9_leaf_125 : decode cX9_leaf 125 = .ok (.sipush (-1000), 3) := by decide +kernel
theorem dX9_leaf_128 : decode cX9_leaf 128 = .ok (.ireturn, 1) := by decide +kernel
theorem dX9_leaf_129 : decode cX9_leaf 129 = .ok (.sipush (-1000), 3) := by decide +kernel
theorem dX9_leaf_132 : decode cX9_leaf 132 = .ok (.ireturn, 1) := by decide +kernel
theorem dX9_hit_0 : decode cX9_hit 0 = .ok (.aload_n 0, 1) := by decide +kernel
theorem dX9_hit_1 : decode cX9_hit 1 = .ok (.getfield 28, 3) := by decide +kernel
theorem dX9_hit_4 : decode cX9_hit 4 = .ok (.iload_n 1, 1) := by decide +kernel
theorem dX9_hit_5 : decode cX9_hit 5 = .ok (.invokevirtual 74, 3) := by decide +kernel
theorem dX9_hit_8 : decode cX9_hit 8 = .ok (.astore 7, 2) := by decide +kernel
theorem dX9_hit_10 : decode cX9_hit 10 = .ok (.aload 7, 2) := by decide +kernel
theorem dX9_hit_12 : decode cX9_hit 12 = .ok (.ifnull 13, 3) := by decide +kernel
theorem dX9_hit_15 : decode cX9_hit 15 = .ok (.aload 7, 2) := by decide +kernel
theorem dX9_hit_17 : decode cX9_hit 17 = .ok (.iload_n 2, 1) := by decide +kernel
theorem dX9_hit_18 : decode cX9_hit 18 = .ok (.i2l, 1) := by decide +kernel
theorem dX9_hit_19 : decode cX9_hit 19 = .ok (.invokevirtual 84, 3) := by decide +kernel
theorem dX9_hit_22 : decode cX9_hit 22 = .ok (.ifCond .ne 6, 3) := by decide +kernel
theorem dX9_hit_25 : decode cX9_hit 25 = .ok (.bipush (-2), 2) := by decide +kernel
theorem dX9_hit_27 : decode cX9_hit 27 = .ok (.ireturn, 1) := by decide +kernel
theorem dX9_hit_28 : decode cX9_hit 28 = .ok (.iload 5, 2) := by decide +kernel
theorem dX9_hit_30 : decode cX9_hit 30 = .ok (.iconst 1, 1) := by decide +kernel
theorem dX9_hit_31 : decode cX9_hit 31 = .ok (.bipush 100, 2) := by decide +kernel
theorem dX9_hit_33 : decode cX9_hit 33 = .ok (.invokestatic 57, 3) := by decide +kernel
theorem dX9_hit_36 : decode cX9_hit 36 = .ok (.ifCond .eq 14, 3) := by decide +kernel
theorem dX9_hit_39 : decode cX9_hit 39 = .ok (.iload 6, 2) := by decide +kernel
theorem dX9_hit_41 : decode cX9_hit 41 = .ok (.iconst 1, 1) := by decide +kernel
theorem dX9_hit_42 : decode cX9_hit 42 = .ok (.bipush 100, 2) := by decide +kernel
theorem dX9_hit_44 : decode cX9_hit 44 = .ok (.invokestatic 57, 3) := by decide +kernel
theorem dX9_hit_47 : decode cX9_hit 47 = .ok (.ifCond .ne 6, 3) := by decide +kernel
theorem dX9_hit_50 : decode cX9_hit 50 = .ok (.bipush (-2), 2) := by decide +kernel
theorem dX9_hit_52 : decode cX9_hit 52 = .ok (.ireturn, 1) := by decide +kernel
theorem dX9_hit_53 : decode cX9_hit 53 = .ok (.aload 7, 2) := by decide +kernel
theorem dX9_hit_55 : decode cX9_hit 55 = .ok (.iload_n 2, 1) := by decide +kernel
theorem dX9_hit_56 : decode cX9_hit 56 = .ok (.iload_n 3, 1) := by decide +kernel
theorem dX9_hit_57 : decode cX9_hit 57 = .ok (.iload 4, 2) := by decide +kernel
theorem dX9_hit_59 : decode cX9_hit 59 = .ok (.i2l, 1) := by decide +kernel
theorem dX9_hit_60 : decode cX9_hit 60 = .ok (.iload 5, 2) := by decide +kernel
theorem dX9_hit_62 : decode cX9_hit 62 = .ok (.iload 6, 2) := by decide +kernel
theorem dX9_hit_64 : decode cX9_hit 64 = .ok (.invokevirtual 113, 3) := by decide +kernel
theorem dX9_hit_67 : decode cX9_hit 67 = .ok (.ifCond .eq 19, 3) := by decide +kernel
theorem dX9_hit_70 : decode cX9_hit 70 = .ok (.aload 7, 2) := by decide +kernel
theorem dX9_hit_72 : decode cX9_hit 72 = .ok (.iload_n 2, 1) := by decide +kernel
theorem dX9_hit_73 : decode cX9_hit 73 = .ok (.iload_n 3, 1) := by decide +kernel
theorem dX9_hit_74 : decode cX9_hit 74 = .ok (.iload 4, 2) := by decide +kernel
theorem dX9_hit_76 : decode cX9_hit 76 = .ok (.iload 5, 2) := by decide +kernel
theorem dX9_hit_78 : decode cX9_hit 78 = .ok (.iload 6, 2) := by decide +kernel
theorem dX9_hit_80 : decode cX9_hit 80 = .ok (.invokevirtual 117, 3) := by decide +kernel
theorem dX9_hit_83 : decode cX9_hit 83 = .ok (.goto 5, 3) := by decide +kernel
theorem dX9_hit_86 : decode cX9_hit 86 = .ok (.bipush (-3), 2) := by decide +kernel
theorem dX9_hit_88 : decode cX9_hit 88 = .ok (.ireturn, 1) := by decide +kernel
theorem dX9_door_0 : decode cX9_door 0 = .ok (.iload_n 1, 1) := by decide +kernel
theorem dX9_door_1 : decode cX9_door 1 = .ok (.iconst 0, 1) := by decide +kernel
theorem dX9_door_2 : decode cX9_door 2 = .ok (.bipush 7, 2) := by decide +kernel
theorem dX9_door_4 : decode cX9_door 4 = .ok (.invokestatic 57, 3) := by decide +kernel
theorem dX9_door_7 : decode cX9_door 7 = .ok (.ifCond .eq 39, 3) := by decide +kernel
theorem dX9_door_10 : decode cX9_door 10 = .ok (.iload_n 2, 1) := by decide +kernel
theorem dX9_door_11 : decode cX9_door 11 = .ok (.iconst 1, 1) := by decide +kernel
theorem dX9_door_12 : decode cX9_door 12 = .ok (.bipush 60, 2) := by decide +kernel
theorem dX9_door_14 : decode cX9_door 14 = .ok (.invokestatic 57, 3) := by decide +kernel
theorem dX9_door_17 : decode cX9_door 17 = .ok (.ifCond .eq 29, 3) := by decide +kernel
theorem dX9_door_20 : decode cX9_door 20 = .ok (.iload_n 3, 1) := by decide +kernel
theorem dX9_door_21 : decode cX9_door 21 = .ok (.iconst 1, 1) := by decide +kernel
theorem dX9_door_22 : decode cX9_door 22 = .ok (.bipush 60, 2) := by decide +kernel
theorem dX9_door_24 : decode cX9_door 24 = .ok (.invokestatic 57, 3) := by decide +kernel
theorem dX9_door_27 : decode cX9_door 27 = .ok (.ifCond .eq 19, 3) := by decide +kernel
theorem dX9_door_30 : decode cX9_door 30 = .ok (.iload 4, 2) := by decide +kernel
theorem dX9_door_32 : decode cX9_door 32 = .ok (.iconst 0, 1) := by decide +kernel
theorem dX9_door_33 : decode cX9_door 33 = .ok (.sipush 200, 3) := by decide +kernel
theorem dX9_door_36 : decode cX9_door 36 = .ok (.invokestatic 57, 3) := by decide +kernel
theorem dX9_door_39 : decode cX9_door 39 = .ok (.ifCond .eq 7, 3) := by decide +kernel
theorem dX9_door_42 : decode cX9_door 42 = .ok (.iconst 1, 1) := by decide +kernel
theorem dX9_door_43 : decode cX9_door 43 = .ok (.goto 4, 3) := by decide +kernel
theorem dX9_door_46 : decode cX9_door 46 = .ok (.iconst 0, 1) := by decide +kernel
theorem dX9_door_47 : decode cX9_door 47 = .ok (.istore 5, 2) := by decide +kernel
theorem dX9_door_49 : decode cX9_door 49 = .ok (.iload 5, 2) := by decide +kernel
theorem dX9_door_51 : decode cX9_door 51 = .ok (.ifCond .ne 6, 3) := by decide +kernel
theorem dX9_door_54 : decode cX9_door 54 = .ok (.bipush (-2), 2) := by decide +kernel
theorem dX9_door_56 : decode cX9_door 56 = .ok (.ireturn, 1) := by decide +kernel
theorem dX9_door_57 : decode cX9_door 57 = .ok (.aload_n 0, 1) := by decide +kernel
theorem dX9_door_58 : decode cX9_door 58 = .ok (.getfield 21, 3) := by decide +kernel
theorem dX9_door_61 : decode cX9_door 61 = .ok (.invokevirtual 120, 3) := by decide +kernel
theorem dX9_door_64 : decode cX9_door 64 = .ok (.istore 6, 2) := by decide +kernel
theorem dX9_door_66 : decode cX9_door 66 = .ok (.aload_n 0, 1) := by decide +kernel
theorem dX9_door_67 : decode cX9_door 67 = .ok (.getfield 10, 3) := by decide +kernel
theorem dX9_door_70 : decode cX9_door 70 = .ok (.iconst 0, 1) := by decide +kernel
theorem dX9_door_71 : decode cX9_door 71 = .ok (.invokevirtual 53, 3) := by decide +kernel
theorem dX9_door_74 : decode cX9_door 74 = .ok (.pop, 1) := by decide +kernel
theorem dX9_door_75 : decode cX9_door 75 = .ok (.iload 6, 2) := by decide +kernel
theorem dX9_door_77 : decode cX9_door 77 = .ok (.ifCond .ne 5, 3) := by decide +kernel
theorem dX9_door_80 : decode cX9_door 80 = .ok (.iconst (-1), 1) := by decide +kernel
theorem dX9_door_81 : decode cX9_door 81 = .ok (.ireturn, 1) := by decide +kernel
theorem dX9_door_82 : decode cX9_door 82 = .ok (.aload_n 0, 1) := by decide +kernel
theorem dX9_door_83 : decode cX9_door 83 = .ok (.getfield 28, 3) := by decide +kernel
theorem dX9_door_86 : decode cX9_door 86 = .ok (.getfield 123, 3) := by decide +kernel
theorem dX9_door_89 : decode cX9_door 89 = .ok (.iload_n 1, 1) := by decide +kernel
theorem dX9_door_90 : decode cX9_door 90 = .ok (.aaload, 1) := by decide +kernel
theorem dX9_door_91 : decode cX9_door 91 = .ok (.astore 7, 2) := by decide +kernel
theorem dX9_door_93 : decode cX9_door 93 = .ok (.aload 7, 2) := by decide +kernel
theorem dX9_door_95 : decode cX9_door 95 = .ok (.aload_n 0, 1) := by decide +kernel
theorem dX9_door_96 : decode cX9_door 96 = .ok (.getfield 21, 3) := by decide +kernel
theorem dX9_door_99 : decode cX9_door 99 = .ok (.getfield 127, 3) := by decide +kernel
theorem dX9_door_102 : decode cX9_door 102 = .ok (.iload_n 2, 1) := by decide +kernel
theorem dX9_door_103 : decode cX9_door 103 = .ok (.iload_n 3, 1) := by decide +kernel
theorem dX9_door_104 : decode cX9_door 104 = .ok (.iload 4, 2) := by decide +kernel
theorem dX9_door_106 : decode cX9_door 106 = .ok (.invokevirtual 131, 3) := by decide +kernel
theorem dX9_door_109 : decode cX9_door 109 = .ok (.aload 7, 2) := by decide +kernel
theorem dX9_door_111 : decode cX9_door 111 = .ok (.getfield 136, 3) := by decide +kernel
theorem dX9_door_114 : decode cX9_door 114 = .ok (.invokevirtual 137, 3) := by decide +kernel
theorem dX9_door_117 : decode cX9_door 117 = .ok (.ireturn, 1) := by decide +kernel
theorem dX9_fault_0 : decode cX9_fault 0 = .ok (.iload_n 1, 1) := by decide +kernel
theorem dX9_fault_1 : decode cX9_fault 1 = .ok (.ifCond .ne 11, 3) := by decide +kernel
theorem dX9_fault_4 : decode cX9_fault 4 = .ok (.aload_n 0, 1) := by decide +kernel
theorem dX9_fault_5 : decode cX9_fault 5 = .ok (.getfield 21, 3) := by decide +kernel
theorem dX9_fault_8 : decode cX9_fault 8 = .ok (.getfield 143, 3) := by decide +kernel
theorem dX9_fault_11 : decode cX9_fault 11 = .ok (.ireturn, 1) := by decide +kernel
theorem dX9_fault_12 : decode cX9_fault 12 = .ok (.iload_n 1, 1) := by decide +kernel
theorem dX9_fault_13 : decode cX9_fault 13 = .ok (.iconst 1, 1) := by decide +kernel
theorem dX9_fault_14 : decode cX9_fault 14 = .ok (.if_icmp .ne 13, 3) := by decide +kernel
theorem dX9_fault_17 : decode cX9_fault 17 = .ok (.aload_n 0, 1) := by decide +kernel
theorem dX9_fault_18 : decode cX9_fault 18 = .ok (.getfield 21, 3) := by decide +kernel
theorem dX9_fault_21 : decode cX9_fault 21 = .ok (.getfield 146, 3) := by decide +kernel
theorem dX9_fault_24 : decode cX9_fault 24 = .ok (.goto 4, 3) := by decide +kernel
theorem dX9_fault_27 : decode cX9_fault 27 = .ok (.iconst (-1), 1) := by decide +kernel
theorem dX9_fault_28 : decode cX9_fault 28 = .ok (.ireturn, 1) := by decide +kernel
theorem dX9_of_0 : decode cX9_of 0 = .ok (.aload_n 0, 1) := by decide +kernel
theorem dX9_of_1 : decode cX9_of 1 = .ok (.getfield 28, 3) := by decide +kernel
theorem dX9_of_4 : decode cX9_of 4 = .ok (.iload_n 1, 1) := by decide +kernel
theorem dX9_of_5 : decode cX9_of 5 = .ok (.invokevirtual 149, 3) := by decide +kernel
theorem dX9_of_8 : decode cX9_of 8 = .ok (.astore_n 3, 1) := by decide +kernel
theorem dX9_of_9 : decode cX9_of 9 = .ok (.aload_n 3, 1) := by decide +kernel
theorem dX9_of_10 : decode cX9_of 10 = .ok (.ifnonnull 5, 3) := by decide +kernel
theorem dX9_of_13 : decode cX9_of 13 = .ok (.iconst (-1), 1) := by decide +kernel
theorem dX9_of_14 : decode cX9_of 14 = .ok (.ireturn, 1) := by decide +kernel
theorem dX9_of_15 : decode cX9_of 15 = .ok (.iload_n 2, 1) := by decide +kernel
theorem dX9_of_16 : decode cX9_of 16 = .ok (.tableswitch 124 0 9 #[56, 64, 72, 77, 86, 95, 104, 109, 114, 119], 56) := by decide +kernel
theorem dX9_of_72 : decode cX9_of 72 = .ok (.aload_n 3, 1) := by decide +kernel
theorem dX9_of_73 : decode cX9_of 73 = .ok (.getfield 136, 3) := by decide +kernel
theorem dX9_of_76 : decode cX9_of 76 = .ok (.getfield 153, 3) := by decide +kernel
theorem dX9_of_79 : decode cX9_of 79 = .ok (.ireturn, 1) := by decide +kernel
theorem dX9_of_80 : decode cX9_of 80 = .ok (.aload_n 3, 1) := by decide +kernel
theorem dX9_of_81 : decode cX9_of 81 = .ok (.getfield 136, 3) := by decide +kernel
theorem dX9_of_84 : decode cX9_of 84 = .ok (.getfield 156, 3) := by decide +kernel
theorem dX9_of_87 : decode cX9_of 87 = .ok (.ireturn, 1) := by decide +kernel
theorem dX9_of_88 : decode cX9_of 88 = .ok (.aload_n 3, 1) := by decide +kernel
theorem dX9_of_89 : decode cX9_of 89 = .ok (.getfield 159, 3) := by decide +kernel
theorem dX9_of_92 : decode cX9_of 92 = .ok (.ireturn, 1) := by decide +kernel
theorem dX9_of_93 : decode cX9_of 93 = .ok (.aload_n 3, 1) := by decide +kernel
theorem dX9_of_94 : decode cX9_of 94 = .ok (.getfield 136, 3) := by decide +kernel
theorem dX9_of_97 : decode cX9_of 97 = .ok (.iconst 2, 1) := by decide +kernel
theorem dX9_of_98 : decode cX9_of 98 = .ok (.invokevirtual 162, 3) := by decide +kernel
theorem dX9_of_101 : decode cX9_of 101 = .ok (.ireturn, 1) := by decide +kernel
theorem dX9_of_102 : decode cX9_of 102 = .ok (.aload_n 3, 1) := by decide +kernel
theorem dX9_of_103 : decode cX9_of 103 = .ok (.getfield 136, 3) := by decide +kernel
theorem dX9_of_106 : decode cX9_of 106 = .ok (.iconst 1, 1) := by decide +kernel
theorem dX9_of_107 : decode cX9_of 107 = .ok (.invokevirtual 162, 3) := by decide +kernel
theorem dX9_of_110 : decode cX9_of 110 = .ok (.ireturn, 1) := by decide +kernel
theorem dX9_of_111 : decode cX9_of 111 = .ok (.aload_n 3, 1) := by decide +kernel
theorem dX9_of_112 : decode cX9_of 112 = .ok (.getfield 136, 3) := by decide +kernel
theorem dX9_of_115 : decode cX9_of 115 = .ok (.iconst 0, 1) := by decide +kernel
theorem dX9_of_116 : decode cX9_of 116 = .ok (.invokevirtual 162, 3) := by decide +kernel
theorem dX9_of_119 : decode cX9_of 119 = .ok (.ireturn, 1) := by decide +kernel
theorem dX9_of_120 : decode cX9_of 120 = .ok (.aload_n 3, 1) := by decide +kernel
theorem dX9_of_121 : decode cX9_of 121 = .ok (.getfield 165, 3) := by decide +kernel
theorem dX9_of_124 : decode cX9_of 124 = .ok (.ireturn, 1) := by decide +kernel
theorem dX9_of_125 : decode cX9_of 125 = .ok (.aload_n 3, 1) := by decide +kernel
theorem dX9_of_126 : decode cX9_of 126 = .ok (.getfield 168, 3) := by decide +kernel
theorem dX9_of_129 : decode cX9_of 129 = .ok (.ireturn, 1) := by decide +kernel
theorem dX9_of_130 : decode cX9_of 130 = .ok (.aload_n 3, 1) := by decide +kernel
theorem dX9_of_131 : decode cX9_of 131 = .ok (.getfield 171, 3) := by decide +kernel
theorem dX9_of_134 : decode cX9_of 134 = .ok (.ireturn, 1) := by decide +kernel
theorem dX9_of_135 : decode cX9_of 135 = .ok (.aload_n 3, 1) := by decide +kernel
theorem dX9_of_136 : decode cX9_of 136 = .ok (.getfield 174, 3) := by decide +kernel
theorem dX9_of_139 : decode cX9_of 139 = .ok (.ireturn, 1) := by decide +kernel
theorem dX9_of_140 : decode cX9_of 140 = .ok (.iconst (-1), 1) := by decide +kernel
theorem dX9_of_141 : decode cX9_of 141 = .ok (.ireturn, 1) := by decide +kernel
theorem dX9_piece_0 : decode cX9_piece 0 = .ok (.aload_n 0, 1) := by decide +kernel
theorem dX9_piece_1 : decode cX9_piece 1 = .ok (.getfield 28, 3) := by decide +kernel
theorem dX9_piece_4 : decode cX9_piece 4 = .ok (.iload_n 1, 1) := by decide +kernel
theorem dX9_piece_5 : decode cX9_piece 5 = .ok (.invokevirtual 149, 3) := by decide +kernel
theorem dX9_piece_8 : decode cX9_piece 8 = .ok (.astore 4, 2) := by decide +kernel
theorem dX9_piece_10 : decode cX9_piece 10 = .ok (.aload 4, 2) := by decide +kernel
theorem dX9_piece_12 : decode cX9_piece 12 = .ok (.ifnull 16, 3) := by decide +kernel
theorem dX9_piece_15 : decode cX9_piece 15 = .ok (.aload 4, 2) := by decide +kernel
theorem dX9_piece_17 : decode cX9_piece 17 = .ok (.getfield 136, 3) := by decide +kernel
theorem dX9_piece_20 : decode cX9_piece 20 = .ok (.iload_n 2, 1) := by decide +kernel
theorem dX9_piece_21 : decode cX9_piece 21 = .ok (.iload_n 3, 1) := by decide +kernel
theorem dX9_piece_22 : decode cX9_piece 22 = .ok (.invokevirtual 177, 3) := by decide +kernel
theorem dX9_piece_25 : decode cX9_piece 25 = .ok (.ifCond .ne 5, 3) := by decide +kernel
theorem dX9_piece_28 : decode cX9_piece 28 = .ok (.iconst (-1), 1) := by decide +kernel
theorem dX9_piece_29 : decode cX9_piece 29 = .ok (.ireturn, 1) := by decide +kernel
theorem dX9_piece_30 : decode cX9_piece 30 = .ok (.aload 4, 2) := by decide +kernel
theorem dX9_piece_32 : decode cX9_piece 32 = .ok (.getfield 136, 3) := by decide +kernel
theorem dX9_piece_35 : decode cX9_piece 35 = .ok (.iload_n 2, 1) := by decide +kernel
theorem dX9_piece_36 : decode cX9_piece 36 = .ok (.iload_n 3, 1) := by decide +kernel
theorem dX9_piece_37 : decode cX9_piece 37 = .ok (.invokevirtual 181, 3) := by decide +kernel
theorem dX9_piece_40 : decode cX9_piece 40 = .ok (.ireturn, 1) := by decide +kernel
theorem dX9_joint_0 : decode cX9_joint 0 = .ok (.aload_n 0, 1) := by decide +kernel
theorem dX9_joint_1 : decode cX9_joint 1 = .ok (.getfield 28, 3) := by decide +kernel
theorem dX9_joint_4 : decode cX9_joint 4 = .ok (.iload_n 1, 1) := by decide +kernel
theorem dX9_joint_5 : decode cX9_joint 5 = .ok (.invokevirtual 149, 3) := by decide +kernel
theorem dX9_joint_8 : decode cX9_joint 8 = .ok (.astore 5, 2) := by decide +kernel
theorem dX9_joint_10 : decode cX9_joint 10 = .ok (.aload 5, 2) := by decide +kernel
theorem dX9_joint_12 : decode cX9_joint 12 = .ok (.ifnonnull 7, 3) := by decide +kernel
theorem dX9_joint_15 : decode cX9_joint 15 = .ok (.iconst (-1), 1) := by decide +kernel
theorem dX9_joint_16 : decode cX9_joint 16 = .ok (.goto 15, 3) := by decide +kernel
theorem dX9_joint_19 : decode cX9_joint 19 = .ok (.aload 5, 2) := by decide +kernel
theorem dX9_joint_21 : decode cX9_joint 21 = .ok (.getfield 136, 3) := by decide +kernel
theorem dX9_joint_24 : decode cX9_joint 24 = .ok (.iload_n 2, 1) := by decide +kernel
theorem dX9_joint_25 : decode cX9_joint 25 = .ok (.iload_n 3, 1) := by decide +kernel
theorem dX9_joint_26 : decode cX9_joint 26 = .ok (.iload 4, 2) := by decide +kernel
theorem dX9_joint_28 : decode cX9_joint 28 = .ok (.invokevirtual 185, 3) := by decide +kernel
theorem dX9_joint_31 : decode cX9_joint 31 = .ok (.ireturn, 1) := by decide +kernel
theorem dX9_same_0 : decode cX9_same 0 = .ok (.aload_n 0, 1) := by decide +kernel
theorem dX9_same_1 : decode cX9_same 1 = .ok (.getfield 28, 3) := by decide +kernel
theorem dX9_same_4 : decode cX9_same 4 = .ok (.iload_n 1, 1) := by decide +kernel
theorem dX9_same_5 : decode cX9_same 5 = .ok (.invokevirtual 149, 3) := by decide +kernel
theorem dX9_same_8 : decode cX9_same 8 = .ok (.astore 4, 2) := by decide +kernel
theorem dX9_same_10 : decode cX9_same 10 = .ok (.aload_n 0, 1) := by decide +kernel
theorem dX9_same_11 : decode cX9_same 11 = .ok (.getfield 28, 3) := by decide +kernel
theorem dX9_same_14 : decode cX9_same 14 = .ok (.iload_n 2, 1) := by decide +kernel
theorem dX9_same_15 : decode cX9_same 15 = .ok (.invokevirtual 149, 3) := by decide +kernel
theorem dX9_same_18 : decode cX9_same 18 = .ok (.astore 5, 2) := by decide +kernel
theorem dX9_same_20 : decode cX9_same 20 = .ok (.aload 4, 2) := by decide +kernel
theorem dX9_same_22 : decode cX9_same 22 = .ok (.ifnull 17, 3) := by decide +kernel
theorem dX9_same_25 : decode cX9_same 25 = .ok (.aload 5, 2) := by decide +kernel
theorem dX9_same_27 : decode cX9_same 27 = .ok (.ifnull 12, 3) := by decide +kernel
theorem dX9_same_30 : decode cX9_same 30 = .ok (.iload_n 3, 1) := by decide +kernel
theorem dX9_same_31 : decode cX9_same 31 = .ok (.iconst 0, 1) := by decide +kernel
theorem dX9_same_32 : decode cX9_same 32 = .ok (.iconst 2, 1) := by decide +kernel
theorem dX9_same_33 : decode cX9_same 33 = .ok (.invokestatic 57, 3) := by decide +kernel
theorem dX9_same_36 : decode cX9_same 36 = .ok (.ifCond .ne 5, 3) := by decide +kernel
theorem dX9_same_39 : decode cX9_same 39 = .ok (.iconst (-1), 1) := by decide +kernel
theorem dX9_same_40 : decode cX9_same 40 = .ok (.ireturn, 1) := by decide +kernel
theorem dX9_same_41 : decode cX9_same 41 = .ok (.aload 4, 2) := by decide +kernel
theorem dX9_same_43 : decode cX9_same 43 = .ok (.getfield 136, 3) := by decide +kernel
theorem dX9_same_46 : decode cX9_same 46 = .ok (.aload 5, 2) := by decide +kernel
theorem dX9_same_48 : decode cX9_same 48 = .ok (.getfield 136, 3) := by decide +kernel
theorem dX9_same_51 : decode cX9_same 51 = .ok (.iload_n 3, 1) := by decide +kernel
theorem dX9_same_52 : decode cX9_same 52 = .ok (.ifCond .eq 7, 3) := by decide +kernel
theorem dX9_same_55 : decode cX9_same 55 = .ok (.iconst 1, 1) := by decide +kernel
theorem dX9_same_56 : decode cX9_same 56 = .ok (.goto 4, 3) := by decide +kernel
theorem dX9_same_59 : decode cX9_same 59 = .ok (.iconst 0, 1) := by decide +kernel
theorem dX9_same_60 : decode cX9_same 60 = .ok (.iload_n 3, 1) := by decide +kernel
theorem dX9_same_61 : decode cX9_same 61 = .ok (.iconst 2, 1) := by decide +kernel
theorem dX9_same_62 : decode cX9_same 62 = .ok (.if_icmp .ne 7, 3) := by decide +kernel
theorem dX9_same_65 : decode cX9_same 65 = .ok (.iconst 1, 1) := by decide +kernel
theorem dX9_same_66 : decode cX9_same 66 = .ok (.goto 4, 3) := by decide +kernel
theorem dX9_same_69 : decode cX9_same 69 = .ok (.iconst 0, 1) := by decide +kernel
theorem dX9_same_70 : decode cX9_same 70 = .ok (.invokevirtual 189, 3) := by decide +kernel
theorem dX9_same_73 : decode cX9_same 73 = .ok (.ifCond .eq 7, 3) := by decide +kernel
theorem dX9_same_76 : decode cX9_same 76 = .ok (.iconst 1, 1) := by decide +kernel
theorem dX9_same_77 : decode cX9_same 77 = .ok (.goto 4, 3) := by decide +kernel
theorem dX9_same_80 : decode cX9_same 80 = .ok (.iconst 0, 1) := by decide +kernel
theorem dX9_same_81 : decode cX9_same 81 = .ok (.ireturn, 1) := by decide +kernel
theorem dX9_why_0 : decode cX9_why 0 = .ok (.aload_n 0, 1) := by decide +kernel
theorem dX9_why_1 : decode cX9_why 1 = .ok (.getfield 28, 3) := by decide +kernel
theorem dX9_why_4 : decode cX9_why 4 = .ok (.iload_n 1, 1) := by decide +kernel
theorem dX9_why_5 : decode cX9_why 5 = .ok (.invokevirtual 149, 3) := by decide +kernel
theorem dX9_why_8 : decode cX9_why 8 = .ok (.astore 6, 2) := by decide +kernel
theorem dX9_why_10 : decode cX9_why 10 = .ok (.aload_n 0, 1) := by decide +kernel
theorem dX9_why_11 : decode cX9_why 11 = .ok (.getfield 28, 3) := by decide +kernel
theorem dX9_why_14 : decode cX9_why 14 = .ok (.iload_n 2, 1) := by decide +kernel
theorem dX9_why_15 : decode cX9_why 15 = .ok (.invokevirtual 74, 3) := by decide +kernel
theorem dX9_why_18 : decode cX9_why 18 = .ok (.astore 7, 2) := by decide +kernel
theorem dX9_why_20 : decode cX9_why 20 = .ok (.aload 6, 2) := by decide +kernel
theorem dX9_why_22 : decode cX9_why 22 = .ok (.ifnull 8, 3) := by decide +kernel
theorem dX9_why_25 : decode cX9_why 25 = .ok (.aload 7, 2) := by decide +kernel
theorem dX9_why_27 : decode cX9_why 27 = .ok (.ifnonnull 5, 3) := by decide +kernel
theorem dX9_why_30 : decode cX9_why 30 = .ok (.iconst (-1), 1) := by decide +kernel
theorem dX9_why_31 : decode cX9_why 31 = .ok (.ireturn, 1) := by decide +kernel
theorem dX9_why_32 : decode cX9_why 32 = .ok (.aload_n 0, 1) := by decide +kernel
theorem dX9_why_33 : decode cX9_why 33 = .ok (.getfield 28, 3) := by decide +kernel
theorem dX9_why_36 : decode cX9_why 36 = .ok (.getfield 193, 3) := by decide +kernel
theorem dX9_why_39 : decode cX9_why 39 = .ok (.aload 6, 2) := by decide +kernel
theorem dX9_why_41 : decode cX9_why 41 = .ok (.aload 7, 2) := by decide +kernel
theorem dX9_why_43 : decode cX9_why 43 = .ok (.iload_n 3, 1) := by decide +kernel
theorem dX9_why_44 : decode cX9_why 44 = .ok (.iload 4, 2) := by decide +kernel
theorem dX9_why_46 : decode cX9_why 46 = .ok (.iload 5, 2) := by decide +kernel
theorem dX9_why_48 : decode cX9_why 48 = .ok (.invokevirtual 197, 3) := by decide +kernel
theorem dX9_why_51 : decode cX9_why 51 = .ok (.ireturn, 1) := by decide +kernel
theorem dX9_place_0 : decode cX9_place 0 = .ok (.aload_n 0, 1) := by decide +kernel
theorem dX9_place_1 : decode cX9_place 1 = .ok (.getfield 28, 3) := by decide +kernel
theorem dX9_place_4 : decode cX9_place 4 = .ok (.iload_n 1, 1) := by decide +kernel
theorem dX9_place_5 : decode cX9_place 5 = .ok (.invokevirtual 149, 3) := by decide +kernel
theorem dX9_place_8 : decode cX9_place 8 = .ok (.astore 4, 2) := by decide +kernel
theorem dX9_place_10 : decode cX9_place 10 = .ok (.aload_n 0, 1) := by decide +kernel
theorem dX9_place_11 : decode cX9_place 11 = .ok (.getfield 28, 3) := by decide +kernel
theorem dX9_place_14 : decode cX9_place 14 = .ok (.iload_n 2, 1) := by decide +kernel
theorem dX9_place_15 : decode cX9_place 15 = .ok (.invokevirtual 74, 3) := by decide +kernel
theorem dX9_place_18 : decode cX9_place 18 = .ok (.astore 5, 2) := by decide +kernel
theorem dX9_place_20 : decode cX9_place 20 = .ok (.aload 4, 2) := by decide +kernel
theorem dX9_place_22 : decode cX9_place 22 = .ok (.ifnull 17, 3) := by decide +kernel
theorem dX9_place_25 : decode cX9_place 25 = .ok (.aload 5, 2) := by decide +kernel
theorem dX9_place_27 : decode cX9_place 27 = .ok (.ifnull 12, 3) := by decide +kernel
theorem dX9_place_30 : decode cX9_place 30 = .ok (.iload_n 3, 1) := by decide +kernel
theorem dX9_place_31 : decode cX9_place 31 = .ok (.iconst 0, 1) := by decide +kernel
theorem dX9_place_32 : decode cX9_place 32 = .ok (.iconst 2, 1) := by decide +kernel
theorem dX9_place_33 : decode cX9_place 33 = .ok (.invokestatic 57, 3) := by decide +kernel
theorem dX9_place_36 : decode cX9_place 36 = .ok (.ifCond .ne 5, 3) := by decide +kernel
theorem dX9_place_39 : decode cX9_place 39 = .ok (.iconst (-1), 1) := by decide +kernel
theorem dX9_place_40 : decode cX9_place 40 = .ok (.ireturn, 1) := by decide +kernel
theorem dX9_place_41 : decode cX9_place 41 = .ok (.aload_n 0, 1) := by decide +kernel
theorem dX9_place_42 : decode cX9_place 42 = .ok (.getfield 28, 3) := by decide +kernel
theorem dX9_place_45 : decode cX9_place 45 = .ok (.getfield 193, 3) := by decide +kernel
theorem dX9_place_48 : decode cX9_place 48 = .ok (.astore 6, 2) := by decide +kernel
theorem dX9_place_50 : decode cX9_place 50 = .ok (.aload 6, 2) := by decide +kernel
theorem dX9_place_52 : decode cX9_place 52 = .ok (.aload 4, 2) := by decide +kernel
theorem dX9_place_54 : decode cX9_place 54 = .ok (.aload 5, 2) := by decide +kernel
theorem dX9_place_56 : decode cX9_place 56 = .ok (.invokevirtual 203, 3) := by decide +kernel
theorem dX9_place_59 : decode cX9_place 59 = .ok (.ifCond .ne 5, 3) := by decide +kernel
theorem dX9_place_62 : decode cX9_place 62 = .ok (.iconst (-1), 1) := by decide +kernel
theorem dX9_place_63 : decode cX9_place 63 = .ok (.ireturn, 1) := by decide +kernel
theorem dX9_place_64 : decode cX9_place 64 = .ok (.iload_n 3, 1) := by decide +kernel
theorem dX9_place_65 : decode cX9_place 65 = .ok (.ifCond .ne 9, 3) := by decide +kernel
theorem dX9_place_68 : decode cX9_place 68 = .ok (.aload 6, 2) := by decide +kernel
theorem dX9_place_70 : decode cX9_place 70 = .ok (.getfield 207, 3) := by decide +kernel
theorem dX9_place_73 : decode cX9_place 73 = .ok (.ireturn, 1) := by decide +kernel
theorem dX9_place_74 : decode cX9_place 74 = .ok (.iload_n 3, 1) := by decide +kernel
theorem dX9_place_75 : decode cX9_place 75 = .ok (.iconst 1, 1) := by decide +kernel
theorem dX9_place_76 : decode cX9_place 76 = .ok (.if_icmp .ne 11, 3) := by decide +kernel
theorem dX9_place_79 : decode cX9_place 79 = .ok (.aload 6, 2) := by decide +kernel
theorem dX9_place_81 : decode cX9_place 81 = .ok (.getfield 208, 3) := by decide +kernel
theorem dX9_place_84 : decode cX9_place 84 = .ok (.goto 8, 3) := by decide +kernel
theorem dX9_place_87 : decode cX9_place 87 = .ok (.aload 6, 2) := by decide +kernel
theorem dX9_place_89 : decode cX9_place 89 = .ok (.getfield 209, 3) := by decide +kernel
theorem dX9_place_92 : decode cX9_place 92 = .ok (.ireturn, 1) := by decide +kernel
theorem dX9_make_0 : decode cX9_make 0 = .ok (.aload_n 0, 1) := by decide +kernel
theorem dX9_make_1 : decode cX9_make 1 = .ok (.getfield 28, 3) := by decide +kernel
theorem dX9_make_4 : decode cX9_make 4 = .ok (.iload_n 1, 1) := by decide +kernel
theorem dX9_make_5 : decode cX9_make 5 = .ok (.invokevirtual 149, 3) := by decide +kernel
theorem dX9_make_8 : decode cX9_make 8 = .ok (.astore_n 3, 1) := by decide +kernel
theorem dX9_make_9 : decode cX9_make 9 = .ok (.aload_n 3, 1) := by decide +kernel
theorem dX9_make_10 : decode cX9_make 10 = .ok (.ifnull 22, 3) := by decide +kernel
theorem dX9_make_13 : decode cX9_make 13 = .ok (.aload_n 3, 1) := by decide +kernel
theorem dX9_make_14 : decode cX9_make 14 = .ok (.invokevirtual 210, 3) := by decide +kernel
theorem dX9_make_17 : decode cX9_make 17 = .ok (.ifCond .ne 15, 3) := by decide +kernel
theorem dX9_make_20 : decode cX9_make 20 = .ok (.aload_n 0, 1) := by decide +kernel
theorem dX9_make_21 : decode cX9_make 21 = .ok (.getfield 28, 3) := by decide +kernel
theorem dX9_make_24 : decode cX9_make 24 = .ok (.aload_n 3, 1) := by decide +kernel
theorem dX9_make_25 : decode cX9_make 25 = .ok (.iload_n 2, 1) := by decide +kernel
theorem dX9_make_26 : decode cX9_make 26 = .ok (.invokevirtual 213, 3) := by decide +kernel
theorem dX9_make_29 : decode cX9_make 29 = .ok (.ifCond .ne 5, 3) := by decide +kernel
theorem dX9_make_32 : decode cX9_make 32 = .ok (.iconst (-1), 1) := by decide +kernel
theorem dX9_make_33 : decode cX9_make 33 = .ok (.ireturn, 1) := by decide +kernel
theorem dX9_make_34 : decode cX9_make 34 = .ok (.aload_n 3, 1) := by decide +kernel
theorem dX9_make_35 : decode cX9_make 35 = .ok (.getfield 136, 3) := by decide +kernel
theorem dX9_make_38 : decode cX9_make 38 = .ok (.invokevirtual 137, 3) := by decide +kernel
theorem dX9_make_41 : decode cX9_make 41 = .ok (.ireturn, 1) := by decide +kernel
theorem dX9_plan_0 : decode cX9_plan 0 = .ok (.aload_n 0, 1) := by decide +kernel
theorem dX9_plan_1 : decode cX9_plan 1 = .ok (.getfield 37, 3) := by decide +kernel
theorem dX9_plan_4 : decode cX9_plan 4 = .ok (.invokevirtual 217, 3) := by decide +kernel
theorem dX9_plan_7 : decode cX9_plan 7 = .ok (.ireturn, 1) := by decide +kernel
theorem dX9_planned_0 : decode cX9_planned 0 = .ok (.iload_n 1, 1) := by decide +kernel
theorem dX9_planned_1 : decode cX9_planned 1 = .ok (.iconst 0, 1) := by decide +kernel
theorem dX9_planned_2 : decode cX9_planned 2 = .ok (.bipush 7, 2) := by decide +kernel
theorem dX9_planned_4 : decode cX9_planned 4 = .ok (.invokestatic 57, 3) := by decide +kernel
theorem dX9_planned_7 : decode cX9_planned 7 = .ok (.ifCond .eq 15, 3) := by decide +kernel
theorem dX9_planned_10 : decode cX9_planned 10 = .ok (.aload_n 0, 1) := by decide +kernel
theorem dX9_planned_11 : decode cX9_planned 11 = .ok (.getfield 37, 3) := by decide +kernel
theorem dX9_planned_14 : decode cX9_planned 14 = .ok (.getfield 220, 3) := by decide +kernel
theorem dX9_planned_17 : decode cX9_planned 17 = .ok (.iload_n 1, 1) := by decide +kernel
theorem dX9_planned_18 : decode cX9_planned 18 = .ok (.iaload, 1) := by decide +kernel
theorem dX9_planned_19 : decode cX9_planned 19 = .ok (.goto 4, 3) := by decide +kernel
theorem dX9_planned_22 : decode cX9_planned 22 = .ok (.iconst (-1), 1) := by decide +kernel
theorem dX9_planned_23 : decode cX9_planned 23 = .ok (.ireturn, 1) := by decide +kernel
theorem dX9_free_0 : decode cX9_free 0 = .ok (.aload_n 0, 1) := by decide +kernel
theorem dX9_free_1 : decode cX9_free 1 = .ok (.getfield 28, 3) := by decide +kernel
theorem dX9_free_4 : decode cX9_free 4 = .ok (.iload_n 1, 1) := by decide +kernel
theorem dX9_free_5 : decode cX9_free 5 = .ok (.invokevirtual 149, 3) := by decide +kernel
theorem dX9_free_8 : decode cX9_free 8 = .ok (.astore_n 2, 1) := by decide +kernel
theorem dX9_free_9 : decode cX9_free 9 = .ok (.aload_n 2, 1) := by decide +kernel
theorem dX9_free_10 : decode cX9_free 10 = .ok (.ifnull 10, 3) := by decide +kernel
theorem dX9_free_13 : decode cX9_free 13 = .ok (.aload_n 2, 1) := by decide +kernel
theorem dX9_free_14 : decode cX9_free 14 = .ok (.invokevirtual 210, 3) := by decide +kernel
theorem dX9_free_17 : decode cX9_free 17 = .ok (.ifCond .ne 5, 3) := by decide +kernel
theorem dX9_free_20 : decode cX9_free 20 = .ok (.iconst 0, 1) := by decide +kernel
theorem dX9_free_21 : decode cX9_free 21 = .ok (.ireturn, 1) := by decide +kernel
theorem dX9_free_22 : decode cX9_free 22 = .ok (.aload_n 0, 1) := by decide +kernel
theorem dX9_free_23 : decode cX9_free 23 = .ok (.getfield 28, 3) := by decide +kernel
theorem dX9_free_26 : decode cX9_free 26 = .ok (.aload_n 2, 1) := by decide +kernel
theorem dX9_free_27 : decode cX9_free 27 = .ok (.invokevirtual 223, 3) := by decide +kernel
theorem dX9_free_30 : decode cX9_free 30 = .ok (.iconst 1, 1) := by decide +kernel
theorem dX9_free_31 : decode cX9_free 31 = .ok (.ireturn, 1) := by decide +kernel
theorem dX9_isFrom_0 : decode cX9_isFrom 0 = .ok (.iload_n 1, 1) := by decide +kernel
theorem dX9_isFrom_1 : decode cX9_isFrom 1 = .ok (.iload_n 0, 1) := by decide +kernel
theorem dX9_isFrom_2 : decode cX9_isFrom 2 = .ok (.if_icmp .gt 12, 3) := by decide +kernel
theorem dX9_isFrom_5 : decode cX9_isFrom 5 = .ok (.iload_n 0, 1) := by decide +kernel
theorem dX9_isFrom_6 : decode cX9_isFrom 6 = .ok (.iload_n 2, 1) := by decide +kernel
theorem dX9_isFrom_7 : decode cX9_isFrom 7 = .ok (.if_icmp .gt 7, 3) := by decide +kernel
theorem dX9_isFrom_10 : decode cX9_isFrom 10 = .ok (.iconst 1, 1) := by decide +kernel
theorem dX9_isFrom_11 : decode cX9_isFrom 11 = .ok (.goto 4, 3) := by decide +kernel
theorem dX9_isFrom_14 : decode cX9_isFrom 14 = .ok (.iconst 0, 1) := by decide +kernel
theorem dX9_isFrom_15 : decode cX9_isFrom 15 = .ok (.ireturn, 1) := by decide +kernel
theorem dJ6_bitCount_0f7a4_0 : decode cJ6_bitCount_0f7a4 0 = .ok (.iload_n 0, 1) := by decide +kernel
theorem dJ6_bitCount_0f7a4_1 : decode cJ6_bitCount_0f7a4 1 = .ok (.iload_n 0, 1) := by decide +kernel
theorem dJ6_bitCount_0f7a4_2 : decode cJ6_bitCount_0f7a4 2 = .ok (.iconst 1, 1) := by decide +kernel
theorem dJ6_bitCount_0f7a4_3 : decode cJ6_bitCount_0f7a4 3 = .ok (.iushr, 1) := by decide +kernel
theorem dJ6_bitCount_0f7a4_4 : decode cJ6_bitCount_0f7a4 4 = .ok (.ldc_w 265, 3) := by decide +kernel
theorem dJ6_bitCount_0f7a4_7 : decode cJ6_bitCount_0f7a4 7 = .ok (.iand, 1) := by decide +kernel
theorem dJ6_bitCount_0f7a4_8 : decode cJ6_bitCount_0f7a4 8 = .ok (.isub, 1) := by decide +kernel
theorem dJ6_bitCount_0f7a4_9 : decode cJ6_bitCount_0f7a4 9 = .ok (.istore_n 0, 1) := by decide +kernel
theorem dJ6_bitCount_0f7a4_10 : decode cJ6_bitCount_0f7a4 10 = .ok (.iload_n 0, 1) := by decide +kernel
theorem dJ6_bitCount_0f7a4_11 : decode cJ6_bitCount_0f7a4 11 = .ok (.ldc_w 266, 3) := by decide +kernel
theorem dJ6_bitCount_0f7a4_14 : decode cJ6_bitCount_0f7a4 14 = .ok (.iand, 1) := by decide +kernel
theorem dJ6_bitCount_0f7a4_15 : decode cJ6_bitCount_0f7a4 15 = .ok (.iload_n 0, 1) := by decide +kernel
theorem dJ6_bitCount_0f7a4_16 : decode cJ6_bitCount_0f7a4 16 = .ok (.iconst 2, 1) := by decide +kernel
theorem dJ6_bitCount_0f7a4_17 : decode cJ6_bitCount_0f7a4 17 = .ok (.iushr, 1) := by decide +kernel
theorem dJ6_bitCount_0f7a4_18 : decode cJ6_bitCount_0f7a4 18 = .ok (.ldc_w 266, 3) := by decide +kernel
theorem dJ6_bitCount_0f7a4_21 : decode cJ6_bitCount_0f7a4 21 = .ok (.iand, 1) := by decide +kernel
theorem dJ6_bitCount_0f7a4_22 : decode cJ6_bitCount_0f7a4 22 = .ok (.iadd, 1) := by decide +kernel
theorem dJ6_bitCount_0f7a4_23 : decode cJ6_bitCount_0f7a4 23 = .ok (.istore_n 0, 1) := by decide +kernel
theorem dJ6_bitCount_0f7a4_24 : decode cJ6_bitCount_0f7a4 24 = .ok (.iload_n 0, 1) := by decide +kernel
theorem dJ6_bitCount_0f7a4_25 : decode cJ6_bitCount_0f7a4 25 = .ok (.iload_n 0, 1) := by decide +kernel
theorem dJ6_bitCount_0f7a4_26 : decode cJ6_bitCount_0f7a4 26 = .ok (.iconst 4, 1) := by decide +kernel
theorem dJ6_bitCount_0f7a4_27 : decode cJ6_bitCount_0f7a4 27 = .ok (.iushr, 1) := by decide +kernel
theorem dJ6_bitCount_0f7a4_28 : decode cJ6_bitCount_0f7a4 28 = .ok (.iadd, 1) := by decide +kernel
theorem dJ6_bitCount_0f7a4_29 : decode cJ6_bitCount_0f7a4 29 = .ok (.ldc_w 267, 3) := by decide +kernel
theorem dJ6_bitCount_0f7a4_32 : decode cJ6_bitCount_0f7a4 32 = .ok (.iand, 1) := by decide +kernel
theorem dJ6_bitCount_0f7a4_33 : decode cJ6_bitCount_0f7a4 33 = .ok (.istore_n 0, 1) := by decide +kernel
theorem dJ6_bitCount_0f7a4_34 : decode cJ6_bitCount_0f7a4 34 = .ok (.iload_n 0, 1) := by decide +kernel
theorem dJ6_bitCount_0f7a4_35 : decode cJ6_bitCount_0f7a4 35 = .ok (.iload_n 0, 1) := by decide +kernel
theorem dJ6_bitCount_0f7a4_36 : decode cJ6_bitCount_0f7a4 36 = .ok (.bipush 8, 2) := by decide +kernel
theorem dJ6_bitCount_0f7a4_38 : decode cJ6_bitCount_0f7a4 38 = .ok (.iushr, 1) := by decide +kernel
theorem dJ6_bitCount_0f7a4_39 : decode cJ6_bitCount_0f7a4 39 = .ok (.iadd, 1) := by decide +kernel
theorem dJ6_bitCount_0f7a4_40 : decode cJ6_bitCount_0f7a4 40 = .ok (.istore_n 0, 1) := by decide +kernel
theorem dJ6_bitCount_0f7a4_41 : decode cJ6_bitCount_0f7a4 41 = .ok (.iload_n 0, 1) := by decide +kernel
theorem dJ6_bitCount_0f7a4_42 : decode cJ6_bitCount_0f7a4 42 = .ok (.iload_n 0, 1) := by decide +kernel
theorem dJ6_bitCount_0f7a4_43 : decode cJ6_bitCount_0f7a4 43 = .ok (.bipush 16, 2) := by decide +kernel
theorem dJ6_bitCount_0f7a4_45 : decode cJ6_bitCount_0f7a4 45 = .ok (.iushr, 1) := by decide +kernel
theorem dJ6_bitCount_0f7a4_46 : decode cJ6_bitCount_0f7a4 46 = .ok (.iadd, 1) := by decide +kernel
theorem dJ6_bitCount_0f7a4_47 : decode cJ6_bitCount_0f7a4 47 = .ok (.istore_n 0, 1) := by decide +kernel
theorem dJ6_bitCount_0f7a4_48 : decode cJ6_bitCount_0f7a4 48 = .ok (.iload_n 0, 1) := by decide +kernel
theorem dJ6_bitCount_0f7a4_49 : decode cJ6_bitCount_0f7a4 49 = .ok (.bipush 63, 2) := by decide +kernel
theorem dJ6_bitCount_0f7a4_51 : decode cJ6_bitCount_0f7a4 51 = .ok (.iand, 1) := by decide +kernel
theorem dJ6_bitCount_0f7a4_52 : decode cJ6_bitCount_0f7a4 52 = .ok (.ireturn, 1) := by decide +kernel
theorem dJ9_abs_0f7a4_0 : decode cJ9_abs_0f7a4 0 = .ok (.iload_n 0, 1) := by decide +kernel
theorem dJ9_abs_0f7a4_1 : decode cJ9_abs_0f7a4 1 = .ok (.ifCond .ge 8, 3) := by decide +kernel
theorem dJ9_abs_0f7a4_4 : decode cJ9_abs_0f7a4 4 = .ok (.iload_n 0, 1) := by decide +kernel
theorem dJ9_abs_0f7a4_5 : decode cJ9_abs_0f7a4 5 = .ok (.ineg, 1) := by decide +kernel
theorem dJ9_abs_0f7a4_6 : decode cJ9_abs_0f7a4 6 = .ok (.goto 4, 3) := by decide +kernel
theorem dJ9_abs_0f7a4_9 : decode cJ9_abs_0f7a4 9 = .ok (.iload_n 0, 1) := by decide +kernel
theorem dJ9_abs_0f7a4_10 : decode cJ9_abs_0f7a4 10 = .ok (.ireturn, 1) := by decide +kernel
theorem dJ9_max_7cf53_0 : decode cJ9_max_7cf53 0 = .ok (.iload_n 0, 1) := by decide +kernel
theorem dJ9_max_7cf53_1 : decode cJ9_max_7cf53 1 = .ok (.iload_n 1, 1) := by decide +kernel
theorem dJ9_max_7cf53_2 : decode cJ9_max_7cf53 2 = .ok (.if_icmp .lt 7, 3) := by decide +kernel
theorem dJ9_max_7cf53_5 : decode cJ9_max_7cf53 5 = .ok (.iload_n 0, 1) := by decide +kernel
theorem dJ9_max_7cf53_6 : decode cJ9_max_7cf53 6 = .ok (.goto 4, 3) := by decide +kernel
theorem dJ9_max_7cf53_9 : decode cJ9_max_7cf53 9 = .ok (.iload_n 1, 1) := by decide +kernel
theorem dJ9_max_7cf53_10 : decode cJ9_max_7cf53 10 = .ok (.ireturn, 1) := by decide +kernel
theorem dJ9_min_7cf53_0 : decode cJ9_min_7cf53 0 = .ok (.iload_n 0, 1) := by decide +kernel
theorem dJ9_min_7cf53_1 : decode cJ9_min_7cf53 1 = .ok (.iload_n 1, 1) := by decide +kernel
theorem dJ9_min_7cf53_2 : decode cJ9_min_7cf53 2 = .ok (.if_icmp .gt 7, 3) := by decide +kernel
theorem dJ9_min_7cf53_5 : decode cJ9_min_7cf53 5 = .ok (.iload_n 0, 1) := by decide +kernel
theorem dJ9_min_7cf53_6 : decode cJ9_min_7cf53 6 = .ok (.goto 4, 3) := by decide +kernel
theorem dJ9_min_7cf53_9 : decode cJ9_min_7cf53 9 = .ok (.iload_n 1, 1) := by decide +kernel
theorem dJ9_min_7cf53_10 : decode cJ9_min_7cf53 10 = .ok (.ireturn, 1) := by decide +kernel
theorem dJ7_fill_d0a16_0 : decode cJ7_fill_d0a16 0 = .ok (.iconst 0, 1) := by decide +kernel
theorem dJ7_fill_d0a16_1 : decode cJ7_fill_d0a16 1 = .ok (.istore_n 3, 1) := by decide +kernel
theorem dJ7_fill_d0a16_2 : decode cJ7_fill_d0a16 2 = .ok (.aload_n 0, 1) := by decide +kernel
theorem dJ7_fill_d0a16_3 : decode cJ7_fill_d0a16 3 = .ok (.arraylength, 1) := by decide +kernel
theorem dJ7_fill_d0a16_4 : decode cJ7_fill_d0a16 4 = .ok (.istore 4, 2) := by decide +kernel
theorem dJ7_fill_d0a16_6 : decode cJ7_fill_d0a16 6 = .ok (.iload_n 3, 1) := by decide +kernel
theorem dJ7_fill_d0a16_7 : decode cJ7_fill_d0a16 7 = .ok (.iload 4, 2) := by decide +kernel
theorem dJ7_fill_d0a16_9 : decode cJ7_fill_d0a16 9 = .ok (.if_icmp .ge 13, 3) := by decide +kernel
theorem dJ7_fill_d0a16_12 : decode cJ7_fill_d0a16 12 = .ok (.aload_n 0, 1) := by decide +kernel
theorem dJ7_fill_d0a16_13 : decode cJ7_fill_d0a16 13 = .ok (.iload_n 3, 1) := by decide +kernel
theorem dJ7_fill_d0a16_14 : decode cJ7_fill_d0a16 14 = .ok (.lload_n 1, 1) := by decide +kernel
theorem dJ7_fill_d0a16_15 : decode cJ7_fill_d0a16 15 = .ok (.lastore, 1) := by decide +kernel
theorem dJ7_fill_d0a16_16 : decode cJ7_fill_d0a16 16 = .ok (.iinc 3 1, 3) := by decide +kernel
theorem dJ7_fill_d0a16_19 : decode cJ7_fill_d0a16 19 = .ok (.goto (-13), 3) := by decide +kernel
theorem dJ7_fill_d0a16_22 : decode cJ7_fill_d0a16 22 = .ok (.return_, 1) := by decide +kernel
theorem dJ7_fill_53178_0 : decode cJ7_fill_53178 0 = .ok (.iconst 0, 1) := by decide +kernel
theorem dJ7_fill_53178_1 : decode cJ7_fill_53178 1 = .ok (.istore_n 2, 1) := by decide +kernel
theorem dJ7_fill_53178_2 : decode cJ7_fill_53178 2 = .ok (.aload_n 0, 1) := by decide +kernel
theorem dJ7_fill_53178_3 : decode cJ7_fill_53178 3 = .ok (.arraylength, 1) := by decide +kernel
theorem dJ7_fill_53178_4 : decode cJ7_fill_53178 4 = .ok (.istore_n 3, 1) := by decide +kernel
theorem dJ7_fill_53178_5 : decode cJ7_fill_53178 5 = .ok (.iload_n 2, 1) := by decide +kernel
theorem dJ7_fill_53178_6 : decode cJ7_fill_53178 6 = .ok (.iload_n 3, 1) := by decide +kernel
theorem dJ7_fill_53178_7 : decode cJ7_fill_53178 7 = .ok (.if_icmp .ge 13, 3) := by decide +kernel
theorem dJ7_fill_53178_10 : decode cJ7_fill_53178 10 = .ok (.aload_n 0, 1) := by decide +kernel
theorem dJ7_fill_53178_11 : decode cJ7_fill_53178 11 = .ok (.iload_n 2, 1) := by decide +kernel
theorem dJ7_fill_53178_12 : decode cJ7_fill_53178 12 = .ok (.iload_n 1, 1) := by decide +kernel
theorem dJ7_fill_53178_13 : decode cJ7_fill_53178 13 = .ok (.iastore, 1) := by decide +kernel
theorem dJ7_fill_53178_14 : decode cJ7_fill_53178 14 = .ok (.iinc 2 1, 3) := by decide +kernel
theorem dJ7_fill_53178_17 : decode cJ7_fill_53178 17 = .ok (.goto (-12), 3) := by decide +kernel
theorem dJ7_fill_53178_20 : decode cJ7_fill_53178 20 = .ok (.return_, 1) := by decide +kernel
end
section
theorem dX10_init_0 : decode cX10_init 0 = .ok (.aload_n 0, 1) := by decide +kernel
theorem dX10_init_1 : decode cX10_init 1 = .ok (.invokespecial 1, 3) := by decide +kernel
theorem dX10_init_4 : decode cX10_init 4 = .ok (.aload_n 0, 1) := by decide +kernel
theorem dX10_init_5 : decode cX10_init 5 = .ok (.iconst 3, 1) := by decide +kernel
theorem dX10_init_6 : decode cX10_init 6 = .ok (.newarray .int, 2) := by decide +kernel
theorem dX10_init_8 : decode cX10_init 8 = .ok (.putfield 7, 3) := by decide +kernel
theorem dX10_init_11 : decode cX10_init 11 = .ok (.aload_n 0, 1) := by decide +kernel
theorem dX10_init_12 : decode cX10_init 12 = .ok (.iconst 3, 1) := by decide +kernel
theorem dX10_init_13 : decode cX10_init 13 = .ok (.newarray .int, 2) := by decide +kernel
theorem dX10_init_15 : decode cX10_init 15 = .ok (.putfield 13, 3) := by decide +kernel
theorem dX10_init_18 : decode cX10_init 18 = .ok (.aload_n 0, 1) := by decide +kernel
theorem dX10_init_19 : decode cX10_init 19 = .ok (.iconst 3, 1) := by decide +kernel
theorem dX10_init_20 : decode cX10_init 20 = .ok (.newarray .int, 2) := by decide +kernel
theorem dX10_init_22 : decode cX10_init 22 = .ok (.putfield 16, 3) := by decide +kernel
theorem dX10_init_25 : decode cX10_init 25 = .ok (.aload_n 0, 1) := by decide +kernel
theorem dX10_init_26 : decode cX10_init 26 = .ok (.iconst 3, 1) := by decide +kernel
theorem dX10_init_27 : decode cX10_init 27 = .ok (.newarray .int, 2) := by decide +kernel
theorem dX10_init_29 : decode cX10_init 29 = .ok (.putfield 19, 3) := by decide +kernel
theorem dX10_init_32 : decode cX10_init 32 = .ok (.aload_n 0, 1) := by decide +kernel
theorem dX10_init_33 : decode cX10_init 33 = .ok (.iconst 3, 1) := by decide +kernel
theorem dX10_init_34 : decode cX10_init 34 = .ok (.newarray .int, 2) := by decide +kernel
theorem dX10_init_36 : decode cX10_init 36 = .ok (.putfield 22, 3) := by decide +kernel
theorem dX10_init_39 : decode cX10_init 39 = .ok (.aload_n 0, 1) := by decide +kernel
theorem dX10_init_40 : decode cX10_init 40 = .ok (.iconst 3, 1) := by decide +kernel
theorem dX10_init_41 : decode cX10_init 41 = .ok (.newarray .int, 2) := by decide +kernel
theorem dX10_init_43 : decode cX10_init 43 = .ok (.putfield 25, 3) := by decide +kernel
theorem dX10_init_46 : decode cX10_init 46 = .ok (.aload_n 0, 1) := by decide +kernel
theorem dX10_init_47 : decode cX10_init 47 = .ok (.iconst 3, 1) := by decide +kernel
theorem dX10_init_48 : decode cX10_init 48 = .ok (.newarray .int, 2) := by decide +kernel
theorem dX10_init_50 : decode cX10_init 50 = .ok (.putfield 28, 3) := by decide +kernel
theorem dX10_init_53 : decode cX10_init 53 = .ok (.aload_n 0, 1) := by decide +kernel
theorem dX10_init_54 : decode cX10_init 54 = .ok (.bipush 30, 2) := by decide +kernel
theorem dX10_init_56 : decode cX10_init 56 = .ok (.newarray .int, 2) := by decide +kernel
theorem dX10_init_58 : decode cX10_init 58 = .ok (.putfield 31, 3) := by decide +kernel
theorem dX10_init_61 : decode cX10_init 61 = .ok (.aload_n 0, 1) := by decide +kernel
theorem dX10_init_62 : decode cX10_init 62 = .ok (.bipush 30, 2) := by decide +kernel
theorem dX10_init_64 : decode cX10_init 64 = .ok (.newarray .int, 2) := by decide +kernel
theorem dX10_init_66 : decode cX10_init 66 = .ok (.putfield 34, 3) := by decide +kernel
theorem dX10_init_69 : decode cX10_init 69 = .ok (.aload_n 0, 1) := by decide +kernel
theorem dX10_init_70 : decode cX10_init 70 = .ok (.bipush 30, 2) := by decide +kernel
theorem dX10_init_72 : decode cX10_init 72 = .ok (.newarray .int, 2) := by decide +kernel
theorem dX10_init_74 : decode cX10_init 74 = .ok (.putfield 37, 3) := by decide +kernel
theorem dX10_init_77 : decode cX10_init 77 = .ok (.aload_n 0, 1) := by decide +kernel
theorem dX10_init_78 : decode cX10_init 78 = .ok (.bipush 30, 2) := by decide +kernel
theorem dX10_init_80 : decode cX10_init 80 = .ok (.newarray .int, 2) := by decide +kernel
theorem dX10_init_82 : decode cX10_init 82 = .ok (.putfield 40, 3) := by decide +kernel
theorem dX10_init_85 : decode cX10_init 85 = .ok (.aload_n 0, 1) := by decide +kernel
theorem dX10_init_86 : decode cX10_init 86 = .ok (.bipush 30, 2) := by decide +kernel
theorem dX10_init_88 : decode cX10_init 88 = .ok (.newarray .int, 2) := by decide +kernel
theorem dX10_init_90 : decode cX10_init 90 = .ok (.putfield 43, 3) := by decide +kernel
theorem dX10_init_93 : decode cX10_init 93 = .ok (.aload_n 0, 1) := by decide +kernel
theorem dX10_init_94 : decode cX10_init 94 = .ok (.bipush 30, 2) := by decide +kernel
theorem dX10_init_96 : decode cX10_init 96 = .ok (.newarray .int, 2) := by decide +kernel
theorem dX10_init_98 : decode cX10_init 98 = .ok (.putfield 46, 3) := by decide +kernel
theorem dX10_init_101 : decode cX10_init 101 = .ok (.aload_n 0, 1) := by decide +kernel
theorem dX10_init_102 : decode cX10_init 102 = .ok (.bipush 30, 2) := by decide +kernel
theorem dX10_init_104 : decode cX10_init 104 = .ok (.newarray .int, 2) := by decide +kernel
theorem dX10_init_106 : decode cX10_init 106 = .ok (.putfield 49, 3) := by decide +kernel
theorem dX10_init_109 : decode cX10_init 109 = .ok (.aload_n 0, 1) := by decide +kernel
theorem dX10_init_110 : decode cX10_init 110 = .ok (.bipush 30, 2) := by decide +kernel
theorem dX10_init_112 : decode cX10_init 112 = .ok (.newarray .int, 2) := by decide +kernel
theorem dX10_init_114 : decode cX10_init 114 = .ok (.putfield 52, 3) := by decide +kernel
theorem dX10_init_117 : decode cX10_init 117 = .ok (.aload_n 0, 1) := by decide +kernel
theorem dX10_init_118 : decode cX10_init 118 = .ok (.sipush 6000, 3) := by decide +kernel
theorem dX10_init_121 : decode cX10_init 121 = .ok (.newarray .int, 2) := by decide +kernel
theorem dX10_init_123 : decode cX10_init 123 = .ok (.putfield 55, 3) := by decide +kernel
theorem dX10_init_126 : decode cX10_init 126 = .ok (.aload_n 0, 1) := by decide +kernel
theorem dX10_init_127 : decode cX10_init 127 = .ok (.sipush 6000, 3) := by decide +kernel
theorem dX10_init_130 : decode cX10_init 130 = .ok (.newarray .int, 2) := by decide +kernel
theorem dX10_init_132 : decode cX10_init 132 = .ok (.putfield 58, 3) := by decide +kernel
theorem dX10_init_135 : decode cX10_init 135 = .ok (.aload_n 0, 1) := by decide +kernel
theorem dX10_init_136 : decode cX10_init 136 = .ok (.sipush 6000, 3) := by decide +kernel
theorem dX10_init_139 : decode cX10_init 139 = .ok (.newarray .int, 2) := by decide +kernel
theorem dX10_init_141 : decode cX10_init 141 = .ok (.putfield 61, 3) := by decide +kernel
theorem dX10_init_144 : decode cX10_init 144 = .ok (.aload_n 0, 1) := by decide +kernel
theorem dX10_init_145 : decode cX10_init 145 = .ok (.sipush 6000, 3) := by decide +kernel
theorem dX10_init_148 : decode cX10_init 148 = .ok (.newarray .int, 2) := by decide +kernel
theorem dX10_init_150 : decode cX10_init 150 = .ok (.putfield 64, 3) := by decide +kernel
theorem dX10_init_153 : decode cX10_init 153 = .ok (.aload_n 0, 1) := by decide +kernel
theorem dX10_init_154 : decode cX10_init 154 = .ok (.sipush 6000, 3) := by decide +kernel
theorem dX10_init_157 : decode cX10_init 157 = .ok (.newarray .int, 2) := by decide +kernel
theorem dX10_init_159 : decode cX10_init 159 = .ok (.putfield 67, 3) := by decide +kernel
theorem dX10_init_162 : decode cX10_init 162 = .ok (.aload_n 0, 1) := by decide +kernel
theorem dX10_init_163 : decode cX10_init 163 = .ok (.sipush 6000, 3) := by decide +kernel
theorem dX10_init_166 : decode cX10_init 166 = .ok (.newarray .int, 2) := by decide +kernel
theorem dX10_init_168 : decode cX10_init 168 = .ok (.putfield 70, 3) := by decide +kernel
theorem dX10_init_171 : decode cX10_init 171 = .ok (.aload_n 0, 1) := by decide +kernel
theorem dX10_init_172 : decode cX10_init 172 = .ok (.sipush 6000, 3) := by decide +kernel
theorem dX10_init_175 : decode cX10_init 175 = .ok (.newarray .int, 2) := by decide +kernel
theorem dX10_init_177 : decode cX10_init 177 = .ok (.putfield 73, 3) := by decide +kernel
theorem dX10_init_180 : decode cX10_init 180 = .ok (.aload_n 0, 1) := by decide +kernel
theorem dX10_init_181 : decode cX10_init 181 = .ok (.sipush 6000, 3) := by decide +kernel
theorem dX10_init_184 : decode cX10_init 184 = .ok (.newarray .int, 2) := by decide +kernel
theorem dX10_init_186 : decode cX10_init 186 = .ok (.putfield 76, 3) := by decide +kernel
theorem dX10_init_189 : decode cX10_init 189 = .ok (.aload_n 0, 1) := by decide +kernel
theorem dX10_init_190 : decode cX10_init 190 = .ok (.sipush 400, 3) := by decide +kernel
theorem dX10_init_193 : decode cX10_init 193 = .ok (.newarray .int, 2) := by decide +kernel
theorem dX10_init_195 : decode cX10_init 195 = .ok (.putfield 79, 3) := by decide +kernel
theorem dX10_init_198 : decode cX10_init 198 = .ok (.aload_n 0, 1) := by decide +kernel
theorem dX10_init_199 : decode cX10_init 199 = .ok (.iconst (-1), 1) := by decide +kernel
theorem dX10_init_200 : decode cX10_init 200 = .ok (.putfield 82, 3) := by decide +kernel
theorem dX10_init_203 : decode cX10_init 203 = .ok (.aload_n 0, 1) := by decide +kernel
theorem dX10_init_204 : decode cX10_init 204 = .ok (.bipush 64, 2) := by decide +kernel
theorem dX10_init_206 : decode cX10_init 206 = .ok (.newarray .int, 2) := by decide +kernel
theorem dX10_init_208 : decode cX10_init 208 = .ok (.putfield 86, 3) := by decide +kernel
theorem dX10_init_211 : decode cX10_init 211 = .ok (.aload_n 0, 1) := by decide +kernel
theorem dX10_init_212 : decode cX10_init 212 = .ok (.bipush 64, 2) := by decide +kernel
theorem dX10_init_214 : decode cX10_init 214 = .ok (.newarray .int, 2) := by decide +kernel
theorem dX10_init_216 : decode cX10_init 216 = .ok (.putfield 89, 3) := by decide +kernel
theorem dX10_init_219 : decode cX10_init 219 = .ok (.aload_n 0, 1) := by decide +kernel
theorem dX10_init_220 : decode cX10_init 220 = .ok (.bipush 8, 2) := by decide +kernel
theorem dX10_init_222 : decode cX10_init 222 = .ok (.newarray .int, 2) := by decide +kernel
theorem dX10_init_224 : decode cX10_init 224 = .ok (.putfield 92, 3) := by decide +kernel
theorem dX10_init_227 : decode cX10_init 227 = .ok (.aload_n 0, 1) := by decide +kernel
theorem dX10_init_228 : decode cX10_init 228 = .ok (.bipush 8, 2) := by decide +kernel
theorem dX10_init_230 : decode cX10_init 230 = .ok (.newarray .int, 2) := by decide +kernel
theorem dX10_init_232 : decode cX10_init 232 = .ok (.putfield 95, 3) := by decide +kernel
theorem dX10_init_235 : decode cX10_init 235 = .ok (.aload_n 0, 1) := by decide +kernel
theorem dX10_init_236 : decode cX10_init 236 = .ok (.sipush 512, 3) := by decide +kernel
theorem dX10_init_239 : decode cX10_init 239 = .ok (.newarray .int, 2) := by decide +kernel
theorem dX10_init_241 : decode cX10_init 241 = .ok (.putfield 98, 3) := by decide +kernel
theorem dX10_init_244 : decode cX10_init 244 = .ok (.aload_n 0, 1) := by decide +kernel
theorem dX10_init_245 : decode cX10_init 245 = .ok (.bipush 8, 2) := by decide +kernel
theorem dX10_init_247 : decode cX10_init 247 = .ok (.newarray .int, 2) := by decide +kernel
theorem dX10_init_249 : decode cX10_init 249 = .ok (.putfield 101, 3) := by decide +kernel
theorem dX10_init_252 : decode cX10_init 252 = .ok (.aload_n 0, 1) := by decide +kernel
theorem dX10_init_253 : decode cX10_init 253 = .ok (.bipush 8, 2) := by decide +kernel
theorem dX10_init_255 : decode cX10_init 255 = .ok (.newarray .int, 2) := by decide +kernel
theorem dX10_init_257 : decode cX10_init 257 = .ok (.putfield 104, 3) := by decide +kernel
theorem dX10_init_260 : decode cX10_init 260 = .ok (.aload_n 0, 1) := by decide +kernel
theorem dX10_init_261 : decode cX10_init 261 = .ok (.sipush 512, 3) := by decide +kernel
theorem dX10_init_264 : decode cX10_init 264 = .ok (.newarray .int, 2) := by decide +kernel
theorem dX10_init_266 : decode cX10_init 266 = .ok (.putfield 107, 3) := by decide +kernel
theorem dX10_init_269 : decode cX10_init 269 = .ok (.aload_n 0, 1) := by decide +kernel
theorem dX10_init_270 : decode cX10_init 270 = .ok (.bipush 8, 2) := by decide +kernel
theorem dX10_init_272 : decode cX10_init 272 = .ok (.newarray .int, 2) := by decide +kernel
theorem dX10_init_274 : decode cX10_init 274 = .ok (.putfield 110, 3) := by decide +kernel
theorem dX10_init_277 : decode cX10_init 277 = .ok (.aload_n 0, 1) := by decide +kernel
theorem dX10_init_278 : decode cX10_init 278 = .ok (.bipush 8, 2) := by decide +kernel
theorem dX10_init_280 : decode cX10_init 280 = .ok (.newarray .int, 2) := by decide +kernel
theorem dX10_init_282 : decode cX10_init 282 = .ok (.putfield 113, 3) := by decide +kernel
theorem dX10_init_285 : decode cX10_init 285 = .ok (.aload_n 0, 1) := by decide +kernel
theorem dX10_init_286 : decode cX10_init 286 = .ok (.bipush 6, 2) := by decide +kernel
theorem dX10_init_288 : decode cX10_init 288 = .ok (.newarray .int, 2) := by decide +kernel
theorem dX10_init_290 : decode cX10_init 290 = .ok (.putfield 116, 3) := by decide +kernel
theorem dX10_init_293 : decode cX10_init 293 = .ok (.aload_n 0, 1) := by decide +kernel
theorem dX10_init_294 : decode cX10_init 294 = .ok (.bipush 6, 2) := by decide +kernel
theorem dX10_init_296 : decode cX10_init 296 = .ok (.newarray .int, 2) := by decide +kernel
theorem dX10_init_298 : decode cX10_init 298 = .ok (.putfield 119, 3) := by decide +kernel
theorem dX10_init_301 : decode cX10_init 301 = .ok (.aload_n 0, 1) := by decide +kernel
theorem dX10_init_302 : decode cX10_init 302 = .ok (.bipush 6, 2) := by decide +kernel
theorem dX10_init_304 : decode cX10_init 304 = .ok (.newarray .int, 2) := by decide +kernel
theorem dX10_init_306 : decode cX10_init 306 = .ok (.putfield 122, 3) := by decide +kernel
theorem dX10_init_309 : decode cX10_init 309 = .ok (.aload_n 0, 1) := by decide +kernel
theorem dX10_init_310 : decode cX10_init 310 = .ok (.bipush 8, 2) := by decide +kernel
theorem dX10_init_312 : decode cX10_init 312 = .ok (.newarray .int, 2) := by decide +kernel
theorem dX10_init_314 : decode cX10_init 314 = .ok (.putfield 125, 3) := by decide +kernel
theorem dX10_init_317 : decode cX10_init 317 = .ok (.aload_n 0, 1) := by decide +kernel
theorem dX10_init_318 : decode cX10_init 318 = .ok (.bipush 8, 2) := by decide +kernel
theorem dX10_init_320 : decode cX10_init 320 = .ok (.newarray .int, 2) := by decide +kernel
theorem dX10_init_322 : decode cX10_init 322 = .ok (.putfield 128, 3) := by decide +kernel
theorem dX10_init_325 : decode cX10_init 325 = .ok (.aload_n 0, 1) := by decide +kernel
theorem dX10_init_326 : decode cX10_init 326 = .ok (.sipush 512, 3) := by decide +kernel
theorem dX10_init_329 : decode cX10_init 329 = .ok (.newarray .int, 2) := by decide +kernel
theorem dX10_init_331 : decode cX10_init 331 = .ok (.putfield 131, 3) := by decide +kernel
theorem dX10_init_334 : decode cX10_init 334 = .ok (.aload_n 0, 1) := by decide +kernel
theorem dX10_init_335 : decode cX10_init 335 = .ok (.bipush 8, 2) := by decide +kernel
theorem dX10_init_337 : decode cX10_init 337 = .ok (.newarray .int, 2) := by decide +kernel
theorem dX10_init_339 : decode cX10_init 339 = .ok (.putfield 134, 3) := by decide +kernel
theorem dX10_init_342 : decode cX10_init 342 = .ok (.aload_n 0, 1) := by decide +kernel
theorem dX10_init_343 : decode cX10_init 343 = .ok (.bipush 8, 2) := by decide +kernel
theorem dX10_init_345 : decode cX10_init 345 = .ok (.newarray .int, 2) := by decide +kernel
theorem dX10_init_347 : decode cX10_init 347 = .ok (.putfield 137, 3) := by decide +kernel
theorem dX10_init_350 : decode cX10_init 350 = .ok (.aload_n 0, 1) := by decide +kernel
theorem dX10_init_351 : decode cX10_init 351 = .ok (.bipush 8, 2) := by decide +kernel
theorem dX10_init_353 : decode cX10_init 353 = .ok (.newarray .int, 2) := by decide +kernel
theorem dX10_init_355 : decode cX10_init 355 = .ok (.putfield 140, 3) := by decide +kernel
theorem dX10_init_358 : decode cX10_init 358 = .ok (.aload_n 0, 1) := by decide +kernel
theorem dX10_init_359 : decode cX10_init 359 = .ok (.bipush 8, 2) := by decide +kernel
theorem dX10_init_361 : decode cX10_init 361 = .ok (.newarray .int, 2) := by decide +kernel
theorem dX10_init_363 : decode cX10_init 363 = .ok (.dup, 1) := by decide +kernel
theorem dX10_init_364 : decode cX10_init 364 = .ok (.iconst 0, 1) := by decide +kernel
theorem dX10_init_365 : decode cX10_init 365 = .ok (.iconst (-1), 1) := by decide +kernel
theorem dX10_init_366 : decode cX10_init 366 = .ok (.iastore, 1) := by decide +kernel
theorem dX10_init_367 : decode cX10_init 367 = .ok (.dup, 1) := by decide +kernel
theorem dX10_init_368 : decode cX10_init 368 = .ok (.iconst 1, 1) := by decide +kernel
theorem dX10_init_369 : decode cX10_init 369 = .ok (.iconst (-1), 1) := by decide +kernel
theorem dX10_init_370 : decode cX10_init 370 = .ok (.iastore, 1) := by decide +kernel
theorem dX10_init_371 : decode cX10_init 371 = .ok (.dup, 1) := by decide +kernel
theorem dX10_init_372 : decode cX10_init 372 = .ok (.iconst 2, 1) := by decide +kernel
theorem dX10_init_373 : decode cX10_init 373 = .ok (.iconst (-1), 1) := by decide +kernel
theorem dX10_init_374 : decode cX10_init 374 = .ok (.iastore, 1) := by decide +kernel
theorem dX10_init_375 : decode cX10_init 375 = .ok (.dup, 1) := by decide +kernel
theorem dX10_init_376 : decode cX10_init 376 = .ok (.iconst 3, 1) := by decide +kernel
theorem dX10_init_377 : decode cX10_init 377 = .ok (.iconst (-1), 1) := by decide +kernel
theorem dX10_init_378 : decode cX10_init 378 = .ok (.iastore, 1) := by decide +kernel
theorem dX10_init_379 : decode cX10_init 379 = .ok (.dup, 1) := by decide +kernel
theorem dX10_init_380 : decode cX10_init 380 = .ok (.iconst 4, 1) := by decide +kernel
theorem dX10_init_381 : decode cX10_init 381 = .ok (.iconst (-1), 1) := by decide +kernel
theorem dX10_init_382 : decode cX10_init 382 = .ok (.iastore, 1) := by decide +kernel
theorem dX10_init_383 : decode cX10_init 383 = .ok (.dup, 1) := by decide +kernel
theorem dX10_init_384 : decode cX10_init 384 = .ok (.iconst 5, 1) := by decide +kernel
theorem dX10_init_385 : decode cX10_init 385 = .ok (.iconst (-1), 1) := by decide +kernel
theorem dX10_init_386 : decode cX10_init 386 = .ok (.iastore, 1) := by decide +kernel
theorem dX10_init_387 : decode cX10_init 387 = .ok (.dup, 1) := by decide +kernel
theorem dX10_init_388 : decode cX10_init 388 = .ok (.bipush 6, 2) := by decide +kernel
theorem dX10_init_390 : decode cX10_init 390 = .ok (.iconst (-1), 1) := by decide +kernel
theorem dX10_init_391 : decode cX10_init 391 = .ok (.iastore, 1) := by decide +kernel
theorem dX10_init_392 : decode cX10_init 392 = .ok (.dup, 1) := by decide +kernel
theorem dX10_init_393 : decode cX10_init 393 = .ok (.bipush 7, 2) := by decide +kernel
theorem dX10_init_395 : decode cX10_init 395 = .ok (.iconst (-1), 1) := by decide +kernel
theorem dX10_init_396 : decode cX10_init 396 = .ok (.iastore, 1) := by decide +kernel
theorem dX10_init_397 : decode cX10_init 397 = .ok (.putfield 143, 3) := by decide +kernel
theorem dX10_init_400 : decode cX10_init 400 = .ok (.aload_n 0, 1) := by decide +kernel
theorem dX10_init_401 : decode cX10_init 401 = .ok (.bipush 8, 2) := by decide +kernel
theorem dX10_init_403 : decode cX10_init 403 = .ok (.newarray .int, 2) := by decide +kernel
theorem dX10_init_405 : decode cX10_init 405 = .ok (.putfield 146, 3) := by decide +kernel
theorem dX10_init_408 : decode cX10_init 408 = .ok (.aload_n 0, 1) := by decide +kernel
theorem dX10_init_409 : decode cX10_init 409 = .ok (.bipush 8, 2) := by decide +kernel
theorem dX10_init_411 : decode cX10_init 411 = .ok (.newarray .int, 2) := by decide +kernel
theorem dX10_init_413 : decode cX10_init 413 = .ok (.putfield 149, 3) := by decide +kernel
theorem dX10_init_416 : decode cX10_init 416 = .ok (.aload_n 0, 1) := by decide +kernel
theorem dX10_init_417 : decode cX10_init 417 = .ok (.bipush 8, 2) := by decide +kernel
theorem dX10_init_419 : decode cX10_init 419 = .ok (.newarray .int, 2) := by decide +kernel
theorem dX10_init_421 : decode cX10_init 421 = .ok (.putfield 152, 3) := by decide +kernel
theorem dX10_init_424 : decode cX10_init 424 = .ok (.aload_n 0, 1) := by decide +kernel
theorem dX10_init_425 : decode cX10_init 425 = .ok (.bipush 10, 2) := by decide +kernel
theorem dX10_init_427 : decode cX10_init 427 = .ok (.newarray .int, 2) := by decide +kernel
theorem dX10_init_429 : decode cX10_init 429 = .ok (.putfield 155, 3) := by decide +kernel
theorem dX10_init_432 : decode cX10_init 432 = .ok (.aload_n 0, 1) := by decide +kernel
theorem dX10_init_433 : decode cX10_init 433 = .ok (.bipush 8, 2) := by decide +kernel
theorem dX10_init_435 : decode cX10_init 435 = .ok (.newarray .int, 2) := by decide +kernel
theorem dX10_init_437 : decode cX10_init 437 = .ok (.putfield 158, 3) := by decide +kernel
theorem dX10_init_440 : decode cX10_init 440 = .ok (.aload_n 0, 1) := by decide +kernel
theorem dX10_init_441 : decode cX10_init 441 = .ok (.iconst 3, 1) := by decide +kernel
theorem dX10_init_442 : decode cX10_init 442 = .ok (.newarray .int, 2) := by decide +kernel
theorem dX10_init_444 : decode cX10_init 444 = .ok (.putfield 161, 3) := by decide +kernel
theorem dX10_init_447 : decode cX10_init 447 = .ok (.aload_n 0, 1) := by decide +kernel
theorem dX10_init_448 : decode cX10_init 448 = .ok (.iconst 3, 1) := by decide +kernel
theorem dX10_init_449 : decode cX10_init 449 = .ok (.newarray .int, 2) := by decide +kernel
theorem dX10_init_451 : decode cX10_init 451 = .ok (.putfield 164, 3) := by decide +kernel
theorem dX10_init_454 : decode cX10_init 454 = .ok (.return_, 1) := by decide +kernel
theorem dX10_isIn_0 : decode cX10_isIn 0 = .ok (.iload_n 0, 1) := by decide +kernel
theorem dX10_isIn_1 : decode cX10_isIn 1 = .ok (.iload_n 1, 1) := by decide +kernel
theorem dX10_isIn_2 : decode cX10_isIn 2 = .ok (.if_icmp .lt 12, 3) := by decide +kernel
theorem dX10_isIn_5 : decode cX10_isIn 5 = .ok (.iload_n 0, 1) := by decide +kernel
theorem dX10_isIn_6 : decode cX10_isIn 6 = .ok (.iload_n 2, 1) := by decide +kernel
theorem dX10_isIn_7 : decode cX10_isIn 7 = .ok (.if_icmp .gt 7, 3) := by decide +kernel
theorem dX10_isIn_10 : decode cX10_isIn 10 = .ok (.iconst 1, 1) := by decide +kernel
theorem dX10_isIn_11 : decode cX10_isIn 11 = .ok (.goto 4, 3) := by decide +kernel
theorem dX10_isIn_14 : decode cX10_isIn 14 = .ok (.iconst 0, 1) := by decide +kernel
theorem dX10_isIn_15 : decode cX10_isIn 15 = .ok (.ireturn, 1) := by decide +kernel
theorem dX10_isLog_0 : decode cX10_isLog 0 = .ok (.iload_n 1, 1) := by decide +kernel
theorem dX10_isLog_1 : decode cX10_isLog 1 = .ok (.ifCond .lt 21, 3) := by decide +kernel
theorem dX10_isLog_4 : decode cX10_isLog 4 = .ok (.iload_n 1, 1) := by decide +kernel
theorem dX10_isLog_5 : decode cX10_isLog 5 = .ok (.iconst 3, 1) := by decide +kernel
theorem dX10_isLog_6 : decode cX10_isLog 6 = .ok (.if_icmp .ge 16, 3) := by decide +kernel
theorem dX10_isLog_9 : decode cX10_isLog 9 = .ok (.aload_n 0, 1) := by decide +kernel
theorem dX10_isLog_10 : decode cX10_isLog 10 = .ok (.getfield 7, 3) := by decide +kernel
theorem dX10_isLog_13 : decode cX10_isLog 13 = .ok (.iload_n 1, 1) := by decide +kernel
theorem dX10_isLog_14 : decode cX10_isLog 14 = .ok (.iaload, 1) := by decide +kernel
theorem dX10_isLog_15 : decode cX10_isLog 15 = .ok (.ifCond .le 7, 3) := by decide +kernel
theorem dX10_isLog_18 : decode cX10_isLog 18 = .ok (.iconst 1, 1) := by decide +kernel
theorem dX10_isLog_19 : decode cX10_isLog 19 = .ok (.goto 4, 3) := by decide +kernel
theorem dX10_isLog_22 : decode cX10_isLog 22 = .ok (.iconst 0, 1) := by decide +kernel
theorem dX10_isLog_23 : decode cX10_isLog 23 = .ok (.ireturn, 1) := by decide +kernel
theorem dX10_isLeaf_0 : decode cX10_isLeaf 0 = .ok (.aload_n 0, 1) := by decide +kernel
theorem dX10_isLeaf_1 : decode cX10_isLeaf 1 = .ok (.iload_n 1, 1) := by decide +kernel
theorem dX10_isLeaf_2 : decode cX10_isLeaf 2 = .ok (.invokevirtual 167, 3) := by decide +kernel
theorem dX10_isLeaf_5 : decode cX10_isLeaf 5 = .ok (.ifCond .eq 21, 3) := by decide +kernel
theorem dX10_isLeaf_8 : decode cX10_isLeaf 8 = .ok (.iload_n 2, 1) := by decide +kernel
theorem dX10_isLeaf_9 : decode cX10_isLeaf 9 = .ok (.ifCond .lt 17, 3) := by decide +kernel
theorem dX10_isLeaf_12 : decode cX10_isLeaf 12 = .ok (.iload_n 2, 1) := by decide +kernel
theorem dX10_isLeaf_13 : decode cX10_isLeaf 13 = .ok (.aload_n 0, 1) := by decide +kernel
theorem dX10_isLeaf_14 : decode cX10_isLeaf 14 = .ok (.getfield 7, 3) := by decide +kernel
theorem dX10_isLeaf_17 : decode cX10_isLeaf 17 = .ok (.iload_n 1, 1) := by decide +kernel
theorem dX10_isLeaf_18 : decode cX10_isLeaf 18 = .ok (.iaload, 1) := by decide +kernel
theorem dX10_isLeaf_19 : decode cX10_isLeaf 19 = .ok (.if_icmp .ge 7, 3) := by decide +kernel
theorem dX10_isLeaf_22 : decode cX10_isLeaf 22 = .ok (.iconst 1, 1) := by decide +kernel
theorem dX10_isLeaf_23 : decode cX10_isLeaf 23 = .ok (.goto 4, 3) := by decide +kernel
theorem dX10_isLeaf_26 : decode cX10_isLeaf 26 = .ok (.iconst 0, 1) := by decide +kernel
theorem dX10_isLeaf_27 : decode cX10_isLeaf 27 = .ok (.ireturn, 1) := by decide +kernel
theorem dX10_widthOf_0 : decode cX10_widthOf 0 = .ok (.aload_n 0, 1) := by decide +kernel
theorem dX10_widthOf_1 : decode cX10_widthOf 1 = .ok (.getfield 16, 3) := by decide +kernel
theorem dX10_widthOf_4 : decode cX10_widthOf 4 = .ok (.iload_n 1, 1) := by decide +kernel
theorem dX10_widthOf_5 : decode cX10_widthOf 5 = .ok (.iaload, 1) := by decide +kernel
theorem dX10_widthOf_6 : decode cX10_widthOf 6 = .ok (.iload_n 2, 1) := by decide +kernel
theorem dX10_widthOf_7 : decode cX10_widthOf 7 = .ok (.aload_n 0, 1) := by decide +kernel
theorem dX10_widthOf_8 : decode cX10_widthOf 8 = .ok (.getfield 19, 3) := by decide +kernel
theorem dX10_widthOf_11 : decode cX10_widthOf 11 = .ok (.iload_n 1, 1) := by decide +kernel
theorem dX10_widthOf_12 : decode cX10_widthOf 12 = .ok (.iaload, 1) := by decide +kernel
theorem dX10_widthOf_13 : decode cX10_widthOf 13 = .ok (.imul, 1) := by decide +kernel
theorem dX10_widthOf_14 : decode cX10_widthOf 14 = .ok (.iadd, 1) := by decide +kernel
theorem dX10_widthOf_15 : decode cX10_widthOf 15 = .ok (.istore_n 3, 1) := by decide +kernel
theorem dX10_widthOf_16 : decode cX10_widthOf 16 = .ok (.iload_n 3, 1) := by decide +kernel
theorem dX10_widthOf_17 : decode cX10_widthOf 17 = .ok (.iconst 1, 1) := by decide +kernel
theorem dX10_widthOf_18 : decode cX10_widthOf 18 = .ok (.if_icmp .ge 7, 3) := by decide +kernel
theorem dX10_widthOf_21 : decode cX10_widthOf 21 = .ok (.iconst 1, 1) := by decide +kernel
theorem dX10_widthOf_22 : decode cX10_widthOf 22 = .ok (.goto 4, 3) := by decide +kernel
theorem dX10_widthOf_25 : decode cX10_widthOf 25 = .ok (.iload_n 3, 1) := by decide +kernel
theorem dX10_widthOf_26 : decode cX10_widthOf 26 = .ok (.ireturn, 1) := by decide +kernel
theorem dX10_toneOf_0 : decode cX10_toneOf 0 = .ok (.aload_n 0, 1) := by decide +kernel
theorem dX10_toneOf_1 : decode cX10_toneOf 1 = .ok (.getfield 22, 3) := by decide +kernel
theorem dX10_toneOf_4 : decode cX10_toneOf 4 = .ok (.iload_n 1, 1) := by decide +kernel
theorem dX10_toneOf_5 : decode cX10_toneOf 5 = .ok (.iaload, 1) := by decide +kernel
theorem dX10_toneOf_6 : decode cX10_toneOf 6 = .ok (.iload_n 2, 1) := by decide +kernel
theorem dX10_toneOf_7 : decode cX10_toneOf 7 = .ok (.aload_n 0, 1) := by decide +kernel
theorem dX10_toneOf_8 : decode cX10_toneOf 8 = .ok (.getfield 25, 3) := by decide +kernel
theorem dX10_toneOf_11 : decode cX10_toneOf 11 = .ok (.iload_n 1, 1) := by decide +kernel
theorem dX10_toneOf_12 : decode cX10_toneOf 12 = .ok (.iaload, 1) := by decide +kernel
theorem dX10_toneOf_13 : decode cX10_toneOf 13 = .ok (.imul, 1) := by decide +kernel
theorem dX10_toneOf_14 : decode cX10_toneOf 14 = .ok (.iadd, 1) := by decide +kernel
theorem dX10_toneOf_15 : decode cX10_toneOf 15 = .ok (.ireturn, 1) := by decide +kernel
theorem dX10_goes_0 : decode cX10_goes 0 = .ok (.iconst 0, 1) := by decide +kernel
theorem dX10_goes_1 : decode cX10_goes 1 = .ok (.istore_n 3, 1) := by decide +kernel
theorem dX10_goes_2 : decode cX10_goes 2 = .ok (.iconst 0, 1) := by decide +kernel
theorem dX10_goes_3 : decode cX10_goes 3 = .ok (.istore 4, 2) := by decide +kernel
theorem dX10_goes_5 : decode cX10_goes 5 = .ok (.iload 4, 2) := by decide +kernel
theorem dX10_goes_7 : decode cX10_goes 7 = .ok (.aload_n 0, 1) := by decide +kernel
theorem dX10_goes_8 : decode cX10_goes 8 = .ok (.getfield 171, 3) := by decide +kernel
theorem dX10_goes_11 : decode cX10_goes 11 = .ok (.if_icmp .ge 146, 3) := by decide +kernel
theorem dX10_goes_14 : decode cX10_goes 14 = .ok (.aload_n 0, 1) := by decide +kernel
theorem dX10_goes_15 : decode cX10_goes 15 = .ok (.getfield 55, 3) := by decide +kernel
theorem dX10_goes_18 : decode cX10_goes 18 = .ok (.iload 4, 2) := by decide +kernel
theorem dX10_goes_20 : decode cX10_goes 20 = .ok (.iaload, 1) := by decide +kernel
theorem dX10_goes_21 : decode cX10_goes 21 = .ok (.iload_n 1, 1) := by decide +kernel
theorem dX10_goes_22 : decode cX10_goes 22 = .ok (.if_icmp .eq 129, 3) := by decide +kernel
theorem dX10_goes_25 : decode cX10_goes 25 = .ok (.iload_n 2, 1) := by decide +kernel
theorem dX10_goes_26 : decode cX10_goes 26 = .ok (.iconst (-1), 1) := by decide +kernel
theorem dX10_goes_27 : decode cX10_goes 27 = .ok (.if_icmp .eq 17, 3) := by decide +kernel
theorem dX10_goes_30 : decode cX10_goes 30 = .ok (.aload_n 0, 1) := by decide +kernel
theorem dX10_goes_31 : decode cX10_goes 31 = .ok (.getfield 76, 3) := by decide +kernel
theorem dX10_goes_34 : decode cX10_goes 34 = .ok (.iload 4, 2) := by decide +kernel
theorem dX10_goes_36 : decode cX10_goes 36 = .ok (.iaload, 1) := by decide +kernel
theorem dX10_goes_37 : decode cX10_goes 37 = .ok (.iload_n 2, 1) := by decide +kernel
theorem dX10_goes_38 : decode cX10_goes 38 = .ok (.if_icmp .ne 6, 3) := by decide +kernel
theorem dX10_goes_41 : decode cX10_goes 41 = .ok (.goto 110, 3) := by decide +kernel
theorem dX10_goes_44 : decode cX10_goes 44 = .ok (.aload_n 0, 1) := by decide +kernel
theorem dX10_goes_45 : decode cX10_goes 45 = .ok (.getfield 55, 3) := by decide +kernel
theorem dX10_goes_48 : decode cX10_goes 48 = .ok (.iload_n 3, 1) := by decide +kernel
theorem dX10_goes_49 : decode cX10_goes 49 = .ok (.aload_n 0, 1) := by decide +kernel
theorem dX10_goes_50 : decode cX10_goes 50 = .ok (.getfield 55, 3) := by decide +kernel
theorem dX10_goes_53 : decode cX10_goes 53 = .ok (.iload 4, 2) := by decide +kernel
theorem dX10_goes_55 : decode cX10_goes 55 = .ok (.iaload, 1) := by decide +kernel
theorem dX10_goes_56 : decode cX10_goes 56 = .ok (.iastore, 1) := by decide +kernel
theorem dX10_goes_57 : decode cX10_goes 57 = .ok (.aload_n 0, 1) := by decide +kernel
theorem dX10_goes_58 : decode cX10_goes 58 = .ok (.getfield 58, 3) := by decide +kernel
theorem dX10_goes_61 : decode cX10_goes 61 = .ok (.iload_n 3, 1) := by decide +kernel
theorem dX10_goes_62 : decode cX10_goes 62 = .ok (.aload_n 0, 1) := by decide +kernel
theorem dX10_goes_63 : decode cX10_goes 63 = .ok (.getfield 58, 3) := by decide +kernel
theorem dX10_goes_66 : decode cX10_goes 66 = .ok (.iload 4, 2) := by decide +kernel
theorem dX10_goes_68 : decode cX10_goes 68 = .ok (.iaload, 1) := by decide +kernel
theorem dX10_goes_69 : decode cX10_goes 69 = .ok (.iastore, 1) := by decide +kernel
theorem dX10_goes_70 : decode cX10_goes 70 = .ok (.aload_n 0, 1) := by decide +kernel
theorem dX10_goes_71 : decode cX10_goes 71 = .ok (.getfield 61, 3) := by decide +kernel
theorem dX10_goes_74 : decode cX10_goes 74 = .ok (.iload_n 3, 1) := by decide +kernel
theorem dX10_goes_75 : decode cX10_goes 75 = .ok (.aload_n 0, 1) := by decide +kernel
theorem dX10_goes_76 : decode cX10_goes 76 = .ok (.getfield 61, 3) := by decide +kernel
theorem dX10_goes_79 : decode cX10_goes 79 = .ok (.iload 4, 2) := by decide +kernel
theorem dX10_goes_81 : decode cX10_goes 81 = .ok (.iaload, 1) := by decide +kernel
theorem dX10_goes_82 : decode cX10_goes 82 = .ok (.iastore, 1) := by decide +kernel
theorem dX10_goes_83 : decode cX10_goes 83 = .ok (.aload_n 0, 1) := by decide +kernel
theorem dX10_goes_84 : decode cX10_goes 84 = .ok (.getfield 64, 3) := by decide +kernel
theorem dX10_goes_87 : decode cX10_goes 87 = .ok (.iload_n 3, 1) := by decide +kernel
theorem dX10_goes_88 : decode cX10_goes 88 = .ok (.aload_n 0, 1) := by decide +kernel
theorem dX10_goes_89 : decode cX10_goes 89 = .ok (.getfield 64, 3) := by decide +kernel
theorem dX10_goes_92 : decode cX10_goes 92 = .ok (.iload 4, 2) := by decide +kernel
theorem dX10_goes_94 : decode cX10_goes 94 = .ok (.iaload, 1) := by decide +kernel
theorem dX10_goes_95 : decode cX10_goes 95 = .ok (.iastore, 1) := by decide +kernel
theorem dX10_goes_96 : decode cX10_goes 96 = .ok (.aload_n 0, 1) := by decide +kernel
theorem dX10_goes_97 : decode cX10_goes 97 = .ok (.getfield 67, 3) := by decide +kernel
theorem dX10_goes_100 : decode cX10_goes 100 = .ok (.iload_n 3, 1) := by decide +kernel
theorem dX10_goes_101 : decode cX10_goes 101 = .ok (.aload_n 0, 1) := by decide +kernel
theorem dX10_goes_102 : decode cX10_goes 102 = .ok (.getfield 67, 3) := by decide +kernel
theorem dX10_goes_105 : decode cX10_goes 105 = .ok (.iload 4, 2) := by decide +kernel
theorem dX10_goes_107 : decode cX10_goes 107 = .ok (.iaload, 1) := by decide +kernel
theorem dX10_goes_108 : decode cX10_goes 108 = .ok (.iastore, 1) := by decide +kernel
theorem dX10_goes_109 : decode cX10_goes 109 = .ok (.aload_n 0, 1) := by decide +kernel
theorem dX10_goes_110 : decode cX10_goes 110 = .ok (.getfield 70, 3) := by decide +kernel
theorem dX10_goes_113 : decode cX10_goes 113 = .ok (.iload_n 3, 1) := by decide +kernel
theorem dX10_goes_114 : decode cX10_goes 114 = .ok (.aload_n 0, 1) := by decide +kernel
theorem dX10_goes_115 : decode cX10_goes 115 = .ok (.getfield 70, 3) := by decide +kernel
theorem dX10_goes_118 : decode cX10_goes 118 = .ok (.iload 4, 2) := by decide +kernel
theorem dX10_goes_120 : decode cX10_goes 120 = .ok (.iaload, 1) := by decide +kernel
theorem dX10_goes_121 : decode cX10_goes 121 = .ok (.iastore, 1) := by decide +kernel
theorem dX10_goes_122 : decode cX10_goes 122 = .ok (.aload_n 0, 1) := by decide +kernel
theorem dX10_goes_123 : decode cX10_goes 123 = .ok (.getfield 73, 3) := by decide +kernel
theorem dX10_goes_126 : decode cX10_goes 126 = .ok (.iload_n 3, 1) := by decide +kernel
theorem dX10_goes_127 : decode cX10_goes 127 = .ok (.aload_n 0, 1) := by decide +kernel
theorem dX10_goes_128 : decode cX10_goes 128 = .ok (.getfield 73, 3) := by decide +kernel
theorem dX10_goes_131 : decode cX10_goes 131 = .ok (.iload 4, 2) := by decide +kernel
theorem dX10_goes_133 : decode cX10_goes 133 = .ok (.iaload, 1) := by decide +kernel
theorem dX10_goes_134 : decode cX10_goes 134 = .ok (.iastore, 1) := by decide +kernel
theorem dX10_goes_135 : decode cX10_goes 135 = .ok (.aload_n 0, 1) := by decide +kernel
theorem dX10_goes_136 : decode cX10_goes 136 = .ok (.getfield 76, 3) := by decide +kernel
theorem dX10_goes_139 : decode cX10_goes 139 = .ok (.iload_n 3, 1) := by decide +kernel
theorem dX10_goes_140 : decode cX10_goes 140 = .ok (.aload_n 0, 1) := by decide +kernel
theorem dX10_goes_141 : decode cX10_goes 141 = .ok (.getfield 76, 3) := by decide +kernel
theorem dX10_goes_144 : decode cX10_goes 144 = .ok (.iload 4, 2) := by decide +kernel
theorem dX10_goes_146 : decode cX10_goes 146 = .ok (.iaload, 1) := by decide +kernel
theorem dX10_goes_147 : decode cX10_goes 147 = .ok (.iastore, 1) := by decide +kernel
theorem dX10_goes_148 : decode cX10_goes 148 = .ok (.iinc 3 1, 3) := by decide +kernel
theorem dX10_goes_151 : decode cX10_goes 151 = .ok (.iinc 4 1, 3) := by decide +kernel
theorem dX10_goes_154 : decode cX10_goes 154 = .ok (.goto (-149), 3) := by decide +kernel
theorem dX10_goes_157 : decode cX10_goes 157 = .ok (.aload_n 0, 1) := by decide +kernel
theorem dX10_goes_158 : decode cX10_goes 158 = .ok (.iload_n 3, 1) := by decide +kernel
theorem dX10_goes_159 : decode cX10_goes 159 = .ok (.putfield 171, 3) := by decide +kernel
theorem dX10_goes_162 : decode cX10_goes 162 = .ok (.return_, 1) := by decide +kernel
theorem dX10_log_0 : decode cX10_log 0 = .ok (.iload_n 1, 1) := by decide +kernel
theorem dX10_log_1 : decode cX10_log 1 = .ok (.iconst 0, 1) := by decide +kernel
theorem dX10_log_2 : decode cX10_log 2 = .ok (.iconst 2, 1) := by decide +kernel
theorem dX10_log_3 : decode cX10_log 3 = .ok (.invokestatic 174, 3) := by decide +kernel
theorem dX10_log_6 : decode cX10_log 6 = .ok (.ifCond .eq 47, 3) := by decide +kernel
theorem dX10_log_9 : decode cX10_log 9 = .ok (.iload_n 2, 1) := by decide +kernel
theorem dX10_log_10 : decode cX10_log 10 = .ok (.iconst 1, 1) := by decide +kernel
theorem dX10_log_11 : decode cX10_log 11 = .ok (.bipush 12, 2) := by decide +kernel
theorem dX10_log_13 : decode cX10_log 13 = .ok (.invokestatic 174, 3) := by decide +kernel
theorem dX10_log_16 : decode cX10_log 16 = .ok (.ifCond .eq 37, 3) := by decide +kernel
theorem dX10_log_19 : decode cX10_log 19 = .ok (.iload_n 3, 1) := by decide +kernel
theorem dX10_log_20 : decode cX10_log 20 = .ok (.bipush 10, 2) := by decide +kernel
theorem dX10_log_22 : decode cX10_log 22 = .ok (.bipush 60, 2) := by decide +kernel
theorem dX10_log_24 : decode cX10_log 24 = .ok (.invokestatic 174, 3) := by decide +kernel
theorem dX10_log_27 : decode cX10_log 27 = .ok (.ifCond .eq 26, 3) := by decide +kernel
theorem dX10_log_30 : decode cX10_log 30 = .ok (.iload 4, 2) := by decide +kernel
theorem dX10_log_32 : decode cX10_log 32 = .ok (.bipush 10, 2) := by decide +kernel
theorem dX10_log_34 : decode cX10_log 34 = .ok (.bipush 40, 2) := by decide +kernel
theorem dX10_log_36 : decode cX10_log 36 = .ok (.invokestatic 174, 3) := by decide +kernel
theorem dX10_log_39 : decode cX10_log 39 = .ok (.ifCond .eq 14, 3) := by decide +kernel
theorem dX10_log_42 : decode cX10_log 42 = .ok (.iload 5, 2) := by decide +kernel
theorem dX10_log_44 : decode cX10_log 44 = .ok (.bipush (-2), 2) := by decide +kernel
theorem dX10_log_46 : decode cX10_log 46 = .ok (.iconst 2, 1) := by decide +kernel
theorem dX10_log_47 : decode cX10_log 47 = .ok (.invokestatic 174, 3) := by decide +kernel
theorem dX10_log_50 : decode cX10_log 50 = .ok (.ifCond .ne 5, 3) := by decide +kernel
theorem dX10_log_53 : decode cX10_log 53 = .ok (.iconst 0, 1) := by decide +kernel
theorem dX10_log_54 : decode cX10_log 54 = .ok (.ireturn, 1) := by decide +kernel
theorem dX10_log_55 : decode cX10_log 55 = .ok (.aload_n 0, 1) := by decide +kernel
theorem dX10_log_56 : decode cX10_log 56 = .ok (.getfield 7, 3) := by decide +kernel
theorem dX10_log_59 : decode cX10_log 59 = .ok (.iload_n 1, 1) := by decide +kernel
theorem dX10_log_60 : decode cX10_log 60 = .ok (.iload_n 2, 1) := by decide +kernel
theorem dX10_log_61 : decode cX10_log 61 = .ok (.iastore, 1) := by decide +kernel
theorem dX10_log_62 : decode cX10_log 62 = .ok (.aload_n 0, 1) := by decide +kernel
theorem dX10_log_63 : decode cX10_log 63 = .ok (.getfield 13, 3) := by decide +kernel
theorem dX10_log_66 : decode cX10_log 66 = .ok (.iload_n 1, 1) := by decide +kernel
theorem dX10_log_67 : decode cX10_log 67 = .ok (.iload_n 3, 1) := by decide +kernel
theorem dX10_log_68 : decode cX10_log 68 = .ok (.iastore, 1) := by decide +kernel
theorem dX10_log_69 : decode cX10_log 69 = .ok (.aload_n 0, 1) := by decide +kernel
theorem dX10_log_70 : decode cX10_log 70 = .ok (.getfield 16, 3) := by decide +kernel
theorem dX10_log_73 : decode cX10_log 73 = .ok (.iload_n 1, 1) := by decide +kernel
theorem dX10_log_74 : decode cX10_log 74 = .ok (.iload 4, 2) := by decide +kernel
theorem dX10_log_76 : decode cX10_log 76 = .ok (.iastore, 1) := by decide +kernel
theorem dX10_log_77 : decode cX10_log 77 = .ok (.aload_n 0, 1) := by decide +kernel
theorem dX10_log_78 : decode cX10_log 78 = .ok (.getfield 19, 3) := by decide +kernel
theorem dX10_log_81 : decode cX10_log 81 = .ok (.iload_n 1, 1) := by decide +kernel
theorem dX10_log_82 : decode cX10_log 82 = .ok (.iload 5, 2) := by decide +kernel
theorem dX10_log_84 : decode cX10_log 84 = .ok (.iastore, 1) := by decide +kernel
theorem dX10_log_85 : decode cX10_log 85 = .ok (.aload_n 0, 1) := by decide +kernel
theorem dX10_log_86 : decode cX10_log 86 = .ok (.getfield 22, 3) := by decide +kernel
theorem dX10_log_89 : decode cX10_log 89 = .ok (.iload_n 1, 1) := by decide +kernel
theorem dX10_log_90 : decode cX10_log 90 = .ok (.iconst 0, 1) := by decide +kernel
theorem dX10_log_91 : decode cX10_log 91 = .ok (.iastore, 1) := by decide +kernel
theorem dX10_log_92 : decode cX10_log 92 = .ok (.aload_n 0, 1) := by decide +kernel
theorem dX10_log_93 : decode cX10_log 93 = .ok (.getfield 25, 3) := by decide +kernel
theorem dX10_log_96 : decode cX10_log 96 = .ok (.iload_n 1, 1) := by decide +kernel
theorem dX10_log_97 : decode cX10_log 97 = .ok (.iconst 0, 1) := by decide +kernel
theorem dX10_log_98 : decode cX10_log 98 = .ok (.iastore, 1) := by decide +kernel
theorem dX10_log_99 : decode cX10_log 99 = .ok (.aload_n 0, 1) := by decide +kernel
theorem dX10_log_100 : decode cX10_log 100 = .ok (.getfield 28, 3) := by decide +kernel
theorem dX10_log_103 : decode cX10_log 103 = .ok (.iload_n 1, 1) := by decide +kernel
theorem dX10_log_104 : decode cX10_log 104 = .ok (.iconst 0, 1) := by decide +kernel
theorem dX10_log_105 : decode cX10_log 105 = .ok (.iastore, 1) := by decide +kernel
theorem dX10_log_106 : decode cX10_log 106 = .ok (.aload_n 0, 1) := by decide +kernel
theorem dX10_log_107 : decode cX10_log 107 = .ok (.iload_n 1, 1) := by decide +kernel
theorem dX10_log_108 : decode cX10_log 108 = .ok (.iconst (-1), 1) := by decide +kernel
theorem dX10_log_109 : decode cX10_log 109 = .ok (.invokevirtual 178, 3) := by decide +kernel
theorem dX10_log_112 : decode cX10_log 112 = .ok (.iconst 0, 1) := by decide +kernel
theorem dX10_log_113 : decode cX10_log 113 = .ok (.istore 6, 2) := by decide +kernel
theorem dX10_log_115 : decode cX10_log 115 = .ok (.iload 6, 2) := by decide +kernel
theorem dX10_log_117 : decode cX10_log 117 = .ok (.bipush 8, 2) := by decide +kernel
theorem dX10_log_119 : decode cX10_log 119 = .ok (.if_icmp .ge 28, 3) := by decide +kernel
theorem dX10_log_122 : decode cX10_log 122 = .ok (.aload_n 0, 1) := by decide +kernel
theorem dX10_log_123 : decode cX10_log 123 = .ok (.getfield 143, 3) := by decide +kernel
theorem dX10_log_126 : decode cX10_log 126 = .ok (.iload 6, 2) := by decide +kernel
theorem dX10_log_128 : decode cX10_log 128 = .ok (.iaload, 1) := by decide +kernel
theorem dX10_log_129 : decode cX10_log 129 = .ok (.iload_n 1, 1) := by decide +kernel
theorem dX10_log_130 : decode cX10_log 130 = .ok (.if_icmp .ne 11, 3) := by decide +kernel
theorem dX10_log_133 : decode cX10_log 133 = .ok (.aload_n 0, 1) := by decide +kernel
theorem dX10_log_134 : decode cX10_log 134 = .ok (.getfield 143, 3) := by decide +kernel
theorem dX10_log_137 : decode cX10_log 137 = .ok (.iload 6, 2) := by decide +kernel
theorem dX10_log_139 : decode cX10_log 139 = .ok (.iconst (-1), 1) := by decide +kernel
theorem dX10_log_140 : decode cX10_log 140 = .ok (.iastore, 1) := by decide +kernel
theorem dX10_log_141 : decode cX10_log 141 = .ok (.iinc 6 1, 3) := by decide +kernel
theorem dX10_log_144 : decode cX10_log 144 = .ok (.goto (-29), 3) := by decide +kernel
theorem dX10_log_147 : decode cX10_log 147 = .ok (.iconst 1, 1) := by decide +kernel
theorem dX10_log_148 : decode cX10_log 148 = .ok (.ireturn, 1) := by decide +kernel
theorem dX10_tone_0 : decode cX10_tone 0 = .ok (.aload_n 0, 1) := by decide +kernel
theorem dX10_tone_1 : decode cX10_tone 1 = .ok (.iload_n 1, 1) := by decide +kernel
theorem dX10_tone_2 : decode cX10_tone 2 = .ok (.invokevirtual 167, 3) := by decide +kernel
theorem dX10_tone_5 : decode cX10_tone 5 = .ok (.ifCond .eq 23, 3) := by decide +kernel
theorem dX10_tone_8 : decode cX10_tone 8 = .ok (.iload_n 2, 1) := by decide +kernel
theorem dX10_tone_9 : decode cX10_tone 9 = .ok (.iconst 0, 1) := by decide +kernel
theorem dX10_tone_10 : decode cX10_tone 10 = .ok (.bipush 100, 2) := by decide +kernel
theorem dX10_tone_12 : decode cX10_tone 12 = .ok (.invokestatic 174, 3) := by decide +kernel
theorem dX10_tone_15 : decode cX10_tone 15 = .ok (.ifCond .eq 13, 3) := by decide +kernel
theorem dX10_tone_18 : decode cX10_tone 18 = .ok (.iload_n 3, 1) := by decide +kernel
theorem dX10_tone_19 : decode cX10_tone 19 = .ok (.bipush (-5), 2) := by decide +kernel
theorem dX10_tone_21 : decode cX10_tone 21 = .ok (.iconst 5, 1) := by decide +kernel
theorem dX10_tone_22 : decode cX10_tone 22 = .ok (.invokestatic 174, 3) := by decide +kernel
theorem dX10_tone_25 : decode cX10_tone 25 = .ok (.ifCond .ne 5, 3) := by decide +kernel
theorem dX10_tone_28 : decode cX10_tone 28 = .ok (.iconst 0, 1) := by decide +kernel
theorem dX10_tone_29 : decode cX10_tone 29 = .ok (.ireturn, 1) := by decide +kernel
theorem dX10_tone_30 : decode cX10_tone 30 = .ok (.aload_n 0, 1) := by decide +kernel
theorem dX10_tone_31 : decode cX10_tone 31 = .ok (.getfield 22, 3) := by decide +kernel
theorem dX10_tone_34 : decode cX10_tone 34 = .ok (.iload_n 1, 1) := by decide +kernel
theorem dX10_tone_35 : decode cX10_tone 35 = .ok (.iload_n 2, 1) := by decide +kernel
theorem dX10_tone_36 : decode cX10_tone 36 = .ok (.iastore, 1) := by decide +kernel
theorem dX10_tone_37 : decode cX10_tone 37 = .ok (.aload_n 0, 1) := by decide +kernel
theorem dX10_tone_38 : decode cX10_tone 38 = .ok (.getfield 25, 3) := by decide +kernel
theorem dX10_tone_41 : decode cX10_tone 41 = .ok (.iload_n 1, 1) := by decide +kernel
theorem dX10_tone_42 : decode cX10_tone 42 = .ok (.iload_n 3, 1) := by decide +kernel
theorem dX10_tone_43 : decode cX10_tone 43 = .ok (.iastore, 1) := by decide +kernel
theorem dX10_tone_44 : decode cX10_tone 44 = .ok (.iconst 1, 1) := by decide +kernel
theorem dX10_tone_45 : decode cX10_tone 45 = .ok (.ireturn, 1) := by decide +kernel
theorem dX10_flaw_0 : decode cX10_flaw 0 = .ok (.aload_n 0, 1) := by decide +kernel
theorem dX10_flaw_1 : decode cX10_flaw 1 = .ok (.iload_n 1, 1) := by decide +kernel
theorem dX10_flaw_2 : decode cX10_flaw 2 = .ok (.iload_n 2, 1) := by decide +kernel
theorem dX10_flaw_3 : decode cX10_flaw 3 = .ok (.invokevirtual 182, 3) := by decide +kernel
theorem dX10_flaw_6 : decode cX10_flaw 6 = .ok (.ifCond .eq 57, 3) := by decide +kernel
theorem dX10_flaw_9 : decode cX10_flaw 9 = .ok (.iload_n 3, 1) := by decide +kernel
theorem dX10_flaw_10 : decode cX10_flaw 10 = .ok (.iconst 0, 1) := by decide +kernel
theorem dX10_flaw_11 : decode cX10_flaw 11 = .ok (.bipush 100, 2) := by decide +kernel
theorem dX10_flaw_13 : decode cX10_flaw 13 = .ok (.invokestatic 174, 3) := by decide +kernel
theorem dX10_flaw_16 : decode cX10_flaw 16 = .ok (.ifCond .eq 47, 3) := by decide +kernel
theorem dX10_flaw_19 : decode cX10_flaw 19 = .ok (.iload 4, 2) := by decide +kernel
theorem dX10_flaw_21 : decode cX10_flaw 21 = .ok (.iconst 0, 1) := by decide +kernel
theorem dX10_flaw_22 : decode cX10_flaw 22 = .ok (.bipush 100, 2) := by decide +kernel
theorem dX10_flaw_24 : decode cX10_flaw 24 = .ok (.invokestatic 174, 3) := by decide +kernel
theorem dX10_flaw_27 : decode cX10_flaw 27 = .ok (.ifCond .eq 36, 3) := by decide +kernel
theorem dX10_flaw_30 : decode cX10_flaw 30 = .ok (.iload 5, 2) := by decide +kernel
theorem dX10_flaw_32 : decode cX10_flaw 32 = .ok (.iconst 1, 1) := by decide +kernel
theorem dX10_flaw_33 : decode cX10_flaw 33 = .ok (.bipush 100, 2) := by decide +kernel
theorem dX10_flaw_35 : decode cX10_flaw 35 = .ok (.invokestatic 174, 3) := by decide +kernel
theorem dX10_flaw_38 : decode cX10_flaw 38 = .ok (.ifCond .eq 25, 3) := by decide +kernel
theorem dX10_flaw_41 : decode cX10_flaw 41 = .ok (.iload 6, 2) := by decide +kernel
theorem dX10_flaw_43 : decode cX10_flaw 43 = .ok (.iconst 1, 1) := by decide +kernel
theorem dX10_flaw_44 : decode cX10_flaw 44 = .ok (.bipush 100, 2) := by decide +kernel
theorem dX10_flaw_46 : decode cX10_flaw 46 = .ok (.invokestatic 174, 3) := by decide +kernel
theorem dX10_flaw_49 : decode cX10_flaw 49 = .ok (.ifCond .eq 14, 3) := by decide +kernel
theorem dX10_flaw_52 : decode cX10_flaw 52 = .ok (.aload_n 0, 1) := by decide +kernel
theorem dX10_flaw_53 : decode cX10_flaw 53 = .ok (.getfield 28, 3) := by decide +kernel
theorem dX10_flaw_56 : decode cX10_flaw 56 = .ok (.iload_n 1, 1) := by decide +kernel
theorem dX10_flaw_57 : decode cX10_flaw 57 = .ok (.iaload, 1) := by decide +kernel
theorem dX10_flaw_58 : decode cX10_flaw 58 = .ok (.bipush 10, 2) := by decide +kernel
theorem dX10_flaw_60 : decode cX10_flaw 60 = .ok (.if_icmp .ne 5, 3) := by decide +kernel
theorem dX10_flaw_63 : decode cX10_flaw 63 = .ok (.iconst (-1), 1) := by decide +kernel
theorem dX10_flaw_64 : decode cX10_flaw 64 = .ok (.ireturn, 1) := by decide +kernel
theorem dX10_flaw_65 : decode cX10_flaw 65 = .ok (.bipush 10, 2) := by decide +kernel
theorem dX10_flaw_67 : decode cX10_flaw 67 = .ok (.iload_n 1, 1) := by decide +kernel
theorem dX10_flaw_68 : decode cX10_flaw 68 = .ok (.imul, 1) := by decide +kernel
theorem dX10_flaw_69 : decode cX10_flaw 69 = .ok (.aload_n 0, 1) := by decide +kernel
theorem dX10_flaw_70 : decode cX10_flaw 70 = .ok (.getfield 28, 3) := by decide +kernel
theorem dX10_flaw_73 : decode cX10_flaw 73 = .ok (.iload_n 1, 1) := by decide +kernel
theorem dX10_flaw_74 : decode cX10_flaw 74 = .ok (.iaload, 1) := by decide +kernel
theorem dX10_flaw_75 : decode cX10_flaw 75 = .ok (.iadd, 1) := by decide +kernel
theorem dX10_flaw_76 : decode cX10_flaw 76 = .ok (.istore 7, 2) := by decide +kernel
theorem dX10_flaw_78 : decode cX10_flaw 78 = .ok (.aload_n 0, 1) := by decide +kernel
theorem dX10_flaw_79 : decode cX10_flaw 79 = .ok (.getfield 31, 3) := by decide +kernel
theorem dX10_flaw_82 : decode cX10_flaw 82 = .ok (.iload 7, 2) := by decide +kernel
theorem dX10_flaw_84 : decode cX10_flaw 84 = .ok (.iload_n 2, 1) := by decide +kernel
theorem dX10_flaw_85 : decode cX10_flaw 85 = .ok (.iastore, 1) := by decide +kernel
theorem dX10_flaw_86 : decode cX10_flaw 86 = .ok (.aload_n 0, 1) := by decide +kernel
theorem dX10_flaw_87 : decode cX10_flaw 87 = .ok (.getfield 34, 3) := by decide +kernel
theorem dX10_flaw_90 : decode cX10_flaw 90 = .ok (.iload 7, 2) := by decide +kernel
theorem dX10_flaw_92 : decode cX10_flaw 92 = .ok (.iload_n 2, 1) := by decide +kernel
theorem dX10_flaw_93 : decode cX10_flaw 93 = .ok (.iastore, 1) := by decide +kernel
theorem dX10_flaw_94 : decode cX10_flaw 94 = .ok (.aload_n 0, 1) := by decide +kernel
theorem dX10_flaw_95 : decode cX10_flaw 95 = .ok (.getfield 37, 3) := by decide +kernel
theorem dX10_flaw_98 : decode cX10_flaw 98 = .ok (.iload 7, 2) := by decide +kernel
theorem dX10_flaw_100 : decode cX10_flaw 100 = .ok (.iload_n 3, 1) := by decide +kernel
theorem dX10_flaw_101 : decode cX10_flaw 101 = .ok (.iastore, 1) := by decide +kernel
theorem dX10_flaw_102 : decode cX10_flaw 102 = .ok (.aload_n 0, 1) := by decide +kernel
theorem dX10_flaw_103 : decode cX10_flaw 103 = .ok (.getfield 40, 3) := by decide +kernel
theorem dX10_flaw_106 : decode cX10_flaw 106 = .ok (.iload 7, 2) := by decide +kernel
theorem dX10_flaw_108 : decode cX10_flaw 108 = .ok (.iload 4, 2) := by decide +kernel
theorem dX10_flaw_110 : decode cX10_flaw 110 = .ok (.iastore, 1) := by decide +kernel
theorem dX10_flaw_111 : decode cX10_flaw 111 = .ok (.aload_n 0, 1) := by decide +kernel
theorem dX10_flaw_112 : decode cX10_flaw 112 = .ok (.getfield 43, 3) := by decide +kernel
theorem dX10_flaw_115 : decode cX10_flaw 115 = .ok (.iload 7, 2) := by decide +kernel
theorem dX10_flaw_117 : decode cX10_flaw 117 = .ok (.iconst 0, 1) := by decide +kernel
theorem dX10_flaw_118 : decode cX10_flaw 118 = .ok (.iastore, 1) := by decide +kernel
theorem dX10_flaw_119 : decode cX10_flaw 119 = .ok (.aload_n 0, 1) := by decide +kernel
theorem dX10_flaw_120 : decode cX10_flaw 120 = .ok (.getfield 46, 3) := by decide +kernel
theorem dX10_flaw_123 : decode cX10_flaw 123 = .ok (.iload 7, 2) := by decide +kernel
theorem dX10_flaw_125 : decode cX10_flaw 125 = .ok (.iconst 0, 1) := by decide +kernel
theorem dX10_flaw_126 : decode cX10_flaw 126 = .ok (.iastore, 1) := by decide +kernel
theorem dX10_flaw_127 : decode cX10_flaw 127 = .ok (.aload_n 0, 1) := by decide +kernel
theorem dX10_flaw_128 : decode cX10_flaw 128 = .ok (.getfield 49, 3) := by decide +kernel
theorem dX10_flaw_131 : decode cX10_flaw 131 = .ok (.iload 7, 2) := by decide +kernel
theorem dX10_flaw_133 : decode cX10_flaw 133 = .ok (.iload 5, 2) := by decide +kernel
theorem dX10_flaw_135 : decode cX10_flaw 135 = .ok (.iastore, 1) := by decide +kernel
theorem dX10_flaw_136 : decode cX10_flaw 136 = .ok (.aload_n 0, 1) := by decide +kernel
theorem dX10_flaw_137 : decode cX10_flaw 137 = .ok (.getfield 52, 3) := by decide +kernel
theorem dX10_flaw_140 : decode cX10_flaw 140 = .ok (.iload 7, 2) := by decide +kernel
theorem dX10_flaw_142 : decode cX10_flaw 142 = .ok (.iload 6, 2) := by decide +kernel
theorem dX10_flaw_144 : decode cX10_flaw 144 = .ok (.iastore, 1) := by decide +kernel
theorem dX10_flaw_145 : decode cX10_flaw 145 = .ok (.aload_n 0, 1) := by decide +kernel
theorem dX10_flaw_146 : decode cX10_flaw 146 = .ok (.getfield 28, 3) := by decide +kernel
theorem dX10_flaw_149 : decode cX10_flaw 149 = .ok (.iload_n 1, 1) := by decide +kernel
theorem dX10_flaw_150 : decode cX10_flaw 150 = .ok (.dup2, 1) := by decide +kernel
theorem dX10_flaw_151 : decode cX10_flaw 151 = .ok (.iaload, 1) := by decide +kernel
theorem dX10_flaw_152 : decode cX10_flaw 152 = .ok (.iconst 1, 1) := by decide +kernel
theorem dX10_flaw_153 : decode cX10_flaw 153 = .ok (.iadd, 1) := by decide +kernel
theorem dX10_flaw_154 : decode cX10_flaw 154 = .ok (.iastore, 1) := by decide +kernel
theorem dX10_flaw_155 : decode cX10_flaw 155 = .ok (.aload_n 0, 1) := by decide +kernel
theorem dX10_flaw_156 : decode cX10_flaw 156 = .ok (.getfield 28, 3) := by decide +kernel
theorem dX10_flaw_159 : decode cX10_flaw 159 = .ok (.iload_n 1, 1) := by decide +kernel
theorem dX10_flaw_160 : decode cX10_flaw 160 = .ok (.iaload, 1) := by decide +kernel
theorem dX10_flaw_161 : decode cX10_flaw 161 = .ok (.iconst 1, 1) := by decide +kernel
theorem dX10_flaw_162 : decode cX10_flaw 162 = .ok (.isub, 1) := by decide +kernel
theorem dX10_flaw_163 : decode cX10_flaw 163 = .ok (.ireturn, 1) := by decide +kernel
theorem dX10_drift_0 : decode cX10_drift 0 = .ok (.aload_n 0, 1) := by decide +kernel
theorem dX10_drift_1 : decode cX10_drift 1 = .ok (.iload_n 1, 1) := by decide +kernel
theorem dX10_drift_2 : decode cX10_drift 2 = .ok (.iload_n 2, 1) := by decide +kernel
theorem dX10_drift_3 : decode cX10_drift 3 = .ok (.invokevirtual 182, 3) := by decide +kernel
theorem dX10_drift_6 : decode cX10_drift 6 = .ok (.ifCond .eq 35, 3) := by decide +kernel
theorem dX10_drift_9 : decode cX10_drift 9 = .ok (.aload_n 0, 1) := by decide +kernel
theorem dX10_drift_10 : decode cX10_drift 10 = .ok (.getfield 28, 3) := by decide +kernel
theorem dX10_drift_13 : decode cX10_drift 13 = .ok (.iload_n 1, 1) := by decide +kernel
theorem dX10_drift_14 : decode cX10_drift 14 = .ok (.iaload, 1) := by decide +kernel
theorem dX10_drift_15 : decode cX10_drift 15 = .ok (.ifCond .eq 26, 3) := by decide +kernel
theorem dX10_drift_18 : decode cX10_drift 18 = .ok (.iload_n 3, 1) := by decide +kernel
theorem dX10_drift_19 : decode cX10_drift 19 = .ok (.bipush (-20), 2) := by decide +kernel
theorem dX10_drift_21 : decode cX10_drift 21 = .ok (.bipush 20, 2) := by decide +kernel
theorem dX10_drift_23 : decode cX10_drift 23 = .ok (.invokestatic 174, 3) := by decide +kernel
theorem dX10_drift_26 : decode cX10_drift 26 = .ok (.ifCond .eq 15, 3) := by decide +kernel
theorem dX10_drift_29 : decode cX10_drift 29 = .ok (.iload 4, 2) := by decide +kernel
theorem dX10_drift_31 : decode cX10_drift 31 = .ok (.bipush (-20), 2) := by decide +kernel
theorem dX10_drift_33 : decode cX10_drift 33 = .ok (.bipush 20, 2) := by decide +kernel
theorem dX10_drift_35 : decode cX10_drift 35 = .ok (.invokestatic 174, 3) := by decide +kernel
theorem dX10_drift_38 : decode cX10_drift 38 = .ok (.ifCond .ne 5, 3) := by decide +kernel
theorem dX10_drift_41 : decode cX10_drift 41 = .ok (.iconst 0, 1) := by decide +kernel
theorem dX10_drift_42 : decode cX10_drift 42 = .ok (.ireturn, 1) := by decide +kernel
theorem dX10_drift_43 : decode cX10_drift 43 = .ok (.bipush 10, 2) := by decide +kernel
theorem dX10_drift_45 : decode cX10_drift 45 = .ok (.iload_n 1, 1) := by decide +kernel
theorem dX10_drift_46 : decode cX10_drift 46 = .ok (.imul, 1) := by decide +kernel
theorem dX10_drift_47 : decode cX10_drift 47 = .ok (.aload_n 0, 1) := by decide +kernel
theorem dX10_drift_48 : decode cX10_drift 48 = .ok (.getfield 28, 3) := by decide +kernel
theorem dX10_drift_51 : decode cX10_drift 51 = .ok (.iload_n 1, 1) := by decide +kernel
theorem dX10_drift_52 : decode cX10_drift 52 = .ok (.iaload, 1) := by decide +kernel
theorem dX10_drift_53 : decode cX10_drift 53 = .ok (.iadd, 1) := by decide +kernel
theorem dX10_drift_54 : decode cX10_drift 54 = .ok (.iconst 1, 1) := by decide +kernel
theorem dX10_drift_55 : decode cX10_drift 55 = .ok (.isub, 1) := by decide +kernel
theorem dX10_drift_56 : decode cX10_drift 56 = .ok (.istore 5, 2) := by decide +kernel
theorem dX10_drift_58 : decode cX10_drift 58 = .ok (.iload_n 2, 1) := by decide +kernel
theorem dX10_drift_59 : decode cX10_drift 59 = .ok (.aload_n 0, 1) := by decide +kernel
theorem dX10_drift_60 : decode cX10_drift 60 = .ok (.getfield 31, 3) := by decide +kernel
theorem dX10_drift_63 : decode cX10_drift 63 = .ok (.iload 5, 2) := by decide +kernel
theorem dX10_drift_65 : decode cX10_drift 65 = .ok (.iaload, 1) := by decide +kernel
theorem dX10_drift_66 : decode cX10_drift 66 = .ok (.if_icmp .ge 5, 3) := by decide +kernel
theorem dX10_drift_69 : decode cX10_drift 69 = .ok (.iconst 0, 1) := by decide +kernel
theorem dX10_drift_70 : decode cX10_drift 70 = .ok (.ireturn, 1) := by decide +kernel
theorem dX10_drift_71 : decode cX10_drift 71 = .ok (.aload_n 0, 1) := by decide +kernel
theorem dX10_drift_72 : decode cX10_drift 72 = .ok (.getfield 34, 3) := by decide +kernel
theorem dX10_drift_75 : decode cX10_drift 75 = .ok (.iload 5, 2) := by decide +kernel
theorem dX10_drift_77 : decode cX10_drift 77 = .ok (.iload_n 2, 1) := by decide +kernel
theorem dX10_drift_78 : decode cX10_drift 78 = .ok (.iastore, 1) := by decide +kernel
theorem dX10_drift_79 : decode cX10_drift 79 = .ok (.aload_n 0, 1) := by decide +kernel
theorem dX10_drift_80 : decode cX10_drift 80 = .ok (.getfield 43, 3) := by decide +kernel
theorem dX10_drift_83 : decode cX10_drift 83 = .ok (.iload 5, 2) := by decide +kernel
theorem dX10_drift_85 : decode cX10_drift 85 = .ok (.iload_n 3, 1) := by decide +kernel
theorem dX10_drift_86 : decode cX10_drift 86 = .ok (.iastore, 1) := by decide +kernel
theorem dX10_drift_87 : decode cX10_drift 87 = .ok (.aload_n 0, 1) := by decide +kernel
theorem dX10_drift_88 : decode cX10_drift 88 = .ok (.getfield 46, 3) := by decide +kernel
theorem dX10_drift_91 : decode cX10_drift 91 = .ok (.iload 5, 2) := by decide +kernel
theorem dX10_drift_93 : decode cX10_drift 93 = .ok (.iload 4, 2) := by decide +kernel
theorem dX10_drift_95 : decode cX10_drift 95 = .ok (.iastore, 1) := by decide +kernel
theorem dX10_drift_96 : decode cX10_drift 96 = .ok (.iconst 1, 1) := by decide +kernel
theorem dX10_drift_97 : decode cX10_drift 97 = .ok (.ireturn, 1) := by decide +kernel
theorem dX10_laps_0 : decode cX10_laps 0 = .ok (.iload_n 0, 1) := by decide +kernel
theorem dX10_laps_1 : decode cX10_laps 1 = .ok (.iload 4, 2) := by decide +kernel
theorem dX10_laps_3 : decode cX10_laps 3 = .ok (.iload 6, 2) := by decide +kernel
theorem dX10_laps_5 : decode cX10_laps 5 = .ok (.iadd, 1) := by decide +kernel
theorem dX10_laps_6 : decode cX10_laps 6 = .ok (.if_icmp .ge 32, 3) := by decide +kernel
theorem dX10_laps_9 : decode cX10_laps 9 = .ok (.iload 4, 2) := by decide +kernel
theorem dX10_laps_11 : decode cX10_laps 11 = .ok (.iload_n 0, 1) := by decide +kernel
theorem dX10_laps_12 : decode cX10_laps 12 = .ok (.iload_n 2, 1) := by decide +kernel
theorem dX10_laps_13 : decode cX10_laps 13 = .ok (.iadd, 1) := by decide +kernel
theorem dX10_laps_14 : decode cX10_laps 14 = .ok (.if_icmp .ge 24, 3) := by decide +kernel
theorem dX10_laps_17 : decode cX10_laps 17 = .ok (.iload_n 1, 1) := by decide +kernel
theorem dX10_laps_18 : decode cX10_laps 18 = .ok (.iload 5, 2) := by decide +kernel
theorem dX10_laps_20 : decode cX10_laps 20 = .ok (.iload 7, 2) := by decide +kernel
theorem dX10_laps_22 : decode cX10_laps 22 = .ok (.iadd, 1) := by decide +kernel
theorem dX10_laps_23 : decode cX10_laps 23 = .ok (.if_icmp .ge 15, 3) := by decide +kernel
theorem dX10_laps_26 : decode cX10_laps 26 = .ok (.iload 5, 2) := by decide +kernel
theorem dX10_laps_28 : decode cX10_laps 28 = .ok (.iload_n 1, 1) := by decide +kernel
theorem dX10_laps_29 : decode cX10_laps 29 = .ok (.iload_n 3, 1) := by decide +kernel
theorem dX10_laps_30 : decode cX10_laps 30 = .ok (.iadd, 1) := by decide +kernel
theorem dX10_laps_31 : decode cX10_laps 31 = .ok (.if_icmp .ge 7, 3) := by decide +kernel
theorem dX10_laps_34 : decode cX10_laps 34 = .ok (.iconst 1, 1) := by decide +kernel
theorem dX10_laps_35 : decode cX10_laps 35 = .ok (.goto 4, 3) := by decide +kernel
theorem dX10_laps_38 : decode cX10_laps 38 = .ok (.iconst 0, 1) := by decide +kernel
theorem dX10_laps_39 : decode cX10_laps 39 = .ok (.ireturn, 1) := by decide +kernel
theorem dX10_isFlawed_0 : decode cX10_isFlawed 0 = .ok (.iload_n 2, 1) := by decide +kernel
theorem dX10_isFlawed_1 : decode cX10_isFlawed 1 = .ok (.aload_n 0, 1) := by decide +kernel
theorem dX10_isFlawed_2 : decode cX10_isFlawed 2 = .ok (.getfield 31, 3) := by decide +kernel
theorem dX10_isFlawed_5 : decode cX10_isFlawed 5 = .ok (.iload_n 1, 1) := by decide +kernel
theorem dX10_isFlawed_6 : decode cX10_isFlawed 6 = .ok (.iaload, 1) := by decide +kernel
theorem dX10_isFlawed_7 : decode cX10_isFlawed 7 = .ok (.if_icmp .lt 13, 3) := by decide +kernel
theorem dX10_isFlawed_10 : decode cX10_isFlawed 10 = .ok (.iload_n 2, 1) := by decide +kernel
theorem dX10_isFlawed_11 : decode cX10_isFlawed 11 = .ok (.aload_n 0, 1) := by decide +kernel
theorem dX10_isFlawed_12 : decode cX10_isFlawed 12 = .ok (.getfield 34, 3) := by decide +kernel
theorem dX10_isFlawed_15 : decode cX10_isFlawed 15 = .ok (.iload_n 1, 1) := by decide +kernel
theorem dX10_isFlawed_16 : decode cX10_isFlawed 16 = .ok (.iaload, 1) := by decide +kernel
theorem dX10_isFlawed_17 : decode cX10_isFlawed 17 = .ok (.if_icmp .le 5, 3) := by decide +kernel
theorem dX10_isFlawed_20 : decode cX10_isFlawed 20 = .ok (.iconst 0, 1) := by decide +kernel
theorem dX10_isFlawed_21 : decode cX10_isFlawed 21 = .ok (.ireturn, 1) := by decide +kernel
theorem dX10_isFlawed_22 : decode cX10_isFlawed 22 = .ok (.iload_n 2, 1) := by decide +kernel
theorem dX10_isFlawed_23 : decode cX10_isFlawed 23 = .ok (.aload_n 0, 1) := by decide +kernel
theorem dX10_isFlawed_24 : decode cX10_isFlawed 24 = .ok (.getfield 31, 3) := by decide +kernel
theorem dX10_isFlawed_27 : decode cX10_isFlawed 27 = .ok (.iload_n 1, 1) := by decide +kernel
theorem dX10_isFlawed_28 : decode cX10_isFlawed 28 = .ok (.iaload, 1) := by decide +kernel
theorem dX10_isFlawed_29 : decode cX10_isFlawed 29 = .ok (.isub, 1) := by decide +kernel
theorem dX10_isFlawed_30 : decode cX10_isFlawed 30 = .ok (.istore 7, 2) := by decide +kernel
theorem dX10_isFlawed_32 : decode cX10_isFlawed 32 = .ok (.aload_n 0, 1) := by decide +kernel
theorem dX10_isFlawed_33 : decode cX10_isFlawed 33 = .ok (.getfield 37, 3) := by decide +kernel
theorem dX10_isFlawed_36 : decode cX10_isFlawed 36 = .ok (.iload_n 1, 1) := by decide +kernel
theorem dX10_isFlawed_37 : decode cX10_isFlawed 37 = .ok (.iaload, 1) := by decide +kernel
theorem dX10_isFlawed_38 : decode cX10_isFlawed 38 = .ok (.iload 7, 2) := by decide +kernel
theorem dX10_isFlawed_40 : decode cX10_isFlawed 40 = .ok (.aload_n 0, 1) := by decide +kernel
theorem dX10_isFlawed_41 : decode cX10_isFlawed 41 = .ok (.getfield 43, 3) := by decide +kernel
theorem dX10_isFlawed_44 : decode cX10_isFlawed 44 = .ok (.iload_n 1, 1) := by decide +kernel
theorem dX10_isFlawed_45 : decode cX10_isFlawed 45 = .ok (.iaload, 1) := by decide +kernel
theorem dX10_isFlawed_46 : decode cX10_isFlawed 46 = .ok (.imul, 1) := by decide +kernel
theorem dX10_isFlawed_47 : decode cX10_isFlawed 47 = .ok (.iadd, 1) := by decide +kernel
theorem dX10_isFlawed_48 : decode cX10_isFlawed 48 = .ok (.aload_n 0, 1) := by decide +kernel
theorem dX10_isFlawed_49 : decode cX10_isFlawed 49 = .ok (.getfield 40, 3) := by decide +kernel
theorem dX10_isFlawed_52 : decode cX10_isFlawed 52 = .ok (.iload_n 1, 1) := by decide +kernel
theorem dX10_isFlawed_53 : decode cX10_isFlawed 53 = .ok (.iaload, 1) := by decide +kernel
theorem dX10_isFlawed_54 : decode cX10_isFlawed 54 = .ok (.iload 7, 2) := by decide +kernel
theorem dX10_isFlawed_56 : decode cX10_isFlawed 56 = .ok (.aload_n 0, 1) := by decide +kernel
theorem dX10_isFlawed_57 : decode cX10_isFlawed 57 = .ok (.getfield 46, 3) := by decide +kernel
theorem dX10_isFlawed_60 : decode cX10_isFlawed 60 = .ok (.iload_n 1, 1) := by decide +kernel
theorem dX10_isFlawed_61 : decode cX10_isFlawed 61 = .ok (.iaload, 1) := by decide +kernel
theorem dX10_isFlawed_62 : decode cX10_isFlawed 62 = .ok (.imul, 1) := by decide +kernel
theorem dX10_isFlawed_63 : decode cX10_isFlawed 63 = .ok (.iadd, 1) := by decide +kernel
theorem dX10_isFlawed_64 : decode cX10_isFlawed 64 = .ok (.aload_n 0, 1) := by decide +kernel
theorem dX10_isFlawed_65 : decode cX10_isFlawed 65 = .ok (.getfield 49, 3) := by decide +kernel
theorem dX10_isFlawed_68 : decode cX10_isFlawed 68 = .ok (.iload_n 1, 1) := by decide +kernel
theorem dX10_isFlawed_69 : decode cX10_isFlawed 69 = .ok (.iaload, 1) := by decide +kernel
theorem dX10_isFlawed_70 : decode cX10_isFlawed 70 = .ok (.aload_n 0, 1) := by decide +kernel
theorem dX10_isFlawed_71 : decode cX10_isFlawed 71 = .ok (.getfield 52, 3) := by decide +kernel
theorem dX10_isFlawed_74 : decode cX10_isFlawed 74 = .ok (.iload_n 1, 1) := by decide +kernel
theorem dX10_isFlawed_75 : decode cX10_isFlawed 75 = .ok (.iaload, 1) := by decide +kernel
theorem dX10_isFlawed_76 : decode cX10_isFlawed 76 = .ok (.iload_n 3, 1) := by decide +kernel
theorem dX10_isFlawed_77 : decode cX10_isFlawed 77 = .ok (.iload 4, 2) := by decide +kernel
theorem dX10_isFlawed_79 : decode cX10_isFlawed 79 = .ok (.iload 5, 2) := by decide +kernel
theorem dX10_isFlawed_81 : decode cX10_isFlawed 81 = .ok (.iload 6, 2) := by decide +kernel
theorem dX10_isFlawed_83 : decode cX10_isFlawed 83 = .ok (.invokestatic 186, 3) := by decide +kernel
theorem dX10_isFlawed_86 : decode cX10_isFlawed 86 = .ok (.ireturn, 1) := by decide +kernel
theorem dX10_leaf_0 : decode cX10_leaf 0 = .ok (.aload_n 0, 1) := by decide +kernel
theorem dX10_leaf_1 : decode cX10_leaf 1 = .ok (.iload_n 1, 1) := by decide +kernel
theorem dX10_leaf_2 : decode cX10_leaf 2 = .ok (.iload_n 2, 1) := by decide +kernel
theorem dX10_leaf_3 : decode cX10_leaf 3 = .ok (.invokevirtual 182, 3) := by decide +kernel
theorem dX10_leaf_6 : decode cX10_leaf 6 = .ok (.ifCond .ne 7, 3) := by decide +kernel
theorem dX10_leaf_9 : decode cX10_leaf 9 = .ok (.sipush (-1000), 3) := by decide +kernel
theorem dX10_leaf_12 : decode cX10_leaf 12 = .ok (.ireturn, 1) := by decide +kernel
theorem dX10_leaf_13 : decode cX10_leaf 13 = .ok (.iconst 0, 1) := by decide +kernel
theorem dX10_leaf_14 : decode cX10_leaf 14 = .ok (.istore 4, 2) := by decide +kernel
theorem dX10_leaf_16 : decode cX10_leaf 16 = .ok (.iload_n 3, 1) := by decide +kernel
theorem dX10_leaf_17 : decode cX10_leaf 17 = .ok (.tableswitch 197 0 5 #[39, 46, 53, 108, 163, 180], 39) := by decide +kernel
theorem dX10_leaf_56 : decode cX10_leaf 56 = .ok (.aload_n 0, 1) := by decide +kernel
theorem dX10_leaf_57 : decode cX10_leaf 57 = .ok (.iload_n 1, 1) := by decide +kernel
theorem dX10_leaf_58 : decode cX10_leaf 58 = .ok (.iload_n 2, 1) := by decide +kernel
theorem dX10_leaf_59 : decode cX10_leaf 59 = .ok (.invokevirtual 190, 3) := by decide +kernel
theorem dX10_leaf_62 : decode cX10_leaf 62 = .ok (.ireturn, 1) := by decide +kernel
theorem dX10_leaf_63 : decode cX10_leaf 63 = .ok (.aload_n 0, 1) := by decide +kernel
theorem dX10_leaf_64 : decode cX10_leaf 64 = .ok (.iload_n 1, 1) := by decide +kernel
theorem dX10_leaf_65 : decode cX10_leaf 65 = .ok (.iload_n 2, 1) := by decide +kernel
theorem dX10_leaf_66 : decode cX10_leaf 66 = .ok (.invokevirtual 194, 3) := by decide +kernel
theorem dX10_leaf_69 : decode cX10_leaf 69 = .ok (.ireturn, 1) := by decide +kernel
theorem dX10_leaf_70 : decode cX10_leaf 70 = .ok (.iconst 0, 1) := by decide +kernel
theorem dX10_leaf_71 : decode cX10_leaf 71 = .ok (.istore 5, 2) := by decide +kernel
theorem dX10_leaf_73 : decode cX10_leaf 73 = .ok (.iload 5, 2) := by decide +kernel
theorem dX10_leaf_75 : decode cX10_leaf 75 = .ok (.aload_n 0, 1) := by decide +kernel
theorem dX10_leaf_76 : decode cX10_leaf 76 = .ok (.getfield 28, 3) := by decide +kernel
theorem dX10_leaf_79 : decode cX10_leaf 79 = .ok (.iload_n 1, 1) := by decide +kernel
theorem dX10_leaf_80 : decode cX10_leaf 80 = .ok (.iaload, 1) := by decide +kernel
theorem dX10_leaf_81 : decode cX10_leaf 81 = .ok (.if_icmp .ge 41, 3) := by decide +kernel
theorem dX10_leaf_84 : decode cX10_leaf 84 = .ok (.aload_n 0, 1) := by decide +kernel
theorem dX10_leaf_85 : decode cX10_leaf 85 = .ok (.bipush 10, 2) := by decide +kernel
theorem dX10_leaf_87 : decode cX10_leaf 87 = .ok (.iload_n 1, 1) := by decide +kernel
theorem dX10_leaf_88 : decode cX10_leaf 88 = .ok (.imul, 1) := by decide +kernel
theorem dX10_leaf_89 : decode cX10_leaf 89 = .ok (.iload 5, 2) := by decide +kernel
theorem dX10_leaf_91 : decode cX10_leaf 91 = .ok (.iadd, 1) := by decide +kernel
theorem dX10_leaf_92 : decode cX10_leaf 92 = .ok (.iload_n 2, 1) := by decide +kernel
theorem dX10_leaf_93 : decode cX10_leaf 93 = .ok (.iconst 0, 1) := by decide +kernel
theorem dX10_leaf_94 : decode cX10_leaf 94 = .ok (.iconst 0, 1) := by decide +kernel
theorem dX10_leaf_95 : decode cX10_leaf 95 = .ok (.aload_n 0, 1) := by decide +kernel
theorem dX10_leaf_96 : decode cX10_leaf 96 = .ok (.iload_n 1, 1) := by decide +kernel
theorem dX10_leaf_97 : decode cX10_leaf 97 = .ok (.iload_n 2, 1) := by decide +kernel
theorem dX10_leaf_98 : decode cX10_leaf 98 = .ok (.invokevirtual 190, 3) := by decide +kernel
theorem dX10_leaf_101 : decode cX10_leaf 101 = .ok (.aload_n 0, 1) := by decide +kernel
theorem dX10_leaf_102 : decode cX10_leaf 102 = .ok (.getfield 13, 3) := by decide +kernel
theorem dX10_leaf_105 : decode cX10_leaf 105 = .ok (.iload_n 1, 1) := by decide +kernel
theorem dX10_leaf_106 : decode cX10_leaf 106 = .ok (.iaload, 1) := by decide +kernel
theorem dX10_leaf_107 : decode cX10_leaf 107 = .ok (.invokevirtual 197, 3) := by decide +kernel
theorem dX10_leaf_110 : decode cX10_leaf 110 = .ok (.ifCond .eq 6, 3) := by decide +kernel
theorem dX10_leaf_113 : decode cX10_leaf 113 = .ok (.iinc 4 1, 3) := by decide +kernel
theorem dX10_leaf_116 : decode cX10_leaf 116 = .ok (.iinc 5 1, 3) := by decide +kernel
theorem dX10_leaf_119 : decode cX10_leaf 119 = .ok (.goto (-46), 3) := by decide +kernel
theorem dX10_leaf_122 : decode cX10_leaf 122 = .ok (.iload 4, 2) := by decide +kernel
theorem dX10_leaf_124 : decode cX10_leaf 124 = .ok (.ireturn, 1) := by decide +kernel
theorem dX10_leaf_125 : decode cX10_leaf 125 = .ok (.iconst 0, 1) := by decide +kernel
theorem dX10_leaf_126 : decode cX10_leaf 126 = .ok (.istore 5, 2) := by decide +kernel
theorem dX10_leaf_128 : decode cX10_leaf 128 = .ok (.iload 5, 2) := by decide +kernel
theorem dX10_leaf_130 : decode cX10_leaf 130 = .ok (.aload_n 0, 1) := by decide +kernel
theorem dX10_leaf_131 : decode cX10_leaf 131 = .ok (.getfield 171, 3) := by decide +kernel
theorem dX10_leaf_134 : decode cX10_leaf 134 = .ok (.if_icmp .ge 43, 3) := by decide +kernel
theorem dX10_leaf_137 : decode cX10_leaf 137 = .ok (.aload_n 0, 1) := by decide +kernel
theorem dX10_leaf_138 : decode cX10_leaf 138 = .ok (.getfield 55, 3) := by decide +kernel
theorem dX10_leaf_141 : decode cX10_leaf 141 = .ok (.iload 5, 2) := by decide +kernel
theorem dX10_leaf_143 : decode cX10_leaf 143 = .ok (.iaload, 1) := by decide +kernel
theorem dX10_leaf_144 : decode cX10_leaf 144 = .ok (.iload_n 1, 1) := by decide +kernel
theorem dX10_leaf_145 : decode cX10_leaf 145 = .ok (.if_icmp .ne 26, 3) := by decide +kernel
theorem dX10_leaf_148 : decode cX10_leaf 148 = .ok (.aload_n 0, 1) := by decide +kernel
theorem dX10_leaf_149 : decode cX10_leaf 149 = .ok (.getfield 58, 3) := by decide +kernel
theorem dX10_leaf_152 : decode cX10_leaf 152 = .ok (.iload 5, 2) := by decide +kernel
theorem dX10_leaf_154 : decode cX10_leaf 154 = .ok (.iaload, 1) := by decide +kernel
theorem dX10_leaf_155 : decode cX10_leaf 155 = .ok (.iload_n 2, 1) := by decide +kernel
theorem dX10_leaf_156 : decode cX10_leaf 156 = .ok (.if_icmp .ne 15, 3) := by decide +kernel
theorem dX10_leaf_159 : decode cX10_leaf 159 = .ok (.iload 4, 2) := by decide +kernel
theorem dX10_leaf_161 : decode cX10_leaf 161 = .ok (.aload_n 0, 1) := by decide +kernel
theorem dX10_leaf_162 : decode cX10_leaf 162 = .ok (.getfield 73, 3) := by decide +kernel
theorem dX10_leaf_165 : decode cX10_leaf 165 = .ok (.iload 5, 2) := by decide +kernel
theorem dX10_leaf_167 : decode cX10_leaf 167 = .ok (.iaload, 1) := by decide +kernel
theorem dX10_leaf_168 : decode cX10_leaf 168 = .ok (.iadd, 1) := by decide +kernel
theorem dX10_leaf_169 : decode cX10_leaf 169 = .ok (.istore 4, 2) := by decide +kernel
theorem dX10_leaf_171 : decode cX10_leaf 171 = .ok (.iinc 5 1, 3) := by decide +kernel
theorem dX10_leaf_174 : decode cX10_leaf 174 = .ok (.goto (-46), 3) := by decide +kernel
theorem dX10_leaf_177 : decode cX10_leaf 177 = .ok (.iload 4, 2) := by decide +kernel
theorem dX10_leaf_179 : decode cX10_leaf 179 = .ok (.ireturn, 1) := by decide +kernel
theorem dX10_leaf_180 : decode cX10_leaf 180 = .ok (.iload_n 2, 1) := by decide +kernel
theorem dX10_leaf_181 : decode cX10_leaf 181 = .ok (.ifCond .ne 12, 3) := by decide +kernel
theorem dX10_leaf_184 : decode cX10_leaf 184 = .ok (.aload_n 0, 1) := by decide +kernel
theorem dX10_leaf_185 : decode cX10_leaf 185 = .ok (.getfield 7, 3) := by decide +kernel
theorem dX10_leaf_188 : decode cX10_leaf 188 = .ok (.iload_n 1, 1) := by decide +kernel
theorem dX10_leaf_189 : decode cX10_leaf 189 = .ok (.iaload, 1) := by decide +kernel
theorem dX10_leaf_190 : decode cX10_leaf 190 = .ok (.goto 6, 3) := by decide +kernel
theorem dX10_leaf_193 : decode cX10_leaf 193 = .ok (.sipush (-1000), 3) := by decide +kernel
theorem dX10_leaf_196 : decode cX10_leaf 196 = .ok (.ireturn, 1) := by decide +kernel
theorem dX10_leaf_197 : decode cX10_leaf 197 = .ok (.iload_n 2, 1) := by decide +kernel
theorem dX10_leaf_198 : decode cX10_leaf 198 = .ok (.ifCond .ne 12, 3) := by decide +kernel
theorem dX10_leaf_201 : decode cX10_leaf 201 = .ok (.aload_n 0, 1) := by decide +kernel
theorem dX10_leaf_202 : decode cX10_leaf 202 = .ok (.getfield 13, 3) := by decide +kernel
theorem dX10_leaf_205 : decode cX10_leaf 205 = .ok (.iload_n 1, 1) := by decide +kernel
theorem dX10_leaf_206 : decode cX10_leaf 206 = .ok (.iaload, 1) := by decide +kernel
theorem dX10_leaf_207 : decode cX10_leaf 207 = .ok (.goto 6, 3) := by decide +kernel
theorem dX10_leaf_210 : decode cX10_leaf 210 = .ok (.sipush (-1000), 3) := by decide +kernel
theorem dX10_leaf_213 : decode cX10_leaf 213 = .ok (.ireturn, 1) := by decide +kernel
theorem dX10_leaf_214 : decode cX10_leaf 214 = .ok (.sipush (-1000), 3) := by decide +kernel
theorem dX10_leaf_217 : decode cX10_leaf 217 = .ok (.ireturn, 1) := by decide +kernel
theorem dX10_flawIn_0 : decode cX10_flawIn 0 = .ok (.iconst 0, 1) := by decide +kernel
theorem dX10_flawIn_1 : decode cX10_flawIn 1 = .ok (.istore 7, 2) := by decide +kernel
theorem dX10_flawIn_3 : decode cX10_flawIn 3 = .ok (.iload 7, 2) := by decide +kernel
theorem dX10_flawIn_5 : decode cX10_flawIn 5 = .ok (.aload_n 0, 1) := by decide +kernel
theorem dX10_flawIn_6 : decode cX10_flawIn 6 = .ok (.getfield 28, 3) := by decide +kernel
theorem dX10_flawIn_9 : decode cX10_flawIn 9 = .ok (.iload_n 1, 1) := by decide +kernel
theorem dX10_flawIn_10 : decode cX10_flawIn 10 = .ok (.iaload, 1) := by decide +kernel
theorem dX10_flawIn_11 : decode cX10_flawIn 11 = .ok (.if_icmp .ge 34, 3) := by decide +kernel
theorem dX10_flawIn_14 : decode cX10_flawIn 14 = .ok (.aload_n 0, 1) := by decide +kernel
theorem dX10_flawIn_15 : decode cX10_flawIn 15 = .ok (.bipush 10, 2) := by decide +kernel
theorem dX10_flawIn_17 : decode cX10_flawIn 17 = .ok (.iload_n 1, 1) := by decide +kernel
theorem dX10_flawIn_18 : decode cX10_flawIn 18 = .ok (.imul, 1) := by decide +kernel
theorem dX10_flawIn_19 : decode cX10_flawIn 19 = .ok (.iload 7, 2) := by decide +kernel
theorem dX10_flawIn_21 : decode cX10_flawIn 21 = .ok (.iadd, 1) := by decide +kernel
theorem dX10_flawIn_22 : decode cX10_flawIn 22 = .ok (.iload_n 2, 1) := by decide +kernel
theorem dX10_flawIn_23 : decode cX10_flawIn 23 = .ok (.iload_n 3, 1) := by decide +kernel
theorem dX10_flawIn_24 : decode cX10_flawIn 24 = .ok (.iload 4, 2) := by decide +kernel
theorem dX10_flawIn_26 : decode cX10_flawIn 26 = .ok (.iload 5, 2) := by decide +kernel
theorem dX10_flawIn_28 : decode cX10_flawIn 28 = .ok (.iload 6, 2) := by decide +kernel
theorem dX10_flawIn_30 : decode cX10_flawIn 30 = .ok (.invokevirtual 197, 3) := by decide +kernel
theorem dX10_flawIn_33 : decode cX10_flawIn 33 = .ok (.ifCond .eq 6, 3) := by decide +kernel
theorem dX10_flawIn_36 : decode cX10_flawIn 36 = .ok (.iload 7, 2) := by decide +kernel
theorem dX10_flawIn_38 : decode cX10_flawIn 38 = .ok (.ireturn, 1) := by decide +kernel
theorem dX10_flawIn_39 : decode cX10_flawIn 39 = .ok (.iinc 7 1, 3) := by decide +kernel
theorem dX10_flawIn_42 : decode cX10_flawIn 42 = .ok (.goto (-39), 3) := by decide +kernel
theorem dX10_flawIn_45 : decode cX10_flawIn 45 = .ok (.iconst (-1), 1) := by decide +kernel
theorem dX10_flawIn_46 : decode cX10_flawIn 46 = .ok (.ireturn, 1) := by decide +kernel
theorem dX10_isCut_0 : decode cX10_isCut 0 = .ok (.iconst 0, 1) := by decide +kernel
theorem dX10_isCut_1 : decode cX10_isCut 1 = .ok (.istore 7, 2) := by decide +kernel
theorem dX10_isCut_3 : decode cX10_isCut 3 = .ok (.iload 7, 2) := by decide +kernel
theorem dX10_isCut_5 : decode cX10_isCut 5 = .ok (.aload_n 0, 1) := by decide +kernel
theorem dX10_isCut_6 : decode cX10_isCut 6 = .ok (.getfield 171, 3) := by decide +kernel
theorem dX10_isCut_9 : decode cX10_isCut 9 = .ok (.if_icmp .ge 74, 3) := by decide +kernel
theorem dX10_isCut_12 : decode cX10_isCut 12 = .ok (.aload_n 0, 1) := by decide +kernel
theorem dX10_isCut_13 : decode cX10_isCut 13 = .ok (.getfield 55, 3) := by decide +kernel
theorem dX10_isCut_16 : decode cX10_isCut 16 = .ok (.iload 7, 2) := by decide +kernel
theorem dX10_isCut_18 : decode cX10_isCut 18 = .ok (.iaload, 1) := by decide +kernel
theorem dX10_isCut_19 : decode cX10_isCut 19 = .ok (.iload_n 1, 1) := by decide +kernel
theorem dX10_isCut_20 : decode cX10_isCut 20 = .ok (.if_icmp .ne 57, 3) := by decide +kernel
theorem dX10_isCut_23 : decode cX10_isCut 23 = .ok (.aload_n 0, 1) := by decide +kernel
theorem dX10_isCut_24 : decode cX10_isCut 24 = .ok (.getfield 58, 3) := by decide +kernel
theorem dX10_isCut_27 : decode cX10_isCut 27 = .ok (.iload 7, 2) := by decide +kernel
theorem dX10_isCut_29 : decode cX10_isCut 29 = .ok (.iaload, 1) := by decide +kernel
theorem dX10_isCut_30 : decode cX10_isCut 30 = .ok (.iload_n 2, 1) := by decide +kernel
theorem dX10_isCut_31 : decode cX10_isCut 31 = .ok (.if_icmp .ne 46, 3) := by decide +kernel
theorem dX10_isCut_34 : decode cX10_isCut 34 = .ok (.aload_n 0, 1) := by decide +kernel
theorem dX10_isCut_35 : decode cX10_isCut 35 = .ok (.getfield 61, 3) := by decide +kernel
theorem dX10_isCut_38 : decode cX10_isCut 38 = .ok (.iload 7, 2) := by decide +kernel
theorem dX10_isCut_40 : decode cX10_isCut 40 = .ok (.iaload, 1) := by decide +kernel
theorem dX10_isCut_41 : decode cX10_isCut 41 = .ok (.aload_n 0, 1) := by decide +kernel
theorem dX10_isCut_42 : decode cX10_isCut 42 = .ok (.getfield 64, 3) := by decide +kernel
theorem dX10_isCut_45 : decode cX10_isCut 45 = .ok (.iload 7, 2) := by decide +kernel
theorem dX10_isCut_47 : decode cX10_isCut 47 = .ok (.iaload, 1) := by decide +kernel
theorem dX10_isCut_48 : decode cX10_isCut 48 = .ok (.aload_n 0, 1) := by decide +kernel
theorem dX10_isCut_49 : decode cX10_isCut 49 = .ok (.getfield 67, 3) := by decide +kernel
theorem dX10_isCut_52 : decode cX10_isCut 52 = .ok (.iload 7, 2) := by decide +kernel
theorem dX10_isCut_54 : decode cX10_isCut 54 = .ok (.iaload, 1) := by decide +kernel
theorem dX10_isCut_55 : decode cX10_isCut 55 = .ok (.aload_n 0, 1) := by decide +kernel
theorem dX10_isCut_56 : decode cX10_isCut 56 = .ok (.getfield 70, 3) := by decide +kernel
theorem dX10_isCut_59 : decode cX10_isCut 59 = .ok (.iload 7, 2) := by decide +kernel
theorem dX10_isCut_61 : decode cX10_isCut 61 = .ok (.iaload, 1) := by decide +kernel
theorem dX10_isCut_62 : decode cX10_isCut 62 = .ok (.iload_n 3, 1) := by decide +kernel
theorem dX10_isCut_63 : decode cX10_isCut 63 = .ok (.iload 4, 2) := by decide +kernel
theorem dX10_isCut_65 : decode cX10_isCut 65 = .ok (.iload 5, 2) := by decide +kernel
theorem dX10_isCut_67 : decode cX10_isCut 67 = .ok (.iload 6, 2) := by decide +kernel
theorem dX10_isCut_69 : decode cX10_isCut 69 = .ok (.invokestatic 186, 3) := by decide +kernel
theorem dX10_isCut_72 : decode cX10_isCut 72 = .ok (.ifCond .eq 5, 3) := by decide +kernel
theorem dX10_isCut_75 : decode cX10_isCut 75 = .ok (.iconst 1, 1) := by decide +kernel
theorem dX10_isCut_76 : decode cX10_isCut 76 = .ok (.ireturn, 1) := by decide +kernel
theorem dX10_isCut_77 : decode cX10_isCut 77 = .ok (.iinc 7 1, 3) := by decide +kernel
theorem dX10_isCut_80 : decode cX10_isCut 80 = .ok (.goto (-77), 3) := by decide +kernel
theorem dX10_isCut_83 : decode cX10_isCut 83 = .ok (.iconst 0, 1) := by decide +kernel
theorem dX10_isCut_84 : decode cX10_isCut 84 = .ok (.ireturn, 1) := by decide +kernel
theorem dX10_isWithin_0 : decode cX10_isWithin 0 = .ok (.lload_n 3, 1) := by decide +kernel
theorem dX10_isWithin_1 : decode cX10_isWithin 1 = .ok (.lconst 0, 1) := by decide +kernel
theorem dX10_isWithin_2 : decode cX10_isWithin 2 = .ok (.lcmp, 1) := by decide +kernel
theorem dX10_isWithin_3 : decode cX10_isWithin 3 = .ok (.ifCond .lt 47, 3) := by decide +kernel
theorem dX10_isWithin_6 : decode cX10_isWithin 6 = .ok (.lload 5, 2) := by decide +kernel
theorem dX10_isWithin_8 : decode cX10_isWithin 8 = .ok (.lconst 0, 1) := by decide +kernel
theorem dX10_isWithin_9 : decode cX10_isWithin 9 = .ok (.lcmp, 1) := by decide +kernel
theorem dX10_isWithin_10 : decode cX10_isWithin 10 = .ok (.ifCond .lt 40, 3) := by decide +kernel
theorem dX10_isWithin_13 : decode cX10_isWithin 13 = .ok (.lload_n 3, 1) := by decide +kernel
theorem dX10_isWithin_14 : decode cX10_isWithin 14 = .ok (.iload 7, 2) := by decide +kernel
theorem dX10_isWithin_16 : decode cX10_isWithin 16 = .ok (.i2l, 1) := by decide +kernel
theorem dX10_isWithin_17 : decode cX10_isWithin 17 = .ok (.ladd, 1) := by decide +kernel
theorem dX10_isWithin_18 : decode cX10_isWithin 18 = .ok (.aload_n 0, 1) := by decide +kernel
theorem dX10_isWithin_19 : decode cX10_isWithin 19 = .ok (.iload_n 1, 1) := by decide +kernel
theorem dX10_isWithin_20 : decode cX10_isWithin 20 = .ok (.iload_n 2, 1) := by decide +kernel
theorem dX10_isWithin_21 : decode cX10_isWithin 21 = .ok (.invokevirtual 190, 3) := by decide +kernel
theorem dX10_isWithin_24 : decode cX10_isWithin 24 = .ok (.i2l, 1) := by decide +kernel
theorem dX10_isWithin_25 : decode cX10_isWithin 25 = .ok (.lcmp, 1) := by decide +kernel
theorem dX10_isWithin_26 : decode cX10_isWithin 26 = .ok (.ifCond .gt 24, 3) := by decide +kernel
theorem dX10_isWithin_29 : decode cX10_isWithin 29 = .ok (.lload 5, 2) := by decide +kernel
theorem dX10_isWithin_31 : decode cX10_isWithin 31 = .ok (.iload 8, 2) := by decide +kernel
theorem dX10_isWithin_33 : decode cX10_isWithin 33 = .ok (.i2l, 1) := by decide +kernel
theorem dX10_isWithin_34 : decode cX10_isWithin 34 = .ok (.ladd, 1) := by decide +kernel
theorem dX10_isWithin_35 : decode cX10_isWithin 35 = .ok (.aload_n 0, 1) := by decide +kernel
theorem dX10_isWithin_36 : decode cX10_isWithin 36 = .ok (.getfield 13, 3) := by decide +kernel
theorem dX10_isWithin_39 : decode cX10_isWithin 39 = .ok (.iload_n 1, 1) := by decide +kernel
theorem dX10_isWithin_40 : decode cX10_isWithin 40 = .ok (.iaload, 1) := by decide +kernel
theorem dX10_isWithin_41 : decode cX10_isWithin 41 = .ok (.i2l, 1) := by decide +kernel
theorem dX10_isWithin_42 : decode cX10_isWithin 42 = .ok (.lcmp, 1) := by decide +kernel
theorem dX10_isWithin_43 : decode cX10_isWithin 43 = .ok (.ifCond .gt 7, 3) := by decide +kernel
theorem dX10_isWithin_46 : decode cX10_isWithin 46 = .ok (.iconst 1, 1) := by decide +kernel
theorem dX10_isWithin_47 : decode cX10_isWithin 47 = .ok (.goto 4, 3) := by decide +kernel
theorem dX10_isWithin_50 : decode cX10_isWithin 50 = .ok (.iconst 0, 1) := by decide +kernel
theorem dX10_isWithin_51 : decode cX10_isWithin 51 = .ok (.ireturn, 1) := by decide +kernel
theorem dX10_hit_0 : decode cX10_hit 0 = .ok (.aload_n 0, 1) := by decide +kernel
theorem dX10_hit_1 : decode cX10_hit 1 = .ok (.iload_n 1, 1) := by decide +kernel
theorem dX10_hit_2 : decode cX10_hit 2 = .ok (.iload_n 2, 1) := by decide +kernel
theorem dX10_hit_3 : decode cX10_hit 3 = .ok (.invokevirtual 182, 3) := by decide +kernel
theorem dX10_hit_6 : decode cX10_hit 6 = .ok (.ifCond .eq 25, 3) := by decide +kernel
theorem dX10_hit_9 : decode cX10_hit 9 = .ok (.iload 5, 2) := by decide +kernel
theorem dX10_hit_11 : decode cX10_hit 11 = .ok (.iconst 1, 1) := by decide +kernel
theorem dX10_hit_12 : decode cX10_hit 12 = .ok (.bipush 100, 2) := by decide +kernel
theorem dX10_hit_14 : decode cX10_hit 14 = .ok (.invokestatic 174, 3) := by decide +kernel
theorem dX10_hit_17 : decode cX10_hit 17 = .ok (.ifCond .eq 14, 3) := by decide +kernel
theorem dX10_hit_20 : decode cX10_hit 20 = .ok (.iload 6, 2) := by decide +kernel
theorem dX10_hit_22 : decode cX10_hit 22 = .ok (.iconst 1, 1) := by decide +kernel
theorem dX10_hit_23 : decode cX10_hit 23 = .ok (.bipush 100, 2) := by decide +kernel
theorem dX10_hit_25 : decode cX10_hit 25 = .ok (.invokestatic 174, 3) := by decide +kernel
theorem dX10_hit_28 : decode cX10_hit 28 = .ok (.ifCond .ne 6, 3) := by decide +kernel
theorem dX10_hit_31 : decode cX10_hit 31 = .ok (.bipush (-2), 2) := by decide +kernel
theorem dX10_hit_33 : decode cX10_hit 33 = .ok (.ireturn, 1) := by decide +kernel
theorem dX10_hit_34 : decode cX10_hit 34 = .ok (.aload_n 0, 1) := by decide +kernel
theorem dX10_hit_35 : decode cX10_hit 35 = .ok (.iload_n 1, 1) := by decide +kernel
theorem dX10_hit_36 : decode cX10_hit 36 = .ok (.iload_n 2, 1) := by decide +kernel
theorem dX10_hit_37 : decode cX10_hit 37 = .ok (.iload_n 3, 1) := by decide +kernel
theorem dX10_hit_38 : decode cX10_hit 38 = .ok (.i2l, 1) := by decide +kernel
theorem dX10_hit_39 : decode cX10_hit 39 = .ok (.iload 4, 2) := by decide +kernel
theorem dX10_hit_41 : decode cX10_hit 41 = .ok (.i2l, 1) := by decide +kernel
theorem dX10_hit_42 : decode cX10_hit 42 = .ok (.iload 5, 2) := by decide +kernel
theorem dX10_hit_44 : decode cX10_hit 44 = .ok (.iload 6, 2) := by decide +kernel
theorem dX10_hit_46 : decode cX10_hit 46 = .ok (.invokevirtual 201, 3) := by decide +kernel
theorem dX10_hit_49 : decode cX10_hit 49 = .ok (.ifCond .eq 19, 3) := by decide +kernel
theorem dX10_hit_52 : decode cX10_hit 52 = .ok (.aload_n 0, 1) := by decide +kernel
theorem dX10_hit_53 : decode cX10_hit 53 = .ok (.iload_n 1, 1) := by decide +kernel
theorem dX10_hit_54 : decode cX10_hit 54 = .ok (.iload_n 2, 1) := by decide +kernel
theorem dX10_hit_55 : decode cX10_hit 55 = .ok (.iload_n 3, 1) := by decide +kernel
theorem dX10_hit_56 : decode cX10_hit 56 = .ok (.iload 4, 2) := by decide +kernel
theorem dX10_hit_58 : decode cX10_hit 58 = .ok (.iload 5, 2) := by decide +kernel
theorem dX10_hit_60 : decode cX10_hit 60 = .ok (.iload 6, 2) := by decide +kernel
theorem dX10_hit_62 : decode cX10_hit 62 = .ok (.invokevirtual 205, 3) := by decide +kernel
theorem dX10_hit_65 : decode cX10_hit 65 = .ok (.goto 5, 3) := by decide +kernel
theorem dX10_hit_68 : decode cX10_hit 68 = .ok (.bipush (-3), 2) := by decide +kernel
theorem dX10_hit_70 : decode cX10_hit 70 = .ok (.ireturn, 1) := by decide +kernel
theorem dX10_feed_0 : decode cX10_feed 0 = .ok (.aload_n 0, 1) := by decide +kernel
theorem dX10_feed_1 : decode cX10_feed 1 = .ok (.getfield 209, 3) := by decide +kernel
theorem dX10_feed_4 : decode cX10_feed 4 = .ok (.bipush 20, 2) := by decide +kernel
theorem dX10_feed_6 : decode cX10_feed 6 = .ok (.iadd, 1) := by decide +kernel
theorem dX10_feed_7 : decode cX10_feed 7 = .ok (.sipush 400, 3) := by decide +kernel
theorem dX10_feed_10 : decode cX10_feed 10 = .ok (.if_icmp .le 5, 3) := by decide +kernel
theorem dX10_feed_13 : decode cX10_feed 13 = .ok (.iconst (-1), 1) := by decide +kernel
theorem dX10_feed_14 : decode cX10_feed 14 = .ok (.ireturn, 1) := by decide +kernel
theorem dX10_feed_15 : decode cX10_feed 15 = .ok (.iconst 0, 1) := by decide +kernel
theorem dX10_feed_16 : decode cX10_feed 16 = .ok (.istore 6, 2) := by decide +kernel
theorem dX10_feed_18 : decode cX10_feed 18 = .ok (.iload 6, 2) := by decide +kernel
theorem dX10_feed_20 : decode cX10_feed 20 = .ok (.bipush 20, 2) := by decide +kernel
theorem dX10_feed_22 : decode cX10_feed 22 = .ok (.if_icmp .ge 92, 3) := by decide +kernel
theorem dX10_feed_25 : decode cX10_feed 25 = .ok (.iload 6, 2) := by decide +kernel
theorem dX10_feed_27 : decode cX10_feed 27 = .ok (.iconst 4, 1) := by decide +kernel
theorem dX10_feed_28 : decode cX10_feed 28 = .ok (.if_icmp .ge 7, 3) := by decide +kernel
theorem dX10_feed_31 : decode cX10_feed 31 = .ok (.iload_n 1, 1) := by decide +kernel
theorem dX10_feed_32 : decode cX10_feed 32 = .ok (.goto 39, 3) := by decide +kernel
theorem dX10_feed_35 : decode cX10_feed 35 = .ok (.iload 6, 2) := by decide +kernel
theorem dX10_feed_37 : decode cX10_feed 37 = .ok (.bipush 8, 2) := by decide +kernel
theorem dX10_feed_39 : decode cX10_feed 39 = .ok (.if_icmp .ge 7, 3) := by decide +kernel
theorem dX10_feed_42 : decode cX10_feed 42 = .ok (.iload_n 2, 1) := by decide +kernel
theorem dX10_feed_43 : decode cX10_feed 43 = .ok (.goto 28, 3) := by decide +kernel
theorem dX10_feed_46 : decode cX10_feed 46 = .ok (.iload 6, 2) := by decide +kernel
theorem dX10_feed_48 : decode cX10_feed 48 = .ok (.bipush 12, 2) := by decide +kernel
theorem dX10_feed_50 : decode cX10_feed 50 = .ok (.if_icmp .ge 7, 3) := by decide +kernel
theorem dX10_feed_53 : decode cX10_feed 53 = .ok (.iload_n 3, 1) := by decide +kernel
theorem dX10_feed_54 : decode cX10_feed 54 = .ok (.goto 17, 3) := by decide +kernel
theorem dX10_feed_57 : decode cX10_feed 57 = .ok (.iload 6, 2) := by decide +kernel
theorem dX10_feed_59 : decode cX10_feed 59 = .ok (.bipush 16, 2) := by decide +kernel
theorem dX10_feed_61 : decode cX10_feed 61 = .ok (.if_icmp .ge 8, 3) := by decide +kernel
theorem dX10_feed_64 : decode cX10_feed 64 = .ok (.iload 4, 2) := by decide +kernel
theorem dX10_feed_66 : decode cX10_feed 66 = .ok (.goto 5, 3) := by decide +kernel
theorem dX10_feed_69 : decode cX10_feed 69 = .ok (.iload 5, 2) := by decide +kernel
theorem dX10_feed_71 : decode cX10_feed 71 = .ok (.istore 7, 2) := by decide +kernel
theorem dX10_feed_73 : decode cX10_feed 73 = .ok (.aload_n 0, 1) := by decide +kernel
theorem dX10_feed_74 : decode cX10_feed 74 = .ok (.getfield 79, 3) := by decide +kernel
theorem dX10_feed_77 : decode cX10_feed 77 = .ok (.aload_n 0, 1) := by decide +kernel
theorem dX10_feed_78 : decode cX10_feed 78 = .ok (.getfield 209, 3) := by decide +kernel
theorem dX10_feed_81 : decode cX10_feed 81 = .ok (.iload 7, 2) := by decide +kernel
theorem dX10_feed_83 : decode cX10_feed 83 = .ok (.bipush 8, 2) := by decide +kernel
theorem dX10_feed_85 : decode cX10_feed 85 = .ok (.iconst 3, 1) := by decide +kernel
theorem dX10_feed_86 : decode cX10_feed 86 = .ok (.iload 6, 2) := by decide +kernel
theorem dX10_feed_88 : decode cX10_feed 88 = .ok (.iconst 4, 1) := by decide +kernel
theorem dX10_feed_89 : decode cX10_feed 89 = .ok (.irem, 1) := by decide +kernel
theorem dX10_feed_90 : decode cX10_feed 90 = .ok (.isub, 1) := by decide +kernel
theorem dX10_feed_91 : decode cX10_feed 91 = .ok (.imul, 1) := by decide +kernel
theorem dX10_feed_92 : decode cX10_feed 92 = .ok (.ishr, 1) := by decide +kernel
theorem dX10_feed_93 : decode cX10_feed 93 = .ok (.sipush 255, 3) := by decide +kernel
theorem dX10_feed_96 : decode cX10_feed 96 = .ok (.iand, 1) := by decide +kernel
theorem dX10_feed_97 : decode cX10_feed 97 = .ok (.iastore, 1) := by decide +kernel
theorem dX10_feed_98 : decode cX10_feed 98 = .ok (.aload_n 0, 1) := by decide +kernel
theorem dX10_feed_99 : decode cX10_feed 99 = .ok (.dup, 1) := by decide +kernel
theorem dX10_feed_100 : decode cX10_feed 100 = .ok (.getfield 209, 3) := by decide +kernel
theorem dX10_feed_103 : decode cX10_feed 103 = .ok (.iconst 1, 1) := by decide +kernel
theorem dX10_feed_104 : decode cX10_feed 104 = .ok (.iadd, 1) := by decide +kernel
theorem dX10_feed_105 : decode cX10_feed 105 = .ok (.putfield 209, 3) := by decide +kernel
theorem dX10_feed_108 : decode cX10_feed 108 = .ok (.iinc 6 1, 3) := by decide +kernel
theorem dX10_feed_111 : decode cX10_feed 111 = .ok (.goto (-93), 3) := by decide +kernel
theorem dX10_feed_114 : decode cX10_feed 114 = .ok (.aload_n 0, 1) := by decide +kernel
theorem dX10_feed_115 : decode cX10_feed 115 = .ok (.getfield 209, 3) := by decide +kernel
theorem dX10_feed_118 : decode cX10_feed 118 = .ok (.ireturn, 1) := by decide +kernel
theorem dX10_end_0 : decode cX10_end 0 = .ok (.iload_n 1, 1) := by decide +kernel
theorem dX10_end_1 : decode cX10_end 1 = .ok (.ifCond .lt 11, 3) := by decide +kernel
theorem dX10_end_4 : decode cX10_end 4 = .ok (.iload_n 1, 1) := by decide +kernel
theorem dX10_end_5 : decode cX10_end 5 = .ok (.aload_n 0, 1) := by decide +kernel
theorem dX10_end_6 : decode cX10_end 6 = .ok (.getfield 209, 3) := by decide +kernel
theorem dX10_end_9 : decode cX10_end 9 = .ok (.if_icmp .le 5, 3) := by decide +kernel
theorem dX10_end_12 : decode cX10_end 12 = .ok (.iconst 0, 1) := by decide +kernel
theorem dX10_end_13 : decode cX10_end 13 = .ok (.ireturn, 1) := by decide +kernel
theorem dX10_end_14 : decode cX10_end 14 = .ok (.aload_n 0, 1) := by decide +kernel
theorem dX10_end_15 : decode cX10_end 15 = .ok (.iload_n 1, 1) := by decide +kernel
theorem dX10_end_16 : decode cX10_end 16 = .ok (.putfield 209, 3) := by decide +kernel
theorem dX10_end_19 : decode cX10_end 19 = .ok (.iconst 1, 1) := by decide +kernel
theorem dX10_end_20 : decode cX10_end 20 = .ok (.ireturn, 1) := by decide +kernel
theorem dX10_fail_0 : decode cX10_fail 0 = .ok (.aload_n 0, 1) := by decide +kernel
theorem dX10_fail_1 : decode cX10_fail 1 = .ok (.getfield 212, 3) := by decide +kernel
theorem dX10_fail_4 : decode cX10_fail 4 = .ok (.ifCond .eq 4, 3) := by decide +kernel
theorem dX10_fail_7 : decode cX10_fail 7 = .ok (.return_, 1) := by decide +kernel
theorem dX10_fail_8 : decode cX10_fail 8 = .ok (.aload_n 0, 1) := by decide +kernel
theorem dX10_fail_9 : decode cX10_fail 9 = .ok (.iload_n 1, 1) := by decide +kernel
theorem dX10_fail_10 : decode cX10_fail 10 = .ok (.putfield 212, 3) := by decide +kernel
theorem dX10_fail_13 : decode cX10_fail 13 = .ok (.aload_n 0, 1) := by decide +kernel
theorem dX10_fail_14 : decode cX10_fail 14 = .ok (.iload_n 2, 1) := by decide +kernel
theorem dX10_fail_15 : decode cX10_fail 15 = .ok (.putfield 215, 3) := by decide +kernel
theorem dX10_fail_18 : decode cX10_fail 18 = .ok (.return_, 1) := by decide +kernel
theorem dX10_next_0 : decode cX10_next 0 = .ok (.aload_n 0, 1) := by decide +kernel
theorem dX10_next_1 : decode cX10_next 1 = .ok (.getfield 218, 3) := by decide +kernel
theorem dX10_next_4 : decode cX10_next 4 = .ok (.aload_n 0, 1) := by decide +kernel
theorem dX10_next_5 : decode cX10_next 5 = .ok (.getfield 221, 3) := by decide +kernel
theorem dX10_next_8 : decode cX10_next 8 = .ok (.if_icmp .ge 44, 3) := by decide +kernel
theorem dX10_next_11 : decode cX10_next 11 = .ok (.aload_n 0, 1) := by decide +kernel
theorem dX10_next_12 : decode cX10_next 12 = .ok (.getfield 79, 3) := by decide +kernel
theorem dX10_next_15 : decode cX10_next 15 = .ok (.aload_n 0, 1) := by decide +kernel
theorem dX10_next_16 : decode cX10_next 16 = .ok (.getfield 218, 3) := by decide +kernel
theorem dX10_next_19 : decode cX10_next 19 = .ok (.iaload, 1) := by decide +kernel
theorem dX10_next_20 : decode cX10_next 20 = .ok (.bipush 10, 2) := by decide +kernel
theorem dX10_next_22 : decode cX10_next 22 = .ok (.if_icmp .eq 17, 3) := by decide +kernel
theorem dX10_next_25 : decode cX10_next 25 = .ok (.aload_n 0, 1) := by decide +kernel
theorem dX10_next_26 : decode cX10_next 26 = .ok (.getfield 79, 3) := by decide +kernel
theorem dX10_next_29 : decode cX10_next 29 = .ok (.aload_n 0, 1) := by decide +kernel
theorem dX10_next_30 : decode cX10_next 30 = .ok (.getfield 218, 3) := by decide +kernel
theorem dX10_next_33 : decode cX10_next 33 = .ok (.iaload, 1) := by decide +kernel
theorem dX10_next_34 : decode cX10_next 34 = .ok (.bipush 32, 2) := by decide +kernel
theorem dX10_next_36 : decode cX10_next 36 = .ok (.if_icmp .ne 16, 3) := by decide +kernel
theorem dX10_next_39 : decode cX10_next 39 = .ok (.aload_n 0, 1) := by decide +kernel
theorem dX10_next_40 : decode cX10_next 40 = .ok (.dup, 1) := by decide +kernel
theorem dX10_next_41 : decode cX10_next 41 = .ok (.getfield 218, 3) := by decide +kernel
theorem dX10_next_44 : decode cX10_next 44 = .ok (.iconst 1, 1) := by decide +kernel
theorem dX10_next_45 : decode cX10_next 45 = .ok (.iadd, 1) := by decide +kernel
theorem dX10_next_46 : decode cX10_next 46 = .ok (.putfield 218, 3) := by decide +kernel
theorem dX10_next_49 : decode cX10_next 49 = .ok (.goto (-49), 3) := by decide +kernel
theorem dX10_next_52 : decode cX10_next 52 = .ok (.aload_n 0, 1) := by decide +kernel
theorem dX10_next_53 : decode cX10_next 53 = .ok (.getfield 218, 3) := by decide +kernel
theorem dX10_next_56 : decode cX10_next 56 = .ok (.aload_n 0, 1) := by decide +kernel
theorem dX10_next_57 : decode cX10_next 57 = .ok (.getfield 221, 3) := by decide +kernel
theorem dX10_next_60 : decode cX10_next 60 = .ok (.if_icmp .ge 15, 3) := by decide +kernel
theorem dX10_next_63 : decode cX10_next 63 = .ok (.aload_n 0, 1) := by decide +kernel
theorem dX10_next_64 : decode cX10_next 64 = .ok (.getfield 79, 3) := by decide +kernel
theorem dX10_next_67 : decode cX10_next 67 = .ok (.aload_n 0, 1) := by decide +kernel
theorem dX10_next_68 : decode cX10_next 68 = .ok (.getfield 218, 3) := by decide +kernel
theorem dX10_next_71 : decode cX10_next 71 = .ok (.iaload, 1) := by decide +kernel
theorem dX10_next_72 : decode cX10_next 72 = .ok (.goto 4, 3) := by decide +kernel
theorem dX10_next_75 : decode cX10_next 75 = .ok (.iconst (-1), 1) := by decide +kernel
theorem dX10_next_76 : decode cX10_next 76 = .ok (.ireturn, 1) := by decide +kernel
theorem dX10_begins_0 : decode cX10_begins 0 = .ok (.aload_n 0, 1) := by decide +kernel
theorem dX10_begins_1 : decode cX10_begins 1 = .ok (.getfield 92, 3) := by decide +kernel
theorem dX10_begins_4 : decode cX10_begins 4 = .ok (.aload_n 0, 1) := by decide +kernel
theorem dX10_begins_5 : decode cX10_begins 5 = .ok (.getfield 224, 3) := by decide +kernel
theorem dX10_begins_8 : decode cX10_begins 8 = .ok (.iconst 0, 1) := by decide +kernel
theorem dX10_begins_9 : decode cX10_begins 9 = .ok (.iastore, 1) := by decide +kernel
theorem dX10_begins_10 : decode cX10_begins 10 = .ok (.aload_n 0, 1) := by decide +kernel
theorem dX10_begins_11 : decode cX10_begins 11 = .ok (.getfield 101, 3) := by decide +kernel
theorem dX10_begins_14 : decode cX10_begins 14 = .ok (.aload_n 0, 1) := by decide +kernel
theorem dX10_begins_15 : decode cX10_begins 15 = .ok (.getfield 224, 3) := by decide +kernel
theorem dX10_begins_18 : decode cX10_begins 18 = .ok (.iconst 0, 1) := by decide +kernel
theorem dX10_begins_19 : decode cX10_begins 19 = .ok (.iastore, 1) := by decide +kernel
theorem dX10_begins_20 : decode cX10_begins 20 = .ok (.aload_n 0, 1) := by decide +kernel
theorem dX10_begins_21 : decode cX10_begins 21 = .ok (.getfield 110, 3) := by decide +kernel
theorem dX10_begins_24 : decode cX10_begins 24 = .ok (.aload_n 0, 1) := by decide +kernel
theorem dX10_begins_25 : decode cX10_begins 25 = .ok (.getfield 224, 3) := by decide +kernel
theorem dX10_begins_28 : decode cX10_begins 28 = .ok (.iconst (-1), 1) := by decide +kernel
theorem dX10_begins_29 : decode cX10_begins 29 = .ok (.iastore, 1) := by decide +kernel
theorem dX10_begins_30 : decode cX10_begins 30 = .ok (.aload_n 0, 1) := by decide +kernel
theorem dX10_begins_31 : decode cX10_begins 31 = .ok (.getfield 113, 3) := by decide +kernel
theorem dX10_begins_34 : decode cX10_begins 34 = .ok (.aload_n 0, 1) := by decide +kernel
theorem dX10_begins_35 : decode cX10_begins 35 = .ok (.getfield 224, 3) := by decide +kernel
theorem dX10_begins_38 : decode cX10_begins 38 = .ok (.iconst (-1), 1) := by decide +kernel
theorem dX10_begins_39 : decode cX10_begins 39 = .ok (.iastore, 1) := by decide +kernel
theorem dX10_begins_40 : decode cX10_begins 40 = .ok (.return_, 1) := by decide +kernel
theorem dX10_opens_0 : decode cX10_opens 0 = .ok (.aload_n 0, 1) := by decide +kernel
theorem dX10_opens_1 : decode cX10_opens 1 = .ok (.getfield 227, 3) := by decide +kernel
theorem dX10_opens_4 : decode cX10_opens 4 = .ok (.bipush 6, 2) := by decide +kernel
theorem dX10_opens_6 : decode cX10_opens 6 = .ok (.if_icmp .ne 10, 3) := by decide +kernel
theorem dX10_opens_9 : decode cX10_opens 9 = .ok (.aload_n 0, 1) := by decide +kernel
theorem dX10_opens_10 : decode cX10_opens 10 = .ok (.iconst 1, 1) := by decide +kernel
theorem dX10_opens_11 : decode cX10_opens 11 = .ok (.iload_n 3, 1) := by decide +kernel
theorem dX10_opens_12 : decode cX10_opens 12 = .ok (.invokevirtual 230, 3) := by decide +kernel
theorem dX10_opens_15 : decode cX10_opens 15 = .ok (.return_, 1) := by decide +kernel
theorem dX10_opens_16 : decode cX10_opens 16 = .ok (.aload_n 0, 1) := by decide +kernel
theorem dX10_opens_17 : decode cX10_opens 17 = .ok (.getfield 116, 3) := by decide +kernel
theorem dX10_opens_20 : decode cX10_opens 20 = .ok (.aload_n 0, 1) := by decide +kernel
theorem dX10_opens_21 : decode cX10_opens 21 = .ok (.getfield 227, 3) := by decide +kernel
theorem dX10_opens_24 : decode cX10_opens 24 = .ok (.iload_n 1, 1) := by decide +kernel
theorem dX10_opens_25 : decode cX10_opens 25 = .ok (.iastore, 1) := by decide +kernel
theorem dX10_opens_26 : decode cX10_opens 26 = .ok (.aload_n 0, 1) := by decide +kernel
theorem dX10_opens_27 : decode cX10_opens 27 = .ok (.getfield 119, 3) := by decide +kernel
theorem dX10_opens_30 : decode cX10_opens 30 = .ok (.aload_n 0, 1) := by decide +kernel
theorem dX10_opens_31 : decode cX10_opens 31 = .ok (.getfield 227, 3) := by decide +kernel
theorem dX10_opens_34 : decode cX10_opens 34 = .ok (.iload_n 2, 1) := by decide +kernel
theorem dX10_opens_35 : decode cX10_opens 35 = .ok (.iastore, 1) := by decide +kernel
theorem dX10_opens_36 : decode cX10_opens 36 = .ok (.aload_n 0, 1) := by decide +kernel
theorem dX10_opens_37 : decode cX10_opens 37 = .ok (.getfield 122, 3) := by decide +kernel
theorem dX10_opens_40 : decode cX10_opens 40 = .ok (.aload_n 0, 1) := by decide +kernel
theorem dX10_opens_41 : decode cX10_opens 41 = .ok (.getfield 227, 3) := by decide +kernel
theorem dX10_opens_44 : decode cX10_opens 44 = .ok (.iload 4, 2) := by decide +kernel
theorem dX10_opens_46 : decode cX10_opens 46 = .ok (.iastore, 1) := by decide +kernel
theorem dX10_opens_47 : decode cX10_opens 47 = .ok (.aload_n 0, 1) := by decide +kernel
theorem dX10_opens_48 : decode cX10_opens 48 = .ok (.dup, 1) := by decide +kernel
theorem dX10_opens_49 : decode cX10_opens 49 = .ok (.getfield 227, 3) := by decide +kernel
theorem dX10_opens_52 : decode cX10_opens 52 = .ok (.iconst 1, 1) := by decide +kernel
theorem dX10_opens_53 : decode cX10_opens 53 = .ok (.iadd, 1) := by decide +kernel
theorem dX10_opens_54 : decode cX10_opens 54 = .ok (.putfield 227, 3) := by decide +kernel
theorem dX10_opens_57 : decode cX10_opens 57 = .ok (.return_, 1) := by decide +kernel
theorem dX10_turns_0 : decode cX10_turns 0 = .ok (.iconst 0, 1) := by decide +kernel
theorem dX10_turns_1 : decode cX10_turns 1 = .ok (.istore_n 3, 1) := by decide +kernel
theorem dX10_turns_2 : decode cX10_turns 2 = .ok (.iload_n 3, 1) := by decide +kernel
theorem dX10_turns_3 : decode cX10_turns 3 = .ok (.bipush 64, 2) := by decide +kernel
theorem dX10_turns_5 : decode cX10_turns 5 = .ok (.if_icmp .ge 21, 3) := by decide +kernel
theorem dX10_turns_8 : decode cX10_turns 8 = .ok (.aload_n 0, 1) := by decide +kernel
theorem dX10_turns_9 : decode cX10_turns 9 = .ok (.getfield 89, 3) := by decide +kernel
theorem dX10_turns_12 : decode cX10_turns 12 = .ok (.iload_n 3, 1) := by decide +kernel
theorem dX10_turns_13 : decode cX10_turns 13 = .ok (.aload_n 0, 1) := by decide +kernel
theorem dX10_turns_14 : decode cX10_turns 14 = .ok (.getfield 86, 3) := by decide +kernel
theorem dX10_turns_17 : decode cX10_turns 17 = .ok (.iload_n 3, 1) := by decide +kernel
theorem dX10_turns_18 : decode cX10_turns 18 = .ok (.iaload, 1) := by decide +kernel
theorem dX10_turns_19 : decode cX10_turns 19 = .ok (.iastore, 1) := by decide +kernel
theorem dX10_turns_20 : decode cX10_turns 20 = .ok (.iinc 3 1, 3) := by decide +kernel
theorem dX10_turns_23 : decode cX10_turns 23 = .ok (.goto (-21), 3) := by decide +kernel
theorem dX10_turns_26 : decode cX10_turns 26 = .ok (.iconst 0, 1) := by decide +kernel
theorem dX10_turns_27 : decode cX10_turns 27 = .ok (.istore_n 3, 1) := by decide +kernel
theorem dX10_turns_28 : decode cX10_turns 28 = .ok (.iload_n 3, 1) := by decide +kernel
theorem dX10_turns_29 : decode cX10_turns 29 = .ok (.aload_n 0, 1) := by decide +kernel
theorem dX10_turns_30 : decode cX10_turns 30 = .ok (.getfield 233, 3) := by decide +kernel
theorem dX10_turns_33 : decode cX10_turns 33 = .ok (.if_icmp .ge 108, 3) := by decide +kernel
theorem dX10_turns_36 : decode cX10_turns 36 = .ok (.iconst 0, 1) := by decide +kernel
theorem dX10_turns_37 : decode cX10_turns 37 = .ok (.istore 4, 2) := by decide +kernel
theorem dX10_turns_39 : decode cX10_turns 39 = .ok (.iload 4, 2) := by decide +kernel
theorem dX10_turns_41 : decode cX10_turns 41 = .ok (.aload_n 0, 1) := by decide +kernel
theorem dX10_turns_42 : decode cX10_turns 42 = .ok (.getfield 236, 3) := by decide +kernel
theorem dX10_turns_45 : decode cX10_turns 45 = .ok (.if_icmp .ge 90, 3) := by decide +kernel
theorem dX10_turns_48 : decode cX10_turns 48 = .ok (.aload_n 0, 1) := by decide +kernel
theorem dX10_turns_49 : decode cX10_turns 49 = .ok (.getfield 89, 3) := by decide +kernel
theorem dX10_turns_52 : decode cX10_turns 52 = .ok (.bipush 8, 2) := by decide +kernel
theorem dX10_turns_54 : decode cX10_turns 54 = .ok (.iload_n 2, 1) := by decide +kernel
theorem dX10_turns_55 : decode cX10_turns 55 = .ok (.ifCond .eq 14, 3) := by decide +kernel
theorem dX10_turns_58 : decode cX10_turns 58 = .ok (.aload_n 0, 1) := by decide +kernel
theorem dX10_turns_59 : decode cX10_turns 59 = .ok (.getfield 233, 3) := by decide +kernel
theorem dX10_turns_62 : decode cX10_turns 62 = .ok (.iconst 1, 1) := by decide +kernel
theorem dX10_turns_63 : decode cX10_turns 63 = .ok (.isub, 1) := by decide +kernel
theorem dX10_turns_64 : decode cX10_turns 64 = .ok (.iload_n 3, 1) := by decide +kernel
theorem dX10_turns_65 : decode cX10_turns 65 = .ok (.isub, 1) := by decide +kernel
theorem dX10_turns_66 : decode cX10_turns 66 = .ok (.goto 4, 3) := by decide +kernel
theorem dX10_turns_69 : decode cX10_turns 69 = .ok (.iload_n 3, 1) := by decide +kernel
theorem dX10_turns_70 : decode cX10_turns 70 = .ok (.imul, 1) := by decide +kernel
theorem dX10_turns_71 : decode cX10_turns 71 = .ok (.iload_n 1, 1) := by decide +kernel
theorem dX10_turns_72 : decode cX10_turns 72 = .ok (.ifCond .eq 15, 3) := by decide +kernel
theorem dX10_turns_75 : decode cX10_turns 75 = .ok (.aload_n 0, 1) := by decide +kernel
theorem dX10_turns_76 : decode cX10_turns 76 = .ok (.getfield 236, 3) := by decide +kernel
theorem dX10_turns_79 : decode cX10_turns 79 = .ok (.iconst 1, 1) := by decide +kernel
theorem dX10_turns_80 : decode cX10_turns 80 = .ok (.isub, 1) := by decide +kernel
theorem dX10_turns_81 : decode cX10_turns 81 = .ok (.iload 4, 2) := by decide +kernel
theorem dX10_turns_83 : decode cX10_turns 83 = .ok (.isub, 1) := by decide +kernel
theorem dX10_turns_84 : decode cX10_turns 84 = .ok (.goto 5, 3) := by decide +kernel
theorem dX10_turns_87 : decode cX10_turns 87 = .ok (.iload 4, 2) := by decide +kernel
theorem dX10_turns_89 : decode cX10_turns 89 = .ok (.iadd, 1) := by decide +kernel
theorem dX10_turns_90 : decode cX10_turns 90 = .ok (.iaload, 1) := by decide +kernel
theorem dX10_turns_91 : decode cX10_turns 91 = .ok (.istore 5, 2) := by decide +kernel
theorem dX10_turns_93 : decode cX10_turns 93 = .ok (.aload_n 0, 1) := by decide +kernel
theorem dX10_turns_94 : decode cX10_turns 94 = .ok (.getfield 86, 3) := by decide +kernel
theorem dX10_turns_97 : decode cX10_turns 97 = .ok (.bipush 8, 2) := by decide +kernel
theorem dX10_turns_99 : decode cX10_turns 99 = .ok (.iload_n 3, 1) := by decide +kernel
theorem dX10_turns_100 : decode cX10_turns 100 = .ok (.imul, 1) := by decide +kernel
theorem dX10_turns_101 : decode cX10_turns 101 = .ok (.iload 4, 2) := by decide +kernel
theorem dX10_turns_103 : decode cX10_turns 103 = .ok (.iadd, 1) := by decide +kernel
theorem dX10_turns_104 : decode cX10_turns 104 = .ok (.iload 5, 2) := by decide +kernel
theorem dX10_turns_106 : decode cX10_turns 106 = .ok (.iload_n 1, 1) := by decide +kernel
theorem dX10_turns_107 : decode cX10_turns 107 = .ok (.ifCond .eq 8, 3) := by decide +kernel
theorem dX10_turns_110 : decode cX10_turns 110 = .ok (.bipush 16, 2) := by decide +kernel
theorem dX10_turns_112 : decode cX10_turns 112 = .ok (.goto 4, 3) := by decide +kernel
theorem dX10_turns_115 : decode cX10_turns 115 = .ok (.iconst 0, 1) := by decide +kernel
theorem dX10_turns_116 : decode cX10_turns 116 = .ok (.ixor, 1) := by decide +kernel
theorem dX10_turns_117 : decode cX10_turns 117 = .ok (.iload_n 2, 1) := by decide +kernel
theorem dX10_turns_118 : decode cX10_turns 118 = .ok (.ifCond .eq 8, 3) := by decide +kernel
theorem dX10_turns_121 : decode cX10_turns 121 = .ok (.bipush 32, 2) := by decide +kernel
theorem dX10_turns_123 : decode cX10_turns 123 = .ok (.goto 4, 3) := by decide +kernel
theorem dX10_turns_126 : decode cX10_turns 126 = .ok (.iconst 0, 1) := by decide +kernel
theorem dX10_turns_127 : decode cX10_turns 127 = .ok (.ixor, 1) := by decide +kernel
theorem dX10_turns_128 : decode cX10_turns 128 = .ok (.iastore, 1) := by decide +kernel
theorem dX10_turns_129 : decode cX10_turns 129 = .ok (.iinc 4 1, 3) := by decide +kernel
theorem dX10_turns_132 : decode cX10_turns 132 = .ok (.goto (-93), 3) := by decide +kernel
theorem dX10_turns_135 : decode cX10_turns 135 = .ok (.iinc 3 1, 3) := by decide +kernel
theorem dX10_turns_138 : decode cX10_turns 138 = .ok (.goto (-110), 3) := by decide +kernel
theorem dX10_turns_141 : decode cX10_turns 141 = .ok (.return_, 1) := by decide +kernel
theorem dX10_repeats_0 : decode cX10_repeats 0 = .ok (.iload_n 1, 1) := by decide +kernel
theorem dX10_repeats_1 : decode cX10_repeats 1 = .ok (.aload_n 0, 1) := by decide +kernel
theorem dX10_repeats_2 : decode cX10_repeats 2 = .ok (.getfield 236, 3) := by decide +kernel
theorem dX10_repeats_5 : decode cX10_repeats 5 = .ok (.imul, 1) := by decide +kernel
theorem dX10_repeats_6 : decode cX10_repeats 6 = .ok (.bipush 8, 2) := by decide +kernel
theorem dX10_repeats_8 : decode cX10_repeats 8 = .ok (.if_icmp .le 10, 3) := by decide +kernel
theorem dX10_repeats_11 : decode cX10_repeats 11 = .ok (.aload_n 0, 1) := by decide +kernel
theorem dX10_repeats_12 : decode cX10_repeats 12 = .ok (.iconst 3, 1) := by decide +kernel
theorem dX10_repeats_13 : decode cX10_repeats 13 = .ok (.iload_n 2, 1) := by decide +kernel
theorem dX10_repeats_14 : decode cX10_repeats 14 = .ok (.invokevirtual 230, 3) := by decide +kernel
theorem dX10_repeats_17 : decode cX10_repeats 17 = .ok (.return_, 1) := by decide +kernel
theorem dX10_repeats_18 : decode cX10_repeats 18 = .ok (.iconst 0, 1) := by decide +kernel
theorem dX10_repeats_19 : decode cX10_repeats 19 = .ok (.istore_n 3, 1) := by decide +kernel
theorem dX10_repeats_20 : decode cX10_repeats 20 = .ok (.iload_n 3, 1) := by decide +kernel
theorem dX10_repeats_21 : decode cX10_repeats 21 = .ok (.aload_n 0, 1) := by decide +kernel
theorem dX10_repeats_22 : decode cX10_repeats 22 = .ok (.getfield 233, 3) := by decide +kernel
theorem dX10_repeats_25 : decode cX10_repeats 25 = .ok (.if_icmp .ge 61, 3) := by decide +kernel
theorem dX10_repeats_28 : decode cX10_repeats 28 = .ok (.aload_n 0, 1) := by decide +kernel
theorem dX10_repeats_29 : decode cX10_repeats 29 = .ok (.getfield 236, 3) := by decide +kernel
theorem dX10_repeats_32 : decode cX10_repeats 32 = .ok (.istore 4, 2) := by decide +kernel
theorem dX10_repeats_34 : decode cX10_repeats 34 = .ok (.iload 4, 2) := by decide +kernel
theorem dX10_repeats_36 : decode cX10_repeats 36 = .ok (.iload_n 1, 1) := by decide +kernel
theorem dX10_repeats_37 : decode cX10_repeats 37 = .ok (.aload_n 0, 1) := by decide +kernel
theorem dX10_repeats_38 : decode cX10_repeats 38 = .ok (.getfield 236, 3) := by decide +kernel
theorem dX10_repeats_41 : decode cX10_repeats 41 = .ok (.imul, 1) := by decide +kernel
theorem dX10_repeats_42 : decode cX10_repeats 42 = .ok (.if_icmp .ge 38, 3) := by decide +kernel
theorem dX10_repeats_45 : decode cX10_repeats 45 = .ok (.aload_n 0, 1) := by decide +kernel
theorem dX10_repeats_46 : decode cX10_repeats 46 = .ok (.getfield 86, 3) := by decide +kernel
theorem dX10_repeats_49 : decode cX10_repeats 49 = .ok (.bipush 8, 2) := by decide +kernel
theorem dX10_repeats_51 : decode cX10_repeats 51 = .ok (.iload_n 3, 1) := by decide +kernel
theorem dX10_repeats_52 : decode cX10_repeats 52 = .ok (.imul, 1) := by decide +kernel
theorem dX10_repeats_53 : decode cX10_repeats 53 = .ok (.iload 4, 2) := by decide +kernel
theorem dX10_repeats_55 : decode cX10_repeats 55 = .ok (.iadd, 1) := by decide +kernel
theorem dX10_repeats_56 : decode cX10_repeats 56 = .ok (.aload_n 0, 1) := by decide +kernel
theorem dX10_repeats_57 : decode cX10_repeats 57 = .ok (.getfield 86, 3) := by decide +kernel
theorem dX10_repeats_60 : decode cX10_repeats 60 = .ok (.bipush 8, 2) := by decide +kernel
theorem dX10_repeats_62 : decode cX10_repeats 62 = .ok (.iload_n 3, 1) := by decide +kernel
theorem dX10_repeats_63 : decode cX10_repeats 63 = .ok (.imul, 1) := by decide +kernel
theorem dX10_repeats_64 : decode cX10_repeats 64 = .ok (.iload 4, 2) := by decide +kernel
theorem dX10_repeats_66 : decode cX10_repeats 66 = .ok (.iadd, 1) := by decide +kernel
theorem dX10_repeats_67 : decode cX10_repeats 67 = .ok (.aload_n 0, 1) := by decide +kernel
theorem dX10_repeats_68 : decode cX10_repeats 68 = .ok (.getfield 236, 3) := by decide +kernel
theorem dX10_repeats_71 : decode cX10_repeats 71 = .ok (.isub, 1) := by decide +kernel
theorem dX10_repeats_72 : decode cX10_repeats 72 = .ok (.iaload, 1) := by decide +kernel
theorem dX10_repeats_73 : decode cX10_repeats 73 = .ok (.iastore, 1) := by decide +kernel
theorem dX10_repeats_74 : decode cX10_repeats 74 = .ok (.iinc 4 1, 3) := by decide +kernel
theorem dX10_repeats_77 : decode cX10_repeats 77 = .ok (.goto (-43), 3) := by decide +kernel
theorem dX10_repeats_80 : decode cX10_repeats 80 = .ok (.iinc 3 1, 3) := by decide +kernel
theorem dX10_repeats_83 : decode cX10_repeats 83 = .ok (.goto (-63), 3) := by decide +kernel
theorem dX10_repeats_86 : decode cX10_repeats 86 = .ok (.aload_n 0, 1) := by decide +kernel
theorem dX10_repeats_87 : decode cX10_repeats 87 = .ok (.dup, 1) := by decide +kernel
theorem dX10_repeats_88 : decode cX10_repeats 88 = .ok (.getfield 236, 3) := by decide +kernel
theorem dX10_repeats_91 : decode cX10_repeats 91 = .ok (.iload_n 1, 1) := by decide +kernel
theorem dX10_repeats_92 : decode cX10_repeats 92 = .ok (.imul, 1) := by decide +kernel
theorem dX10_repeats_93 : decode cX10_repeats 93 = .ok (.putfield 236, 3) := by decide +kernel
theorem dX10_repeats_96 : decode cX10_repeats 96 = .ok (.return_, 1) := by decide +kernel
theorem dX10_comes_0 : decode cX10_comes 0 = .ok (.aload_n 0, 1) := by decide +kernel
theorem dX10_comes_1 : decode cX10_comes 1 = .ok (.getfield 212, 3) := by decide +kernel
theorem dX10_comes_4 : decode cX10_comes 4 = .ok (.ifCond .ne 102, 3) := by decide +kernel
theorem dX10_comes_7 : decode cX10_comes 7 = .ok (.aload_n 0, 1) := by decide +kernel
theorem dX10_comes_8 : decode cX10_comes 8 = .ok (.getfield 227, 3) := by decide +kernel
theorem dX10_comes_11 : decode cX10_comes 11 = .ok (.ifCond .le 95, 3) := by decide +kernel
theorem dX10_comes_14 : decode cX10_comes 14 = .ok (.aload_n 0, 1) := by decide +kernel
theorem dX10_comes_15 : decode cX10_comes 15 = .ok (.getfield 116, 3) := by decide +kernel
theorem dX10_comes_18 : decode cX10_comes 18 = .ok (.aload_n 0, 1) := by decide +kernel
theorem dX10_comes_19 : decode cX10_comes 19 = .ok (.getfield 227, 3) := by decide +kernel
theorem dX10_comes_22 : decode cX10_comes 22 = .ok (.iconst 1, 1) := by decide +kernel
theorem dX10_comes_23 : decode cX10_comes 23 = .ok (.isub, 1) := by decide +kernel
theorem dX10_comes_24 : decode cX10_comes 24 = .ok (.iaload, 1) := by decide +kernel
theorem dX10_comes_25 : decode cX10_comes 25 = .ok (.bipush 40, 2) := by decide +kernel
theorem dX10_comes_27 : decode cX10_comes 27 = .ok (.if_icmp .eq 79, 3) := by decide +kernel
theorem dX10_comes_30 : decode cX10_comes 30 = .ok (.aload_n 0, 1) := by decide +kernel
theorem dX10_comes_31 : decode cX10_comes 31 = .ok (.dup, 1) := by decide +kernel
theorem dX10_comes_32 : decode cX10_comes 32 = .ok (.getfield 227, 3) := by decide +kernel
theorem dX10_comes_35 : decode cX10_comes 35 = .ok (.iconst 1, 1) := by decide +kernel
theorem dX10_comes_36 : decode cX10_comes 36 = .ok (.isub, 1) := by decide +kernel
theorem dX10_comes_37 : decode cX10_comes 37 = .ok (.putfield 227, 3) := by decide +kernel
theorem dX10_comes_40 : decode cX10_comes 40 = .ok (.aload_n 0, 1) := by decide +kernel
theorem dX10_comes_41 : decode cX10_comes 41 = .ok (.getfield 116, 3) := by decide +kernel
theorem dX10_comes_44 : decode cX10_comes 44 = .ok (.aload_n 0, 1) := by decide +kernel
theorem dX10_comes_45 : decode cX10_comes 45 = .ok (.getfield 227, 3) := by decide +kernel
theorem dX10_comes_48 : decode cX10_comes 48 = .ok (.iaload, 1) := by decide +kernel
theorem dX10_comes_49 : decode cX10_comes 49 = .ok (.bipush 120, 2) := by decide +kernel
theorem dX10_comes_51 : decode cX10_comes 51 = .ok (.if_icmp .ne 28, 3) := by decide +kernel
theorem dX10_comes_54 : decode cX10_comes 54 = .ok (.aload_n 0, 1) := by decide +kernel
theorem dX10_comes_55 : decode cX10_comes 55 = .ok (.aload_n 0, 1) := by decide +kernel
theorem dX10_comes_56 : decode cX10_comes 56 = .ok (.getfield 119, 3) := by decide +kernel
theorem dX10_comes_59 : decode cX10_comes 59 = .ok (.aload_n 0, 1) := by decide +kernel
theorem dX10_comes_60 : decode cX10_comes 60 = .ok (.getfield 227, 3) := by decide +kernel
theorem dX10_comes_63 : decode cX10_comes 63 = .ok (.iaload, 1) := by decide +kernel
theorem dX10_comes_64 : decode cX10_comes 64 = .ok (.aload_n 0, 1) := by decide +kernel
theorem dX10_comes_65 : decode cX10_comes 65 = .ok (.getfield 122, 3) := by decide +kernel
theorem dX10_comes_68 : decode cX10_comes 68 = .ok (.aload_n 0, 1) := by decide +kernel
theorem dX10_comes_69 : decode cX10_comes 69 = .ok (.getfield 227, 3) := by decide +kernel
theorem dX10_comes_72 : decode cX10_comes 72 = .ok (.iaload, 1) := by decide +kernel
theorem dX10_comes_73 : decode cX10_comes 73 = .ok (.invokevirtual 239, 3) := by decide +kernel
theorem dX10_comes_76 : decode cX10_comes 76 = .ok (.goto (-76), 3) := by decide +kernel
theorem dX10_comes_79 : decode cX10_comes 79 = .ok (.aload_n 0, 1) := by decide +kernel
theorem dX10_comes_80 : decode cX10_comes 80 = .ok (.iconst 1, 1) := by decide +kernel
theorem dX10_comes_81 : decode cX10_comes 81 = .ok (.aload_n 0, 1) := by decide +kernel
theorem dX10_comes_82 : decode cX10_comes 82 = .ok (.getfield 116, 3) := by decide +kernel
theorem dX10_comes_85 : decode cX10_comes 85 = .ok (.aload_n 0, 1) := by decide +kernel
theorem dX10_comes_86 : decode cX10_comes 86 = .ok (.getfield 227, 3) := by decide +kernel
theorem dX10_comes_89 : decode cX10_comes 89 = .ok (.iaload, 1) := by decide +kernel
theorem dX10_comes_90 : decode cX10_comes 90 = .ok (.bipush 126, 2) := by decide +kernel
theorem dX10_comes_92 : decode cX10_comes 92 = .ok (.if_icmp .ne 7, 3) := by decide +kernel
theorem dX10_comes_95 : decode cX10_comes 95 = .ok (.iconst 1, 1) := by decide +kernel
theorem dX10_comes_96 : decode cX10_comes 96 = .ok (.goto 4, 3) := by decide +kernel
theorem dX10_comes_99 : decode cX10_comes 99 = .ok (.iconst 0, 1) := by decide +kernel
theorem dX10_comes_100 : decode cX10_comes 100 = .ok (.invokevirtual 242, 3) := by decide +kernel
theorem dX10_comes_103 : decode cX10_comes 103 = .ok (.goto (-103), 3) := by decide +kernel
theorem dX10_comes_106 : decode cX10_comes 106 = .ok (.aload_n 0, 1) := by decide +kernel
theorem dX10_comes_107 : decode cX10_comes 107 = .ok (.getfield 212, 3) := by decide +kernel
theorem dX10_comes_110 : decode cX10_comes 110 = .ok (.ifCond .eq 4, 3) := by decide +kernel
theorem dX10_comes_113 : decode cX10_comes 113 = .ok (.return_, 1) := by decide +kernel
theorem dX10_comes_114 : decode cX10_comes 114 = .ok (.bipush 64, 2) := by decide +kernel
theorem dX10_comes_116 : decode cX10_comes 116 = .ok (.aload_n 0, 1) := by decide +kernel
theorem dX10_comes_117 : decode cX10_comes 117 = .ok (.getfield 224, 3) := by decide +kernel
theorem dX10_comes_120 : decode cX10_comes 120 = .ok (.imul, 1) := by decide +kernel
theorem dX10_comes_121 : decode cX10_comes 121 = .ok (.istore_n 1, 1) := by decide +kernel
theorem dX10_comes_122 : decode cX10_comes 122 = .ok (.aload_n 0, 1) := by decide +kernel
theorem dX10_comes_123 : decode cX10_comes 123 = .ok (.getfield 101, 3) := by decide +kernel
theorem dX10_comes_126 : decode cX10_comes 126 = .ok (.aload_n 0, 1) := by decide +kernel
theorem dX10_comes_127 : decode cX10_comes 127 = .ok (.getfield 224, 3) := by decide +kernel
theorem dX10_comes_130 : decode cX10_comes 130 = .ok (.iaload, 1) := by decide +kernel
theorem dX10_comes_131 : decode cX10_comes 131 = .ok (.ifCond .ne 7, 3) := by decide +kernel
theorem dX10_comes_134 : decode cX10_comes 134 = .ok (.iconst 0, 1) := by decide +kernel
theorem dX10_comes_135 : decode cX10_comes 135 = .ok (.goto 12, 3) := by decide +kernel
theorem dX10_comes_138 : decode cX10_comes 138 = .ok (.aload_n 0, 1) := by decide +kernel
theorem dX10_comes_139 : decode cX10_comes 139 = .ok (.getfield 104, 3) := by decide +kernel
theorem dX10_comes_142 : decode cX10_comes 142 = .ok (.aload_n 0, 1) := by decide +kernel
theorem dX10_comes_143 : decode cX10_comes 143 = .ok (.getfield 224, 3) := by decide +kernel
theorem dX10_comes_146 : decode cX10_comes 146 = .ok (.iaload, 1) := by decide +kernel
theorem dX10_comes_147 : decode cX10_comes 147 = .ok (.istore_n 2, 1) := by decide +kernel
theorem dX10_comes_148 : decode cX10_comes 148 = .ok (.iload_n 2, 1) := by decide +kernel
theorem dX10_comes_149 : decode cX10_comes 149 = .ok (.ifCond .le 36, 3) := by decide +kernel
theorem dX10_comes_152 : decode cX10_comes 152 = .ok (.aload_n 0, 1) := by decide +kernel
theorem dX10_comes_153 : decode cX10_comes 153 = .ok (.getfield 101, 3) := by decide +kernel
theorem dX10_comes_156 : decode cX10_comes 156 = .ok (.aload_n 0, 1) := by decide +kernel
theorem dX10_comes_157 : decode cX10_comes 157 = .ok (.getfield 224, 3) := by decide +kernel
theorem dX10_comes_160 : decode cX10_comes 160 = .ok (.iaload, 1) := by decide +kernel
theorem dX10_comes_161 : decode cX10_comes 161 = .ok (.aload_n 0, 1) := by decide +kernel
theorem dX10_comes_162 : decode cX10_comes 162 = .ok (.getfield 236, 3) := by decide +kernel
theorem dX10_comes_165 : decode cX10_comes 165 = .ok (.if_icmp .eq 20, 3) := by decide +kernel
theorem dX10_comes_168 : decode cX10_comes 168 = .ok (.aload_n 0, 1) := by decide +kernel
theorem dX10_comes_169 : decode cX10_comes 169 = .ok (.iconst 2, 1) := by decide +kernel
theorem dX10_comes_170 : decode cX10_comes 170 = .ok (.aload_n 0, 1) := by decide +kernel
theorem dX10_comes_171 : decode cX10_comes 171 = .ok (.getfield 113, 3) := by decide +kernel
theorem dX10_comes_174 : decode cX10_comes 174 = .ok (.aload_n 0, 1) := by decide +kernel
theorem dX10_comes_175 : decode cX10_comes 175 = .ok (.getfield 224, 3) := by decide +kernel
theorem dX10_comes_178 : decode cX10_comes 178 = .ok (.iaload, 1) := by decide +kernel
theorem dX10_comes_179 : decode cX10_comes 179 = .ok (.invokevirtual 230, 3) := by decide +kernel
theorem dX10_comes_182 : decode cX10_comes 182 = .ok (.goto 28, 3) := by decide +kernel
theorem dX10_comes_185 : decode cX10_comes 185 = .ok (.iload_n 2, 1) := by decide +kernel
theorem dX10_comes_186 : decode cX10_comes 186 = .ok (.aload_n 0, 1) := by decide +kernel
theorem dX10_comes_187 : decode cX10_comes 187 = .ok (.getfield 233, 3) := by decide +kernel
theorem dX10_comes_190 : decode cX10_comes 190 = .ok (.iadd, 1) := by decide +kernel
theorem dX10_comes_191 : decode cX10_comes 191 = .ok (.bipush 8, 2) := by decide +kernel
theorem dX10_comes_193 : decode cX10_comes 193 = .ok (.if_icmp .le 17, 3) := by decide +kernel
theorem dX10_comes_196 : decode cX10_comes 196 = .ok (.aload_n 0, 1) := by decide +kernel
theorem dX10_comes_197 : decode cX10_comes 197 = .ok (.iconst 3, 1) := by decide +kernel
theorem dX10_comes_198 : decode cX10_comes 198 = .ok (.aload_n 0, 1) := by decide +kernel
theorem dX10_comes_199 : decode cX10_comes 199 = .ok (.getfield 113, 3) := by decide +kernel
theorem dX10_comes_202 : decode cX10_comes 202 = .ok (.aload_n 0, 1) := by decide +kernel
theorem dX10_comes_203 : decode cX10_comes 203 = .ok (.getfield 224, 3) := by decide +kernel
theorem dX10_comes_206 : decode cX10_comes 206 = .ok (.iaload, 1) := by decide +kernel
theorem dX10_comes_207 : decode cX10_comes 207 = .ok (.invokevirtual 230, 3) := by decide +kernel
theorem dX10_comes_210 : decode cX10_comes 210 = .ok (.aload_n 0, 1) := by decide +kernel
theorem dX10_comes_211 : decode cX10_comes 211 = .ok (.getfield 212, 3) := by decide +kernel
theorem dX10_comes_214 : decode cX10_comes 214 = .ok (.ifCond .eq 4, 3) := by decide +kernel
theorem dX10_comes_217 : decode cX10_comes 217 = .ok (.return_, 1) := by decide +kernel
theorem dX10_comes_218 : decode cX10_comes 218 = .ok (.iconst 0, 1) := by decide +kernel
theorem dX10_comes_219 : decode cX10_comes 219 = .ok (.istore_n 3, 1) := by decide +kernel
theorem dX10_comes_220 : decode cX10_comes 220 = .ok (.iload_n 3, 1) := by decide +kernel
theorem dX10_comes_221 : decode cX10_comes 221 = .ok (.aload_n 0, 1) := by decide +kernel
theorem dX10_comes_222 : decode cX10_comes 222 = .ok (.getfield 233, 3) := by decide +kernel
theorem dX10_comes_225 : decode cX10_comes 225 = .ok (.if_icmp .ge 55, 3) := by decide +kernel
theorem dX10_comes_228 : decode cX10_comes 228 = .ok (.iconst 0, 1) := by decide +kernel
theorem dX10_comes_229 : decode cX10_comes 229 = .ok (.istore 4, 2) := by decide +kernel
theorem dX10_comes_231 : decode cX10_comes 231 = .ok (.iload 4, 2) := by decide +kernel
theorem dX10_comes_233 : decode cX10_comes 233 = .ok (.aload_n 0, 1) := by decide +kernel
theorem dX10_comes_234 : decode cX10_comes 234 = .ok (.getfield 236, 3) := by decide +kernel
theorem dX10_comes_237 : decode cX10_comes 237 = .ok (.if_icmp .ge 37, 3) := by decide +kernel
theorem dX10_comes_240 : decode cX10_comes 240 = .ok (.aload_n 0, 1) := by decide +kernel
theorem dX10_comes_241 : decode cX10_comes 241 = .ok (.getfield 107, 3) := by decide +kernel
theorem dX10_comes_244 : decode cX10_comes 244 = .ok (.iload_n 1, 1) := by decide +kernel
theorem dX10_comes_245 : decode cX10_comes 245 = .ok (.bipush 8, 2) := by decide +kernel
theorem dX10_comes_247 : decode cX10_comes 247 = .ok (.iload_n 2, 1) := by decide +kernel
theorem dX10_comes_248 : decode cX10_comes 248 = .ok (.iload_n 3, 1) := by decide +kernel
theorem dX10_comes_249 : decode cX10_comes 249 = .ok (.iadd, 1) := by decide +kernel
theorem dX10_comes_250 : decode cX10_comes 250 = .ok (.imul, 1) := by decide +kernel
theorem dX10_comes_251 : decode cX10_comes 251 = .ok (.iadd, 1) := by decide +kernel
theorem dX10_comes_252 : decode cX10_comes 252 = .ok (.iload 4, 2) := by decide +kernel
theorem dX10_comes_254 : decode cX10_comes 254 = .ok (.iadd, 1) := by decide +kernel
theorem dX10_comes_255 : decode cX10_comes 255 = .ok (.aload_n 0, 1) := by decide +kernel
theorem dX10_comes_256 : decode cX10_comes 256 = .ok (.getfield 86, 3) := by decide +kernel
theorem dX10_comes_259 : decode cX10_comes 259 = .ok (.bipush 8, 2) := by decide +kernel
theorem dX10_comes_261 : decode cX10_comes 261 = .ok (.iload_n 3, 1) := by decide +kernel
theorem dX10_comes_262 : decode cX10_comes 262 = .ok (.imul, 1) := by decide +kernel
theorem dX10_comes_263 : decode cX10_comes 263 = .ok (.iload 4, 2) := by decide +kernel
theorem dX10_comes_265 : decode cX10_comes 265 = .ok (.iadd, 1) := by decide +kernel
theorem dX10_comes_266 : decode cX10_comes 266 = .ok (.iaload, 1) := by decide +kernel
theorem dX10_comes_267 : decode cX10_comes 267 = .ok (.iastore, 1) := by decide +kernel
theorem dX10_comes_268 : decode cX10_comes 268 = .ok (.iinc 4 1, 3) := by decide +kernel
theorem dX10_comes_271 : decode cX10_comes 271 = .ok (.goto (-40), 3) := by decide +kernel
theorem dX10_comes_274 : decode cX10_comes 274 = .ok (.iinc 3 1, 3) := by decide +kernel
theorem dX10_comes_277 : decode cX10_comes 277 = .ok (.goto (-57), 3) := by decide +kernel
theorem dX10_comes_280 : decode cX10_comes 280 = .ok (.aload_n 0, 1) := by decide +kernel
theorem dX10_comes_281 : decode cX10_comes 281 = .ok (.getfield 101, 3) := by decide +kernel
theorem dX10_comes_284 : decode cX10_comes 284 = .ok (.aload_n 0, 1) := by decide +kernel
theorem dX10_comes_285 : decode cX10_comes 285 = .ok (.getfield 224, 3) := by decide +kernel
theorem dX10_comes_288 : decode cX10_comes 288 = .ok (.aload_n 0, 1) := by decide +kernel
theorem dX10_comes_289 : decode cX10_comes 289 = .ok (.getfield 236, 3) := by decide +kernel
theorem dX10_comes_292 : decode cX10_comes 292 = .ok (.iastore, 1) := by decide +kernel
theorem dX10_comes_293 : decode cX10_comes 293 = .ok (.aload_n 0, 1) := by decide +kernel
theorem dX10_comes_294 : decode cX10_comes 294 = .ok (.getfield 104, 3) := by decide +kernel
theorem dX10_comes_297 : decode cX10_comes 297 = .ok (.aload_n 0, 1) := by decide +kernel
theorem dX10_comes_298 : decode cX10_comes 298 = .ok (.getfield 224, 3) := by decide +kernel
theorem dX10_comes_301 : decode cX10_comes 301 = .ok (.iload_n 2, 1) := by decide +kernel
theorem dX10_comes_302 : decode cX10_comes 302 = .ok (.aload_n 0, 1) := by decide +kernel
theorem dX10_comes_303 : decode cX10_comes 303 = .ok (.getfield 233, 3) := by decide +kernel
theorem dX10_comes_306 : decode cX10_comes 306 = .ok (.iadd, 1) := by decide +kernel
theorem dX10_comes_307 : decode cX10_comes 307 = .ok (.iastore, 1) := by decide +kernel
theorem dX10_comes_308 : decode cX10_comes 308 = .ok (.return_, 1) := by decide +kernel
theorem dX10_ends_0 : decode cX10_ends 0 = .ok (.bipush 64, 2) := by decide +kernel
theorem dX10_ends_2 : decode cX10_ends 2 = .ok (.aload_n 0, 1) := by decide +kernel
theorem dX10_ends_3 : decode cX10_ends 3 = .ok (.getfield 224, 3) := by decide +kernel
theorem dX10_ends_6 : decode cX10_ends 6 = .ok (.imul, 1) := by decide +kernel
theorem dX10_ends_7 : decode cX10_ends 7 = .ok (.istore_n 1, 1) := by decide +kernel
theorem dX10_ends_8 : decode cX10_ends 8 = .ok (.aload_n 0, 1) := by decide +kernel
theorem dX10_ends_9 : decode cX10_ends 9 = .ok (.getfield 92, 3) := by decide +kernel
theorem dX10_ends_12 : decode cX10_ends 12 = .ok (.aload_n 0, 1) := by decide +kernel
theorem dX10_ends_13 : decode cX10_ends 13 = .ok (.getfield 224, 3) := by decide +kernel
theorem dX10_ends_16 : decode cX10_ends 16 = .ok (.iaload, 1) := by decide +kernel
theorem dX10_ends_17 : decode cX10_ends 17 = .ok (.istore_n 2, 1) := by decide +kernel
theorem dX10_ends_18 : decode cX10_ends 18 = .ok (.iload_n 2, 1) := by decide +kernel
theorem dX10_ends_19 : decode cX10_ends 19 = .ok (.ifCond .le 41, 3) := by decide +kernel
theorem dX10_ends_22 : decode cX10_ends 22 = .ok (.aload_n 0, 1) := by decide +kernel
theorem dX10_ends_23 : decode cX10_ends 23 = .ok (.getfield 95, 3) := by decide +kernel
theorem dX10_ends_26 : decode cX10_ends 26 = .ok (.aload_n 0, 1) := by decide +kernel
theorem dX10_ends_27 : decode cX10_ends 27 = .ok (.getfield 224, 3) := by decide +kernel
theorem dX10_ends_30 : decode cX10_ends 30 = .ok (.iaload, 1) := by decide +kernel
theorem dX10_ends_31 : decode cX10_ends 31 = .ok (.aload_n 0, 1) := by decide +kernel
theorem dX10_ends_32 : decode cX10_ends 32 = .ok (.getfield 104, 3) := by decide +kernel
theorem dX10_ends_35 : decode cX10_ends 35 = .ok (.aload_n 0, 1) := by decide +kernel
theorem dX10_ends_36 : decode cX10_ends 36 = .ok (.getfield 224, 3) := by decide +kernel
theorem dX10_ends_39 : decode cX10_ends 39 = .ok (.iaload, 1) := by decide +kernel
theorem dX10_ends_40 : decode cX10_ends 40 = .ok (.if_icmp .eq 20, 3) := by decide +kernel
theorem dX10_ends_43 : decode cX10_ends 43 = .ok (.aload_n 0, 1) := by decide +kernel
theorem dX10_ends_44 : decode cX10_ends 44 = .ok (.iconst 2, 1) := by decide +kernel
theorem dX10_ends_45 : decode cX10_ends 45 = .ok (.aload_n 0, 1) := by decide +kernel
theorem dX10_ends_46 : decode cX10_ends 46 = .ok (.getfield 110, 3) := by decide +kernel
theorem dX10_ends_49 : decode cX10_ends 49 = .ok (.aload_n 0, 1) := by decide +kernel
theorem dX10_ends_50 : decode cX10_ends 50 = .ok (.getfield 224, 3) := by decide +kernel
theorem dX10_ends_53 : decode cX10_ends 53 = .ok (.iaload, 1) := by decide +kernel
theorem dX10_ends_54 : decode cX10_ends 54 = .ok (.invokevirtual 230, 3) := by decide +kernel
theorem dX10_ends_57 : decode cX10_ends 57 = .ok (.goto 33, 3) := by decide +kernel
theorem dX10_ends_60 : decode cX10_ends 60 = .ok (.iload_n 2, 1) := by decide +kernel
theorem dX10_ends_61 : decode cX10_ends 61 = .ok (.aload_n 0, 1) := by decide +kernel
theorem dX10_ends_62 : decode cX10_ends 62 = .ok (.getfield 101, 3) := by decide +kernel
theorem dX10_ends_65 : decode cX10_ends 65 = .ok (.aload_n 0, 1) := by decide +kernel
theorem dX10_ends_66 : decode cX10_ends 66 = .ok (.getfield 224, 3) := by decide +kernel
theorem dX10_ends_69 : decode cX10_ends 69 = .ok (.iaload, 1) := by decide +kernel
theorem dX10_ends_70 : decode cX10_ends 70 = .ok (.iadd, 1) := by decide +kernel
theorem dX10_ends_71 : decode cX10_ends 71 = .ok (.bipush 8, 2) := by decide +kernel
theorem dX10_ends_73 : decode cX10_ends 73 = .ok (.if_icmp .le 17, 3) := by decide +kernel
theorem dX10_ends_76 : decode cX10_ends 76 = .ok (.aload_n 0, 1) := by decide +kernel
theorem dX10_ends_77 : decode cX10_ends 77 = .ok (.iconst 3, 1) := by decide +kernel
theorem dX10_ends_78 : decode cX10_ends 78 = .ok (.aload_n 0, 1) := by decide +kernel
theorem dX10_ends_79 : decode cX10_ends 79 = .ok (.getfield 110, 3) := by decide +kernel
theorem dX10_ends_82 : decode cX10_ends 82 = .ok (.aload_n 0, 1) := by decide +kernel
theorem dX10_ends_83 : decode cX10_ends 83 = .ok (.getfield 224, 3) := by decide +kernel
theorem dX10_ends_86 : decode cX10_ends 86 = .ok (.iaload, 1) := by decide +kernel
theorem dX10_ends_87 : decode cX10_ends 87 = .ok (.invokevirtual 230, 3) := by decide +kernel
theorem dX10_ends_90 : decode cX10_ends 90 = .ok (.aload_n 0, 1) := by decide +kernel
theorem dX10_ends_91 : decode cX10_ends 91 = .ok (.getfield 212, 3) := by decide +kernel
theorem dX10_ends_94 : decode cX10_ends 94 = .ok (.ifCond .eq 4, 3) := by decide +kernel
theorem dX10_ends_97 : decode cX10_ends 97 = .ok (.return_, 1) := by decide +kernel
theorem dX10_ends_98 : decode cX10_ends 98 = .ok (.iconst 0, 1) := by decide +kernel
theorem dX10_ends_99 : decode cX10_ends 99 = .ok (.istore_n 3, 1) := by decide +kernel
theorem dX10_ends_100 : decode cX10_ends 100 = .ok (.iload_n 3, 1) := by decide +kernel
theorem dX10_ends_101 : decode cX10_ends 101 = .ok (.aload_n 0, 1) := by decide +kernel
theorem dX10_ends_102 : decode cX10_ends 102 = .ok (.getfield 104, 3) := by decide +kernel
theorem dX10_ends_105 : decode cX10_ends 105 = .ok (.aload_n 0, 1) := by decide +kernel
theorem dX10_ends_106 : decode cX10_ends 106 = .ok (.getfield 224, 3) := by decide +kernel
theorem dX10_ends_109 : decode cX10_ends 109 = .ok (.iaload, 1) := by decide +kernel
theorem dX10_ends_110 : decode cX10_ends 110 = .ok (.if_icmp .ge 62, 3) := by decide +kernel
theorem dX10_ends_113 : decode cX10_ends 113 = .ok (.iconst 0, 1) := by decide +kernel
theorem dX10_ends_114 : decode cX10_ends 114 = .ok (.istore 4, 2) := by decide +kernel
theorem dX10_ends_116 : decode cX10_ends 116 = .ok (.iload 4, 2) := by decide +kernel
theorem dX10_ends_118 : decode cX10_ends 118 = .ok (.aload_n 0, 1) := by decide +kernel
theorem dX10_ends_119 : decode cX10_ends 119 = .ok (.getfield 101, 3) := by decide +kernel
theorem dX10_ends_122 : decode cX10_ends 122 = .ok (.aload_n 0, 1) := by decide +kernel
theorem dX10_ends_123 : decode cX10_ends 123 = .ok (.getfield 224, 3) := by decide +kernel
theorem dX10_ends_126 : decode cX10_ends 126 = .ok (.iaload, 1) := by decide +kernel
theorem dX10_ends_127 : decode cX10_ends 127 = .ok (.if_icmp .ge 39, 3) := by decide +kernel
theorem dX10_ends_130 : decode cX10_ends 130 = .ok (.aload_n 0, 1) := by decide +kernel
theorem dX10_ends_131 : decode cX10_ends 131 = .ok (.getfield 98, 3) := by decide +kernel
theorem dX10_ends_134 : decode cX10_ends 134 = .ok (.iload_n 1, 1) := by decide +kernel
theorem dX10_ends_135 : decode cX10_ends 135 = .ok (.bipush 8, 2) := by decide +kernel
theorem dX10_ends_137 : decode cX10_ends 137 = .ok (.iload_n 3, 1) := by decide +kernel
theorem dX10_ends_138 : decode cX10_ends 138 = .ok (.imul, 1) := by decide +kernel
theorem dX10_ends_139 : decode cX10_ends 139 = .ok (.iadd, 1) := by decide +kernel
theorem dX10_ends_140 : decode cX10_ends 140 = .ok (.iload_n 2, 1) := by decide +kernel
theorem dX10_ends_141 : decode cX10_ends 141 = .ok (.iadd, 1) := by decide +kernel
theorem dX10_ends_142 : decode cX10_ends 142 = .ok (.iload 4, 2) := by decide +kernel
theorem dX10_ends_144 : decode cX10_ends 144 = .ok (.iadd, 1) := by decide +kernel
theorem dX10_ends_145 : decode cX10_ends 145 = .ok (.aload_n 0, 1) := by decide +kernel
theorem dX10_ends_146 : decode cX10_ends 146 = .ok (.getfield 107, 3) := by decide +kernel
theorem dX10_ends_149 : decode cX10_ends 149 = .ok (.iload_n 1, 1) := by decide +kernel
theorem dX10_ends_150 : decode cX10_ends 150 = .ok (.bipush 8, 2) := by decide +kernel
theorem dX10_ends_152 : decode cX10_ends 152 = .ok (.iload_n 3, 1) := by decide +kernel
theorem dX10_ends_153 : decode cX10_ends 153 = .ok (.imul, 1) := by decide +kernel
theorem dX10_ends_154 : decode cX10_ends 154 = .ok (.iadd, 1) := by decide +kernel
theorem dX10_ends_155 : decode cX10_ends 155 = .ok (.iload 4, 2) := by decide +kernel
theorem dX10_ends_157 : decode cX10_ends 157 = .ok (.iadd, 1) := by decide +kernel
theorem dX10_ends_158 : decode cX10_ends 158 = .ok (.iaload, 1) := by decide +kernel
theorem dX10_ends_159 : decode cX10_ends 159 = .ok (.iastore, 1) := by decide +kernel
theorem dX10_ends_160 : decode cX10_ends 160 = .ok (.iinc 4 1, 3) := by decide +kernel
theorem dX10_ends_163 : decode cX10_ends 163 = .ok (.goto (-47), 3) := by decide +kernel
theorem dX10_ends_166 : decode cX10_ends 166 = .ok (.iinc 3 1, 3) := by decide +kernel
theorem dX10_ends_169 : decode cX10_ends 169 = .ok (.goto (-69), 3) := by decide +kernel
theorem dX10_ends_172 : decode cX10_ends 172 = .ok (.aload_n 0, 1) := by decide +kernel
theorem dX10_ends_173 : decode cX10_ends 173 = .ok (.getfield 92, 3) := by decide +kernel
theorem dX10_ends_176 : decode cX10_ends 176 = .ok (.aload_n 0, 1) := by decide +kernel
theorem dX10_ends_177 : decode cX10_ends 177 = .ok (.getfield 224, 3) := by decide +kernel
theorem dX10_ends_180 : decode cX10_ends 180 = .ok (.iload_n 2, 1) := by decide +kernel
theorem dX10_ends_181 : decode cX10_ends 181 = .ok (.aload_n 0, 1) := by decide +kernel
theorem dX10_ends_182 : decode cX10_ends 182 = .ok (.getfield 101, 3) := by decide +kernel
theorem dX10_ends_185 : decode cX10_ends 185 = .ok (.aload_n 0, 1) := by decide +kernel
theorem dX10_ends_186 : decode cX10_ends 186 = .ok (.getfield 224, 3) := by decide +kernel
theorem dX10_ends_189 : decode cX10_ends 189 = .ok (.iaload, 1) := by decide +kernel
theorem dX10_ends_190 : decode cX10_ends 190 = .ok (.iadd, 1) := by decide +kernel
theorem dX10_ends_191 : decode cX10_ends 191 = .ok (.iastore, 1) := by decide +kernel
theorem dX10_ends_192 : decode cX10_ends 192 = .ok (.aload_n 0, 1) := by decide +kernel
theorem dX10_ends_193 : decode cX10_ends 193 = .ok (.getfield 95, 3) := by decide +kernel
theorem dX10_ends_196 : decode cX10_ends 196 = .ok (.aload_n 0, 1) := by decide +kernel
theorem dX10_ends_197 : decode cX10_ends 197 = .ok (.getfield 224, 3) := by decide +kernel
theorem dX10_ends_200 : decode cX10_ends 200 = .ok (.aload_n 0, 1) := by decide +kernel
theorem dX10_ends_201 : decode cX10_ends 201 = .ok (.getfield 104, 3) := by decide +kernel
theorem dX10_ends_204 : decode cX10_ends 204 = .ok (.aload_n 0, 1) := by decide +kernel
theorem dX10_ends_205 : decode cX10_ends 205 = .ok (.getfield 224, 3) := by decide +kernel
theorem dX10_ends_208 : decode cX10_ends 208 = .ok (.iaload, 1) := by decide +kernel
theorem dX10_ends_209 : decode cX10_ends 209 = .ok (.iastore, 1) := by decide +kernel
theorem dX10_ends_210 : decode cX10_ends 210 = .ok (.aload_n 0, 1) := by decide +kernel
theorem dX10_ends_211 : decode cX10_ends 211 = .ok (.getfield 101, 3) := by decide +kernel
theorem dX10_ends_214 : decode cX10_ends 214 = .ok (.aload_n 0, 1) := by decide +kernel
theorem dX10_ends_215 : decode cX10_ends 215 = .ok (.getfield 224, 3) := by decide +kernel
theorem dX10_ends_218 : decode cX10_ends 218 = .ok (.iconst 0, 1) := by decide +kernel
theorem dX10_ends_219 : decode cX10_ends 219 = .ok (.iastore, 1) := by decide +kernel
theorem dX10_ends_220 : decode cX10_ends 220 = .ok (.return_, 1) := by decide +kernel
theorem dX10_rowIsPart_0 : decode cX10_rowIsPart 0 = .ok (.aload_n 0, 1) := by decide +kernel
theorem dX10_rowIsPart_1 : decode cX10_rowIsPart 1 = .ok (.aload_n 0, 1) := by decide +kernel
theorem dX10_rowIsPart_2 : decode cX10_rowIsPart 2 = .ok (.getfield 92, 3) := by decide +kernel
theorem dX10_rowIsPart_5 : decode cX10_rowIsPart 5 = .ok (.aload_n 0, 1) := by decide +kernel
theorem dX10_rowIsPart_6 : decode cX10_rowIsPart 6 = .ok (.getfield 224, 3) := by decide +kernel
theorem dX10_rowIsPart_9 : decode cX10_rowIsPart 9 = .ok (.iaload, 1) := by decide +kernel
theorem dX10_rowIsPart_10 : decode cX10_rowIsPart 10 = .ok (.putfield 236, 3) := by decide +kernel
theorem dX10_rowIsPart_13 : decode cX10_rowIsPart 13 = .ok (.aload_n 0, 1) := by decide +kernel
theorem dX10_rowIsPart_14 : decode cX10_rowIsPart 14 = .ok (.aload_n 0, 1) := by decide +kernel
theorem dX10_rowIsPart_15 : decode cX10_rowIsPart 15 = .ok (.getfield 95, 3) := by decide +kernel
theorem dX10_rowIsPart_18 : decode cX10_rowIsPart 18 = .ok (.aload_n 0, 1) := by decide +kernel
theorem dX10_rowIsPart_19 : decode cX10_rowIsPart 19 = .ok (.getfield 224, 3) := by decide +kernel
theorem dX10_rowIsPart_22 : decode cX10_rowIsPart 22 = .ok (.iaload, 1) := by decide +kernel
theorem dX10_rowIsPart_23 : decode cX10_rowIsPart 23 = .ok (.putfield 233, 3) := by decide +kernel
theorem dX10_rowIsPart_26 : decode cX10_rowIsPart 26 = .ok (.iconst 0, 1) := by decide +kernel
theorem dX10_rowIsPart_27 : decode cX10_rowIsPart 27 = .ok (.istore_n 1, 1) := by decide +kernel
theorem dX10_rowIsPart_28 : decode cX10_rowIsPart 28 = .ok (.iload_n 1, 1) := by decide +kernel
theorem dX10_rowIsPart_29 : decode cX10_rowIsPart 29 = .ok (.bipush 64, 2) := by decide +kernel
theorem dX10_rowIsPart_31 : decode cX10_rowIsPart 31 = .ok (.if_icmp .ge 29, 3) := by decide +kernel
theorem dX10_rowIsPart_34 : decode cX10_rowIsPart 34 = .ok (.aload_n 0, 1) := by decide +kernel
theorem dX10_rowIsPart_35 : decode cX10_rowIsPart 35 = .ok (.getfield 86, 3) := by decide +kernel
theorem dX10_rowIsPart_38 : decode cX10_rowIsPart 38 = .ok (.iload_n 1, 1) := by decide +kernel
theorem dX10_rowIsPart_39 : decode cX10_rowIsPart 39 = .ok (.aload_n 0, 1) := by decide +kernel
theorem dX10_rowIsPart_40 : decode cX10_rowIsPart 40 = .ok (.getfield 98, 3) := by decide +kernel
theorem dX10_rowIsPart_43 : decode cX10_rowIsPart 43 = .ok (.bipush 64, 2) := by decide +kernel
theorem dX10_rowIsPart_45 : decode cX10_rowIsPart 45 = .ok (.aload_n 0, 1) := by decide +kernel
theorem dX10_rowIsPart_46 : decode cX10_rowIsPart 46 = .ok (.getfield 224, 3) := by decide +kernel
theorem dX10_rowIsPart_49 : decode cX10_rowIsPart 49 = .ok (.imul, 1) := by decide +kernel
theorem dX10_rowIsPart_50 : decode cX10_rowIsPart 50 = .ok (.iload_n 1, 1) := by decide +kernel
theorem dX10_rowIsPart_51 : decode cX10_rowIsPart 51 = .ok (.iadd, 1) := by decide +kernel
theorem dX10_rowIsPart_52 : decode cX10_rowIsPart 52 = .ok (.iaload, 1) := by decide +kernel
theorem dX10_rowIsPart_53 : decode cX10_rowIsPart 53 = .ok (.iastore, 1) := by decide +kernel
theorem dX10_rowIsPart_54 : decode cX10_rowIsPart 54 = .ok (.iinc 1 1, 3) := by decide +kernel
theorem dX10_rowIsPart_57 : decode cX10_rowIsPart 57 = .ok (.goto (-29), 3) := by decide +kernel
theorem dX10_rowIsPart_60 : decode cX10_rowIsPart 60 = .ok (.return_, 1) := by decide +kernel
theorem dX10_parts_0 : decode cX10_parts 0 = .ok (.aload_n 0, 1) := by decide +kernel
theorem dX10_parts_1 : decode cX10_parts 1 = .ok (.invokevirtual 246, 3) := by decide +kernel
theorem dX10_parts_4 : decode cX10_parts 4 = .ok (.istore_n 1, 1) := by decide +kernel
theorem dX10_parts_5 : decode cX10_parts 5 = .ok (.aload_n 0, 1) := by decide +kernel
theorem dX10_parts_6 : decode cX10_parts 6 = .ok (.getfield 218, 3) := by decide +kernel
theorem dX10_parts_9 : decode cX10_parts 9 = .ok (.istore_n 2, 1) := by decide +kernel
theorem dX10_parts_10 : decode cX10_parts 10 = .ok (.iload_n 1, 1) := by decide +kernel
theorem dX10_parts_11 : decode cX10_parts 11 = .ok (.bipush 48, 2) := by decide +kernel
theorem dX10_parts_13 : decode cX10_parts 13 = .ok (.if_icmp .lt 83, 3) := by decide +kernel
theorem dX10_parts_16 : decode cX10_parts 16 = .ok (.iload_n 1, 1) := by decide +kernel
theorem dX10_parts_17 : decode cX10_parts 17 = .ok (.bipush 57, 2) := by decide +kernel
theorem dX10_parts_19 : decode cX10_parts 19 = .ok (.if_icmp .gt 77, 3) := by decide +kernel
theorem dX10_parts_22 : decode cX10_parts 22 = .ok (.aload_n 0, 1) := by decide +kernel
theorem dX10_parts_23 : decode cX10_parts 23 = .ok (.dup, 1) := by decide +kernel
theorem dX10_parts_24 : decode cX10_parts 24 = .ok (.getfield 218, 3) := by decide +kernel
theorem dX10_parts_27 : decode cX10_parts 27 = .ok (.iconst 1, 1) := by decide +kernel
theorem dX10_parts_28 : decode cX10_parts 28 = .ok (.iadd, 1) := by decide +kernel
theorem dX10_parts_29 : decode cX10_parts 29 = .ok (.putfield 218, 3) := by decide +kernel
theorem dX10_parts_32 : decode cX10_parts 32 = .ok (.iload_n 1, 1) := by decide +kernel
theorem dX10_parts_33 : decode cX10_parts 33 = .ok (.bipush 49, 2) := by decide +kernel
theorem dX10_parts_35 : decode cX10_parts 35 = .ok (.if_icmp .le 39, 3) := by decide +kernel
theorem dX10_parts_38 : decode cX10_parts 38 = .ok (.aload_n 0, 1) := by decide +kernel
theorem dX10_parts_39 : decode cX10_parts 39 = .ok (.invokevirtual 246, 3) := by decide +kernel
theorem dX10_parts_42 : decode cX10_parts 42 = .ok (.bipush 120, 2) := by decide +kernel
theorem dX10_parts_44 : decode cX10_parts 44 = .ok (.if_icmp .ne 30, 3) := by decide +kernel
theorem dX10_parts_47 : decode cX10_parts 47 = .ok (.aload_n 0, 1) := by decide +kernel
theorem dX10_parts_48 : decode cX10_parts 48 = .ok (.bipush 120, 2) := by decide +kernel
theorem dX10_parts_50 : decode cX10_parts 50 = .ok (.iload_n 1, 1) := by decide +kernel
theorem dX10_parts_51 : decode cX10_parts 51 = .ok (.bipush 48, 2) := by decide +kernel
theorem dX10_parts_53 : decode cX10_parts 53 = .ok (.isub, 1) := by decide +kernel
theorem dX10_parts_54 : decode cX10_parts 54 = .ok (.iload_n 2, 1) := by decide +kernel
theorem dX10_parts_55 : decode cX10_parts 55 = .ok (.aload_n 0, 1) := by decide +kernel
theorem dX10_parts_56 : decode cX10_parts 56 = .ok (.getfield 218, 3) := by decide +kernel
theorem dX10_parts_59 : decode cX10_parts 59 = .ok (.invokevirtual 250, 3) := by decide +kernel
theorem dX10_parts_62 : decode cX10_parts 62 = .ok (.aload_n 0, 1) := by decide +kernel
theorem dX10_parts_63 : decode cX10_parts 63 = .ok (.dup, 1) := by decide +kernel
theorem dX10_parts_64 : decode cX10_parts 64 = .ok (.getfield 218, 3) := by decide +kernel
theorem dX10_parts_67 : decode cX10_parts 67 = .ok (.iconst 1, 1) := by decide +kernel
theorem dX10_parts_68 : decode cX10_parts 68 = .ok (.iadd, 1) := by decide +kernel
theorem dX10_parts_69 : decode cX10_parts 69 = .ok (.putfield 218, 3) := by decide +kernel
theorem dX10_parts_72 : decode cX10_parts 72 = .ok (.iconst 0, 1) := by decide +kernel
theorem dX10_parts_73 : decode cX10_parts 73 = .ok (.ireturn, 1) := by decide +kernel
theorem dX10_parts_74 : decode cX10_parts 74 = .ok (.aload_n 0, 1) := by decide +kernel
theorem dX10_parts_75 : decode cX10_parts 75 = .ok (.iconst 1, 1) := by decide +kernel
end
section
theorem dX10_parts_76 : decode cX10_parts 76 = .ok (.putfield 236, 3) := by decide +kernel
theorem dX10_parts_79 : decode cX10_parts 79 = .ok (.aload_n 0, 1) := by decide +kernel
theorem dX10_parts_80 : decode cX10_parts 80 = .ok (.iconst 1, 1) := by decide +kernel
theorem dX10_parts_81 : decode cX10_parts 81 = .ok (.putfield 233, 3) := by decide +kernel
theorem dX10_parts_84 : decode cX10_parts 84 = .ok (.aload_n 0, 1) := by decide +kernel
theorem dX10_parts_85 : decode cX10_parts 85 = .ok (.getfield 86, 3) := by decide +kernel
theorem dX10_parts_88 : decode cX10_parts 88 = .ok (.iconst 0, 1) := by decide +kernel
theorem dX10_parts_89 : decode cX10_parts 89 = .ok (.iload_n 1, 1) := by decide +kernel
theorem dX10_parts_90 : decode cX10_parts 90 = .ok (.bipush 48, 2) := by decide +kernel
theorem dX10_parts_92 : decode cX10_parts 92 = .ok (.isub, 1) := by decide +kernel
theorem dX10_parts_93 : decode cX10_parts 93 = .ok (.iastore, 1) := by decide +kernel
theorem dX10_parts_94 : decode cX10_parts 94 = .ok (.iconst 1, 1) := by decide +kernel
theorem dX10_parts_95 : decode cX10_parts 95 = .ok (.ireturn, 1) := by decide +kernel
theorem dX10_parts_96 : decode cX10_parts 96 = .ok (.iload_n 1, 1) := by decide +kernel
theorem dX10_parts_97 : decode cX10_parts 97 = .ok (.bipush 40, 2) := by decide +kernel
theorem dX10_parts_99 : decode cX10_parts 99 = .ok (.if_icmp .eq 26, 3) := by decide +kernel
theorem dX10_parts_102 : decode cX10_parts 102 = .ok (.iload_n 1, 1) := by decide +kernel
theorem dX10_parts_103 : decode cX10_parts 103 = .ok (.bipush 33, 2) := by decide +kernel
theorem dX10_parts_105 : decode cX10_parts 105 = .ok (.if_icmp .eq 20, 3) := by decide +kernel
theorem dX10_parts_108 : decode cX10_parts 108 = .ok (.iload_n 1, 1) := by decide +kernel
theorem dX10_parts_109 : decode cX10_parts 109 = .ok (.bipush 126, 2) := by decide +kernel
theorem dX10_parts_111 : decode cX10_parts 111 = .ok (.if_icmp .eq 14, 3) := by decide +kernel
theorem dX10_parts_114 : decode cX10_parts 114 = .ok (.aload_n 0, 1) := by decide +kernel
theorem dX10_parts_115 : decode cX10_parts 115 = .ok (.iconst 1, 1) := by decide +kernel
theorem dX10_parts_116 : decode cX10_parts 116 = .ok (.aload_n 0, 1) := by decide +kernel
theorem dX10_parts_117 : decode cX10_parts 117 = .ok (.getfield 218, 3) := by decide +kernel
theorem dX10_parts_120 : decode cX10_parts 120 = .ok (.invokevirtual 230, 3) := by decide +kernel
theorem dX10_parts_123 : decode cX10_parts 123 = .ok (.iconst 0, 1) := by decide +kernel
theorem dX10_parts_124 : decode cX10_parts 124 = .ok (.ireturn, 1) := by decide +kernel
theorem dX10_parts_125 : decode cX10_parts 125 = .ok (.aload_n 0, 1) := by decide +kernel
theorem dX10_parts_126 : decode cX10_parts 126 = .ok (.iload_n 1, 1) := by decide +kernel
theorem dX10_parts_127 : decode cX10_parts 127 = .ok (.iconst 0, 1) := by decide +kernel
theorem dX10_parts_128 : decode cX10_parts 128 = .ok (.iload_n 2, 1) := by decide +kernel
theorem dX10_parts_129 : decode cX10_parts 129 = .ok (.iload_n 2, 1) := by decide +kernel
theorem dX10_parts_130 : decode cX10_parts 130 = .ok (.invokevirtual 250, 3) := by decide +kernel
theorem dX10_parts_133 : decode cX10_parts 133 = .ok (.aload_n 0, 1) := by decide +kernel
theorem dX10_parts_134 : decode cX10_parts 134 = .ok (.dup, 1) := by decide +kernel
theorem dX10_parts_135 : decode cX10_parts 135 = .ok (.getfield 218, 3) := by decide +kernel
theorem dX10_parts_138 : decode cX10_parts 138 = .ok (.iconst 1, 1) := by decide +kernel
theorem dX10_parts_139 : decode cX10_parts 139 = .ok (.iadd, 1) := by decide +kernel
theorem dX10_parts_140 : decode cX10_parts 140 = .ok (.putfield 218, 3) := by decide +kernel
theorem dX10_parts_143 : decode cX10_parts 143 = .ok (.iload_n 1, 1) := by decide +kernel
theorem dX10_parts_144 : decode cX10_parts 144 = .ok (.bipush 40, 2) := by decide +kernel
theorem dX10_parts_146 : decode cX10_parts 146 = .ok (.if_icmp .ne 24, 3) := by decide +kernel
theorem dX10_parts_149 : decode cX10_parts 149 = .ok (.aload_n 0, 1) := by decide +kernel
theorem dX10_parts_150 : decode cX10_parts 150 = .ok (.getfield 212, 3) := by decide +kernel
theorem dX10_parts_153 : decode cX10_parts 153 = .ok (.ifCond .ne 17, 3) := by decide +kernel
theorem dX10_parts_156 : decode cX10_parts 156 = .ok (.aload_n 0, 1) := by decide +kernel
theorem dX10_parts_157 : decode cX10_parts 157 = .ok (.dup, 1) := by decide +kernel
theorem dX10_parts_158 : decode cX10_parts 158 = .ok (.getfield 224, 3) := by decide +kernel
theorem dX10_parts_161 : decode cX10_parts 161 = .ok (.iconst 1, 1) := by decide +kernel
theorem dX10_parts_162 : decode cX10_parts 162 = .ok (.iadd, 1) := by decide +kernel
theorem dX10_parts_163 : decode cX10_parts 163 = .ok (.putfield 224, 3) := by decide +kernel
theorem dX10_parts_166 : decode cX10_parts 166 = .ok (.aload_n 0, 1) := by decide +kernel
theorem dX10_parts_167 : decode cX10_parts 167 = .ok (.invokevirtual 254, 3) := by decide +kernel
theorem dX10_parts_170 : decode cX10_parts 170 = .ok (.iconst 0, 1) := by decide +kernel
theorem dX10_parts_171 : decode cX10_parts 171 = .ok (.ireturn, 1) := by decide +kernel
theorem dX10_draws_0 : decode cX10_draws 0 = .ok (.aload_n 0, 1) := by decide +kernel
theorem dX10_draws_1 : decode cX10_draws 1 = .ok (.iconst 0, 1) := by decide +kernel
theorem dX10_draws_2 : decode cX10_draws 2 = .ok (.putfield 224, 3) := by decide +kernel
theorem dX10_draws_5 : decode cX10_draws 5 = .ok (.aload_n 0, 1) := by decide +kernel
theorem dX10_draws_6 : decode cX10_draws 6 = .ok (.iconst 0, 1) := by decide +kernel
theorem dX10_draws_7 : decode cX10_draws 7 = .ok (.putfield 227, 3) := by decide +kernel
theorem dX10_draws_10 : decode cX10_draws 10 = .ok (.aload_n 0, 1) := by decide +kernel
theorem dX10_draws_11 : decode cX10_draws 11 = .ok (.invokevirtual 254, 3) := by decide +kernel
theorem dX10_draws_14 : decode cX10_draws 14 = .ok (.iconst 1, 1) := by decide +kernel
theorem dX10_draws_15 : decode cX10_draws 15 = .ok (.istore_n 1, 1) := by decide +kernel
theorem dX10_draws_16 : decode cX10_draws 16 = .ok (.iconst 1, 1) := by decide +kernel
theorem dX10_draws_17 : decode cX10_draws 17 = .ok (.istore_n 2, 1) := by decide +kernel
theorem dX10_draws_18 : decode cX10_draws 18 = .ok (.iload_n 2, 1) := by decide +kernel
theorem dX10_draws_19 : decode cX10_draws 19 = .ok (.ifCond .eq 234, 3) := by decide +kernel
theorem dX10_draws_22 : decode cX10_draws 22 = .ok (.aload_n 0, 1) := by decide +kernel
theorem dX10_draws_23 : decode cX10_draws 23 = .ok (.getfield 212, 3) := by decide +kernel
theorem dX10_draws_26 : decode cX10_draws 26 = .ok (.ifCond .ne 227, 3) := by decide +kernel
theorem dX10_draws_29 : decode cX10_draws 29 = .ok (.iload_n 1, 1) := by decide +kernel
theorem dX10_draws_30 : decode cX10_draws 30 = .ok (.ifCond .eq 22, 3) := by decide +kernel
theorem dX10_draws_33 : decode cX10_draws 33 = .ok (.aload_n 0, 1) := by decide +kernel
theorem dX10_draws_34 : decode cX10_draws 34 = .ok (.invokevirtual 257, 3) := by decide +kernel
theorem dX10_draws_37 : decode cX10_draws 37 = .ok (.ifCond .ne 6, 3) := by decide +kernel
theorem dX10_draws_40 : decode cX10_draws 40 = .ok (.goto (-22), 3) := by decide +kernel
theorem dX10_draws_43 : decode cX10_draws 43 = .ok (.aload_n 0, 1) := by decide +kernel
theorem dX10_draws_44 : decode cX10_draws 44 = .ok (.invokevirtual 261, 3) := by decide +kernel
theorem dX10_draws_47 : decode cX10_draws 47 = .ok (.iconst 0, 1) := by decide +kernel
theorem dX10_draws_48 : decode cX10_draws 48 = .ok (.istore_n 1, 1) := by decide +kernel
theorem dX10_draws_49 : decode cX10_draws 49 = .ok (.goto (-31), 3) := by decide +kernel
theorem dX10_draws_52 : decode cX10_draws 52 = .ok (.aload_n 0, 1) := by decide +kernel
theorem dX10_draws_53 : decode cX10_draws 53 = .ok (.invokevirtual 246, 3) := by decide +kernel
theorem dX10_draws_56 : decode cX10_draws 56 = .ok (.istore_n 3, 1) := by decide +kernel
theorem dX10_draws_57 : decode cX10_draws 57 = .ok (.iload_n 3, 1) := by decide +kernel
theorem dX10_draws_58 : decode cX10_draws 58 = .ok (.bipush 47, 2) := by decide +kernel
theorem dX10_draws_60 : decode cX10_draws 60 = .ok (.if_icmp .ne 31, 3) := by decide +kernel
theorem dX10_draws_63 : decode cX10_draws 63 = .ok (.aload_n 0, 1) := by decide +kernel
theorem dX10_draws_64 : decode cX10_draws 64 = .ok (.getfield 113, 3) := by decide +kernel
theorem dX10_draws_67 : decode cX10_draws 67 = .ok (.aload_n 0, 1) := by decide +kernel
theorem dX10_draws_68 : decode cX10_draws 68 = .ok (.getfield 224, 3) := by decide +kernel
theorem dX10_draws_71 : decode cX10_draws 71 = .ok (.aload_n 0, 1) := by decide +kernel
theorem dX10_draws_72 : decode cX10_draws 72 = .ok (.getfield 218, 3) := by decide +kernel
theorem dX10_draws_75 : decode cX10_draws 75 = .ok (.iastore, 1) := by decide +kernel
theorem dX10_draws_76 : decode cX10_draws 76 = .ok (.aload_n 0, 1) := by decide +kernel
theorem dX10_draws_77 : decode cX10_draws 77 = .ok (.dup, 1) := by decide +kernel
theorem dX10_draws_78 : decode cX10_draws 78 = .ok (.getfield 218, 3) := by decide +kernel
theorem dX10_draws_81 : decode cX10_draws 81 = .ok (.iconst 1, 1) := by decide +kernel
theorem dX10_draws_82 : decode cX10_draws 82 = .ok (.iadd, 1) := by decide +kernel
theorem dX10_draws_83 : decode cX10_draws 83 = .ok (.putfield 218, 3) := by decide +kernel
theorem dX10_draws_86 : decode cX10_draws 86 = .ok (.iconst 1, 1) := by decide +kernel
theorem dX10_draws_87 : decode cX10_draws 87 = .ok (.istore_n 1, 1) := by decide +kernel
theorem dX10_draws_88 : decode cX10_draws 88 = .ok (.goto (-70), 3) := by decide +kernel
theorem dX10_draws_91 : decode cX10_draws 91 = .ok (.aload_n 0, 1) := by decide +kernel
theorem dX10_draws_92 : decode cX10_draws 92 = .ok (.invokevirtual 264, 3) := by decide +kernel
theorem dX10_draws_95 : decode cX10_draws 95 = .ok (.aload_n 0, 1) := by decide +kernel
theorem dX10_draws_96 : decode cX10_draws 96 = .ok (.getfield 212, 3) := by decide +kernel
theorem dX10_draws_99 : decode cX10_draws 99 = .ok (.ifCond .ne 54, 3) := by decide +kernel
theorem dX10_draws_102 : decode cX10_draws 102 = .ok (.iload_n 3, 1) := by decide +kernel
theorem dX10_draws_103 : decode cX10_draws 103 = .ok (.bipush 124, 2) := by decide +kernel
theorem dX10_draws_105 : decode cX10_draws 105 = .ok (.if_icmp .eq 14, 3) := by decide +kernel
theorem dX10_draws_108 : decode cX10_draws 108 = .ok (.iload_n 3, 1) := by decide +kernel
theorem dX10_draws_109 : decode cX10_draws 109 = .ok (.bipush 41, 2) := by decide +kernel
theorem dX10_draws_111 : decode cX10_draws 111 = .ok (.if_icmp .eq 8, 3) := by decide +kernel
theorem dX10_draws_114 : decode cX10_draws 114 = .ok (.iload_n 3, 1) := by decide +kernel
theorem dX10_draws_115 : decode cX10_draws 115 = .ok (.iconst (-1), 1) := by decide +kernel
theorem dX10_draws_116 : decode cX10_draws 116 = .ok (.if_icmp .ne 28, 3) := by decide +kernel
theorem dX10_draws_119 : decode cX10_draws 119 = .ok (.iload_n 3, 1) := by decide +kernel
theorem dX10_draws_120 : decode cX10_draws 120 = .ok (.bipush 41, 2) := by decide +kernel
theorem dX10_draws_122 : decode cX10_draws 122 = .ok (.if_icmp .ne 10, 3) := by decide +kernel
theorem dX10_draws_125 : decode cX10_draws 125 = .ok (.aload_n 0, 1) := by decide +kernel
theorem dX10_draws_126 : decode cX10_draws 126 = .ok (.getfield 224, 3) := by decide +kernel
theorem dX10_draws_129 : decode cX10_draws 129 = .ok (.ifCond .eq 15, 3) := by decide +kernel
theorem dX10_draws_132 : decode cX10_draws 132 = .ok (.iload_n 3, 1) := by decide +kernel
theorem dX10_draws_133 : decode cX10_draws 133 = .ok (.iconst (-1), 1) := by decide +kernel
theorem dX10_draws_134 : decode cX10_draws 134 = .ok (.if_icmp .ne 19, 3) := by decide +kernel
theorem dX10_draws_137 : decode cX10_draws 137 = .ok (.aload_n 0, 1) := by decide +kernel
theorem dX10_draws_138 : decode cX10_draws 138 = .ok (.getfield 224, 3) := by decide +kernel
theorem dX10_draws_141 : decode cX10_draws 141 = .ok (.ifCond .le 12, 3) := by decide +kernel
theorem dX10_draws_144 : decode cX10_draws 144 = .ok (.aload_n 0, 1) := by decide +kernel
theorem dX10_draws_145 : decode cX10_draws 145 = .ok (.iconst 1, 1) := by decide +kernel
theorem dX10_draws_146 : decode cX10_draws 146 = .ok (.aload_n 0, 1) := by decide +kernel
theorem dX10_draws_147 : decode cX10_draws 147 = .ok (.getfield 218, 3) := by decide +kernel
theorem dX10_draws_150 : decode cX10_draws 150 = .ok (.invokevirtual 230, 3) := by decide +kernel
theorem dX10_draws_153 : decode cX10_draws 153 = .ok (.aload_n 0, 1) := by decide +kernel
theorem dX10_draws_154 : decode cX10_draws 154 = .ok (.getfield 212, 3) := by decide +kernel
theorem dX10_draws_157 : decode cX10_draws 157 = .ok (.ifCond .eq 6, 3) := by decide +kernel
theorem dX10_draws_160 : decode cX10_draws 160 = .ok (.goto (-142), 3) := by decide +kernel
theorem dX10_draws_163 : decode cX10_draws 163 = .ok (.iload_n 3, 1) := by decide +kernel
theorem dX10_draws_164 : decode cX10_draws 164 = .ok (.bipush 124, 2) := by decide +kernel
theorem dX10_draws_166 : decode cX10_draws 166 = .ok (.if_icmp .ne 31, 3) := by decide +kernel
theorem dX10_draws_169 : decode cX10_draws 169 = .ok (.aload_n 0, 1) := by decide +kernel
theorem dX10_draws_170 : decode cX10_draws 170 = .ok (.getfield 110, 3) := by decide +kernel
theorem dX10_draws_173 : decode cX10_draws 173 = .ok (.aload_n 0, 1) := by decide +kernel
theorem dX10_draws_174 : decode cX10_draws 174 = .ok (.getfield 224, 3) := by decide +kernel
theorem dX10_draws_177 : decode cX10_draws 177 = .ok (.aload_n 0, 1) := by decide +kernel
theorem dX10_draws_178 : decode cX10_draws 178 = .ok (.getfield 218, 3) := by decide +kernel
theorem dX10_draws_181 : decode cX10_draws 181 = .ok (.iastore, 1) := by decide +kernel
theorem dX10_draws_182 : decode cX10_draws 182 = .ok (.aload_n 0, 1) := by decide +kernel
theorem dX10_draws_183 : decode cX10_draws 183 = .ok (.dup, 1) := by decide +kernel
theorem dX10_draws_184 : decode cX10_draws 184 = .ok (.getfield 218, 3) := by decide +kernel
theorem dX10_draws_187 : decode cX10_draws 187 = .ok (.iconst 1, 1) := by decide +kernel
theorem dX10_draws_188 : decode cX10_draws 188 = .ok (.iadd, 1) := by decide +kernel
theorem dX10_draws_189 : decode cX10_draws 189 = .ok (.putfield 218, 3) := by decide +kernel
theorem dX10_draws_192 : decode cX10_draws 192 = .ok (.iconst 1, 1) := by decide +kernel
theorem dX10_draws_193 : decode cX10_draws 193 = .ok (.istore_n 1, 1) := by decide +kernel
theorem dX10_draws_194 : decode cX10_draws 194 = .ok (.goto 56, 3) := by decide +kernel
theorem dX10_draws_197 : decode cX10_draws 197 = .ok (.iload_n 3, 1) := by decide +kernel
theorem dX10_draws_198 : decode cX10_draws 198 = .ok (.bipush 41, 2) := by decide +kernel
theorem dX10_draws_200 : decode cX10_draws 200 = .ok (.if_icmp .ne 44, 3) := by decide +kernel
theorem dX10_draws_203 : decode cX10_draws 203 = .ok (.aload_n 0, 1) := by decide +kernel
theorem dX10_draws_204 : decode cX10_draws 204 = .ok (.dup, 1) := by decide +kernel
theorem dX10_draws_205 : decode cX10_draws 205 = .ok (.getfield 218, 3) := by decide +kernel
theorem dX10_draws_208 : decode cX10_draws 208 = .ok (.iconst 1, 1) := by decide +kernel
theorem dX10_draws_209 : decode cX10_draws 209 = .ok (.iadd, 1) := by decide +kernel
theorem dX10_draws_210 : decode cX10_draws 210 = .ok (.putfield 218, 3) := by decide +kernel
theorem dX10_draws_213 : decode cX10_draws 213 = .ok (.aload_n 0, 1) := by decide +kernel
theorem dX10_draws_214 : decode cX10_draws 214 = .ok (.invokevirtual 267, 3) := by decide +kernel
theorem dX10_draws_217 : decode cX10_draws 217 = .ok (.aload_n 0, 1) := by decide +kernel
theorem dX10_draws_218 : decode cX10_draws 218 = .ok (.dup, 1) := by decide +kernel
theorem dX10_draws_219 : decode cX10_draws 219 = .ok (.getfield 224, 3) := by decide +kernel
theorem dX10_draws_222 : decode cX10_draws 222 = .ok (.iconst 1, 1) := by decide +kernel
theorem dX10_draws_223 : decode cX10_draws 223 = .ok (.isub, 1) := by decide +kernel
theorem dX10_draws_224 : decode cX10_draws 224 = .ok (.putfield 224, 3) := by decide +kernel
theorem dX10_draws_227 : decode cX10_draws 227 = .ok (.aload_n 0, 1) := by decide +kernel
theorem dX10_draws_228 : decode cX10_draws 228 = .ok (.dup, 1) := by decide +kernel
theorem dX10_draws_229 : decode cX10_draws 229 = .ok (.getfield 227, 3) := by decide +kernel
theorem dX10_draws_232 : decode cX10_draws 232 = .ok (.iconst 1, 1) := by decide +kernel
theorem dX10_draws_233 : decode cX10_draws 233 = .ok (.isub, 1) := by decide +kernel
theorem dX10_draws_234 : decode cX10_draws 234 = .ok (.putfield 227, 3) := by decide +kernel
theorem dX10_draws_237 : decode cX10_draws 237 = .ok (.aload_n 0, 1) := by decide +kernel
theorem dX10_draws_238 : decode cX10_draws 238 = .ok (.invokevirtual 261, 3) := by decide +kernel
theorem dX10_draws_241 : decode cX10_draws 241 = .ok (.goto 9, 3) := by decide +kernel
theorem dX10_draws_244 : decode cX10_draws 244 = .ok (.aload_n 0, 1) := by decide +kernel
theorem dX10_draws_245 : decode cX10_draws 245 = .ok (.invokevirtual 267, 3) := by decide +kernel
theorem dX10_draws_248 : decode cX10_draws 248 = .ok (.iconst 0, 1) := by decide +kernel
theorem dX10_draws_249 : decode cX10_draws 249 = .ok (.istore_n 2, 1) := by decide +kernel
theorem dX10_draws_250 : decode cX10_draws 250 = .ok (.goto (-232), 3) := by decide +kernel
theorem dX10_draws_253 : decode cX10_draws 253 = .ok (.return_, 1) := by decide +kernel
theorem dX10_isDoor_0 : decode cX10_isDoor 0 = .ok (.iload_n 1, 1) := by decide +kernel
theorem dX10_isDoor_1 : decode cX10_isDoor 1 = .ok (.ifCond .lt 22, 3) := by decide +kernel
theorem dX10_isDoor_4 : decode cX10_isDoor 4 = .ok (.iload_n 1, 1) := by decide +kernel
theorem dX10_isDoor_5 : decode cX10_isDoor 5 = .ok (.bipush 8, 2) := by decide +kernel
theorem dX10_isDoor_7 : decode cX10_isDoor 7 = .ok (.if_icmp .ge 16, 3) := by decide +kernel
theorem dX10_isDoor_10 : decode cX10_isDoor 10 = .ok (.aload_n 0, 1) := by decide +kernel
theorem dX10_isDoor_11 : decode cX10_isDoor 11 = .ok (.getfield 125, 3) := by decide +kernel
theorem dX10_isDoor_14 : decode cX10_isDoor 14 = .ok (.iload_n 1, 1) := by decide +kernel
theorem dX10_isDoor_15 : decode cX10_isDoor 15 = .ok (.iaload, 1) := by decide +kernel
theorem dX10_isDoor_16 : decode cX10_isDoor 16 = .ok (.ifCond .le 7, 3) := by decide +kernel
theorem dX10_isDoor_19 : decode cX10_isDoor 19 = .ok (.iconst 1, 1) := by decide +kernel
theorem dX10_isDoor_20 : decode cX10_isDoor 20 = .ok (.goto 4, 3) := by decide +kernel
theorem dX10_isDoor_23 : decode cX10_isDoor 23 = .ok (.iconst 0, 1) := by decide +kernel
theorem dX10_isDoor_24 : decode cX10_isDoor 24 = .ok (.ireturn, 1) := by decide +kernel
theorem dX10_door_0 : decode cX10_door 0 = .ok (.iload_n 1, 1) := by decide +kernel
theorem dX10_door_1 : decode cX10_door 1 = .ok (.iconst 0, 1) := by decide +kernel
theorem dX10_door_2 : decode cX10_door 2 = .ok (.bipush 7, 2) := by decide +kernel
theorem dX10_door_4 : decode cX10_door 4 = .ok (.invokestatic 174, 3) := by decide +kernel
theorem dX10_door_7 : decode cX10_door 7 = .ok (.ifCond .eq 35, 3) := by decide +kernel
theorem dX10_door_10 : decode cX10_door 10 = .ok (.iload_n 2, 1) := by decide +kernel
theorem dX10_door_11 : decode cX10_door 11 = .ok (.iconst 1, 1) := by decide +kernel
theorem dX10_door_12 : decode cX10_door 12 = .ok (.bipush 60, 2) := by decide +kernel
theorem dX10_door_14 : decode cX10_door 14 = .ok (.invokestatic 174, 3) := by decide +kernel
theorem dX10_door_17 : decode cX10_door 17 = .ok (.ifCond .eq 25, 3) := by decide +kernel
theorem dX10_door_20 : decode cX10_door 20 = .ok (.iload_n 3, 1) := by decide +kernel
theorem dX10_door_21 : decode cX10_door 21 = .ok (.iconst 1, 1) := by decide +kernel
theorem dX10_door_22 : decode cX10_door 22 = .ok (.bipush 60, 2) := by decide +kernel
theorem dX10_door_24 : decode cX10_door 24 = .ok (.invokestatic 174, 3) := by decide +kernel
theorem dX10_door_27 : decode cX10_door 27 = .ok (.ifCond .eq 15, 3) := by decide +kernel
theorem dX10_door_30 : decode cX10_door 30 = .ok (.iload 4, 2) := by decide +kernel
theorem dX10_door_32 : decode cX10_door 32 = .ok (.iconst 0, 1) := by decide +kernel
theorem dX10_door_33 : decode cX10_door 33 = .ok (.sipush 200, 3) := by decide +kernel
theorem dX10_door_36 : decode cX10_door 36 = .ok (.invokestatic 174, 3) := by decide +kernel
theorem dX10_door_39 : decode cX10_door 39 = .ok (.ifCond .ne 6, 3) := by decide +kernel
theorem dX10_door_42 : decode cX10_door 42 = .ok (.bipush (-2), 2) := by decide +kernel
theorem dX10_door_44 : decode cX10_door 44 = .ok (.ireturn, 1) := by decide +kernel
theorem dX10_door_45 : decode cX10_door 45 = .ok (.aload_n 0, 1) := by decide +kernel
theorem dX10_door_46 : decode cX10_door 46 = .ok (.iconst 0, 1) := by decide +kernel
theorem dX10_door_47 : decode cX10_door 47 = .ok (.putfield 218, 3) := by decide +kernel
theorem dX10_door_50 : decode cX10_door 50 = .ok (.aload_n 0, 1) := by decide +kernel
theorem dX10_door_51 : decode cX10_door 51 = .ok (.aload_n 0, 1) := by decide +kernel
theorem dX10_door_52 : decode cX10_door 52 = .ok (.getfield 209, 3) := by decide +kernel
theorem dX10_door_55 : decode cX10_door 55 = .ok (.putfield 221, 3) := by decide +kernel
theorem dX10_door_58 : decode cX10_door 58 = .ok (.aload_n 0, 1) := by decide +kernel
theorem dX10_door_59 : decode cX10_door 59 = .ok (.iconst 0, 1) := by decide +kernel
theorem dX10_door_60 : decode cX10_door 60 = .ok (.putfield 209, 3) := by decide +kernel
theorem dX10_door_63 : decode cX10_door 63 = .ok (.aload_n 0, 1) := by decide +kernel
theorem dX10_door_64 : decode cX10_door 64 = .ok (.iconst 0, 1) := by decide +kernel
theorem dX10_door_65 : decode cX10_door 65 = .ok (.putfield 212, 3) := by decide +kernel
theorem dX10_door_68 : decode cX10_door 68 = .ok (.aload_n 0, 1) := by decide +kernel
theorem dX10_door_69 : decode cX10_door 69 = .ok (.iconst (-1), 1) := by decide +kernel
theorem dX10_door_70 : decode cX10_door 70 = .ok (.putfield 215, 3) := by decide +kernel
theorem dX10_door_73 : decode cX10_door 73 = .ok (.aload_n 0, 1) := by decide +kernel
theorem dX10_door_74 : decode cX10_door 74 = .ok (.invokevirtual 270, 3) := by decide +kernel
theorem dX10_door_77 : decode cX10_door 77 = .ok (.aload_n 0, 1) := by decide +kernel
theorem dX10_door_78 : decode cX10_door 78 = .ok (.aload_n 0, 1) := by decide +kernel
theorem dX10_door_79 : decode cX10_door 79 = .ok (.getfield 212, 3) := by decide +kernel
theorem dX10_door_82 : decode cX10_door 82 = .ok (.putfield 273, 3) := by decide +kernel
theorem dX10_door_85 : decode cX10_door 85 = .ok (.aload_n 0, 1) := by decide +kernel
theorem dX10_door_86 : decode cX10_door 86 = .ok (.aload_n 0, 1) := by decide +kernel
theorem dX10_door_87 : decode cX10_door 87 = .ok (.getfield 215, 3) := by decide +kernel
theorem dX10_door_90 : decode cX10_door 90 = .ok (.putfield 82, 3) := by decide +kernel
theorem dX10_door_93 : decode cX10_door 93 = .ok (.aload_n 0, 1) := by decide +kernel
theorem dX10_door_94 : decode cX10_door 94 = .ok (.getfield 212, 3) := by decide +kernel
theorem dX10_door_97 : decode cX10_door 97 = .ok (.ifCond .eq 5, 3) := by decide +kernel
theorem dX10_door_100 : decode cX10_door 100 = .ok (.iconst (-1), 1) := by decide +kernel
theorem dX10_door_101 : decode cX10_door 101 = .ok (.ireturn, 1) := by decide +kernel
theorem dX10_door_102 : decode cX10_door 102 = .ok (.aload_n 0, 1) := by decide +kernel
theorem dX10_door_103 : decode cX10_door 103 = .ok (.getfield 125, 3) := by decide +kernel
theorem dX10_door_106 : decode cX10_door 106 = .ok (.iload_n 1, 1) := by decide +kernel
theorem dX10_door_107 : decode cX10_door 107 = .ok (.aload_n 0, 1) := by decide +kernel
theorem dX10_door_108 : decode cX10_door 108 = .ok (.getfield 236, 3) := by decide +kernel
theorem dX10_door_111 : decode cX10_door 111 = .ok (.iastore, 1) := by decide +kernel
theorem dX10_door_112 : decode cX10_door 112 = .ok (.aload_n 0, 1) := by decide +kernel
theorem dX10_door_113 : decode cX10_door 113 = .ok (.getfield 128, 3) := by decide +kernel
theorem dX10_door_116 : decode cX10_door 116 = .ok (.iload_n 1, 1) := by decide +kernel
theorem dX10_door_117 : decode cX10_door 117 = .ok (.aload_n 0, 1) := by decide +kernel
theorem dX10_door_118 : decode cX10_door 118 = .ok (.getfield 233, 3) := by decide +kernel
theorem dX10_door_121 : decode cX10_door 121 = .ok (.iastore, 1) := by decide +kernel
theorem dX10_door_122 : decode cX10_door 122 = .ok (.iconst 0, 1) := by decide +kernel
theorem dX10_door_123 : decode cX10_door 123 = .ok (.istore 5, 2) := by decide +kernel
theorem dX10_door_125 : decode cX10_door 125 = .ok (.iload 5, 2) := by decide +kernel
theorem dX10_door_127 : decode cX10_door 127 = .ok (.bipush 64, 2) := by decide +kernel
theorem dX10_door_129 : decode cX10_door 129 = .ok (.if_icmp .ge 28, 3) := by decide +kernel
theorem dX10_door_132 : decode cX10_door 132 = .ok (.aload_n 0, 1) := by decide +kernel
theorem dX10_door_133 : decode cX10_door 133 = .ok (.getfield 131, 3) := by decide +kernel
theorem dX10_door_136 : decode cX10_door 136 = .ok (.bipush 64, 2) := by decide +kernel
theorem dX10_door_138 : decode cX10_door 138 = .ok (.iload_n 1, 1) := by decide +kernel
theorem dX10_door_139 : decode cX10_door 139 = .ok (.imul, 1) := by decide +kernel
theorem dX10_door_140 : decode cX10_door 140 = .ok (.iload 5, 2) := by decide +kernel
theorem dX10_door_142 : decode cX10_door 142 = .ok (.iadd, 1) := by decide +kernel
theorem dX10_door_143 : decode cX10_door 143 = .ok (.aload_n 0, 1) := by decide +kernel
theorem dX10_door_144 : decode cX10_door 144 = .ok (.getfield 86, 3) := by decide +kernel
theorem dX10_door_147 : decode cX10_door 147 = .ok (.iload 5, 2) := by decide +kernel
theorem dX10_door_149 : decode cX10_door 149 = .ok (.iaload, 1) := by decide +kernel
theorem dX10_door_150 : decode cX10_door 150 = .ok (.iastore, 1) := by decide +kernel
theorem dX10_door_151 : decode cX10_door 151 = .ok (.iinc 5 1, 3) := by decide +kernel
theorem dX10_door_154 : decode cX10_door 154 = .ok (.goto (-29), 3) := by decide +kernel
theorem dX10_door_157 : decode cX10_door 157 = .ok (.aload_n 0, 1) := by decide +kernel
theorem dX10_door_158 : decode cX10_door 158 = .ok (.getfield 134, 3) := by decide +kernel
theorem dX10_door_161 : decode cX10_door 161 = .ok (.iload_n 1, 1) := by decide +kernel
theorem dX10_door_162 : decode cX10_door 162 = .ok (.iload_n 2, 1) := by decide +kernel
theorem dX10_door_163 : decode cX10_door 163 = .ok (.iastore, 1) := by decide +kernel
theorem dX10_door_164 : decode cX10_door 164 = .ok (.aload_n 0, 1) := by decide +kernel
theorem dX10_door_165 : decode cX10_door 165 = .ok (.getfield 137, 3) := by decide +kernel
theorem dX10_door_168 : decode cX10_door 168 = .ok (.iload_n 1, 1) := by decide +kernel
theorem dX10_door_169 : decode cX10_door 169 = .ok (.iload_n 3, 1) := by decide +kernel
theorem dX10_door_170 : decode cX10_door 170 = .ok (.iastore, 1) := by decide +kernel
theorem dX10_door_171 : decode cX10_door 171 = .ok (.aload_n 0, 1) := by decide +kernel
theorem dX10_door_172 : decode cX10_door 172 = .ok (.getfield 140, 3) := by decide +kernel
theorem dX10_door_175 : decode cX10_door 175 = .ok (.iload_n 1, 1) := by decide +kernel
theorem dX10_door_176 : decode cX10_door 176 = .ok (.iload 4, 2) := by decide +kernel
theorem dX10_door_178 : decode cX10_door 178 = .ok (.iastore, 1) := by decide +kernel
theorem dX10_door_179 : decode cX10_door 179 = .ok (.aload_n 0, 1) := by decide +kernel
theorem dX10_door_180 : decode cX10_door 180 = .ok (.getfield 143, 3) := by decide +kernel
theorem dX10_door_183 : decode cX10_door 183 = .ok (.iload_n 1, 1) := by decide +kernel
theorem dX10_door_184 : decode cX10_door 184 = .ok (.iconst (-1), 1) := by decide +kernel
theorem dX10_door_185 : decode cX10_door 185 = .ok (.iastore, 1) := by decide +kernel
theorem dX10_door_186 : decode cX10_door 186 = .ok (.iconst 0, 1) := by decide +kernel
theorem dX10_door_187 : decode cX10_door 187 = .ok (.istore 5, 2) := by decide +kernel
theorem dX10_door_189 : decode cX10_door 189 = .ok (.iload 5, 2) := by decide +kernel
theorem dX10_door_191 : decode cX10_door 191 = .ok (.aload_n 0, 1) := by decide +kernel
theorem dX10_door_192 : decode cX10_door 192 = .ok (.getfield 171, 3) := by decide +kernel
theorem dX10_door_195 : decode cX10_door 195 = .ok (.if_icmp .ge 28, 3) := by decide +kernel
theorem dX10_door_198 : decode cX10_door 198 = .ok (.aload_n 0, 1) := by decide +kernel
theorem dX10_door_199 : decode cX10_door 199 = .ok (.getfield 76, 3) := by decide +kernel
theorem dX10_door_202 : decode cX10_door 202 = .ok (.iload 5, 2) := by decide +kernel
theorem dX10_door_204 : decode cX10_door 204 = .ok (.iaload, 1) := by decide +kernel
theorem dX10_door_205 : decode cX10_door 205 = .ok (.iload_n 1, 1) := by decide +kernel
theorem dX10_door_206 : decode cX10_door 206 = .ok (.if_icmp .ne 11, 3) := by decide +kernel
theorem dX10_door_209 : decode cX10_door 209 = .ok (.aload_n 0, 1) := by decide +kernel
theorem dX10_door_210 : decode cX10_door 210 = .ok (.getfield 76, 3) := by decide +kernel
theorem dX10_door_213 : decode cX10_door 213 = .ok (.iload 5, 2) := by decide +kernel
theorem dX10_door_215 : decode cX10_door 215 = .ok (.iconst (-1), 1) := by decide +kernel
theorem dX10_door_216 : decode cX10_door 216 = .ok (.iastore, 1) := by decide +kernel
theorem dX10_door_217 : decode cX10_door 217 = .ok (.iinc 5 1, 3) := by decide +kernel
theorem dX10_door_220 : decode cX10_door 220 = .ok (.goto (-31), 3) := by decide +kernel
theorem dX10_door_223 : decode cX10_door 223 = .ok (.aload_n 0, 1) := by decide +kernel
theorem dX10_door_224 : decode cX10_door 224 = .ok (.getfield 236, 3) := by decide +kernel
theorem dX10_door_227 : decode cX10_door 227 = .ok (.aload_n 0, 1) := by decide +kernel
theorem dX10_door_228 : decode cX10_door 228 = .ok (.getfield 233, 3) := by decide +kernel
theorem dX10_door_231 : decode cX10_door 231 = .ok (.imul, 1) := by decide +kernel
theorem dX10_door_232 : decode cX10_door 232 = .ok (.ireturn, 1) := by decide +kernel
theorem dX10_fault_0 : decode cX10_fault 0 = .ok (.iload_n 1, 1) := by decide +kernel
theorem dX10_fault_1 : decode cX10_fault 1 = .ok (.ifCond .ne 10, 3) := by decide +kernel
theorem dX10_fault_4 : decode cX10_fault 4 = .ok (.aload_n 0, 1) := by decide +kernel
theorem dX10_fault_5 : decode cX10_fault 5 = .ok (.getfield 273, 3) := by decide +kernel
theorem dX10_fault_8 : decode cX10_fault 8 = .ok (.goto 16, 3) := by decide +kernel
theorem dX10_fault_11 : decode cX10_fault 11 = .ok (.iload_n 1, 1) := by decide +kernel
theorem dX10_fault_12 : decode cX10_fault 12 = .ok (.iconst 1, 1) := by decide +kernel
theorem dX10_fault_13 : decode cX10_fault 13 = .ok (.if_icmp .ne 10, 3) := by decide +kernel
theorem dX10_fault_16 : decode cX10_fault 16 = .ok (.aload_n 0, 1) := by decide +kernel
theorem dX10_fault_17 : decode cX10_fault 17 = .ok (.getfield 82, 3) := by decide +kernel
theorem dX10_fault_20 : decode cX10_fault 20 = .ok (.goto 4, 3) := by decide +kernel
theorem dX10_fault_23 : decode cX10_fault 23 = .ok (.iconst (-1), 1) := by decide +kernel
theorem dX10_fault_24 : decode cX10_fault 24 = .ok (.ireturn, 1) := by decide +kernel
theorem dX10_pieceOf_0 : decode cX10_pieceOf 0 = .ok (.aload_n 0, 1) := by decide +kernel
theorem dX10_pieceOf_1 : decode cX10_pieceOf 1 = .ok (.getfield 131, 3) := by decide +kernel
theorem dX10_pieceOf_4 : decode cX10_pieceOf 4 = .ok (.bipush 64, 2) := by decide +kernel
theorem dX10_pieceOf_6 : decode cX10_pieceOf 6 = .ok (.iload_n 1, 1) := by decide +kernel
theorem dX10_pieceOf_7 : decode cX10_pieceOf 7 = .ok (.imul, 1) := by decide +kernel
theorem dX10_pieceOf_8 : decode cX10_pieceOf 8 = .ok (.bipush 8, 2) := by decide +kernel
theorem dX10_pieceOf_10 : decode cX10_pieceOf 10 = .ok (.iload_n 3, 1) := by decide +kernel
theorem dX10_pieceOf_11 : decode cX10_pieceOf 11 = .ok (.imul, 1) := by decide +kernel
theorem dX10_pieceOf_12 : decode cX10_pieceOf 12 = .ok (.iadd, 1) := by decide +kernel
theorem dX10_pieceOf_13 : decode cX10_pieceOf 13 = .ok (.iload_n 2, 1) := by decide +kernel
theorem dX10_pieceOf_14 : decode cX10_pieceOf 14 = .ok (.iadd, 1) := by decide +kernel
theorem dX10_pieceOf_15 : decode cX10_pieceOf 15 = .ok (.iaload, 1) := by decide +kernel
theorem dX10_pieceOf_16 : decode cX10_pieceOf 16 = .ok (.ireturn, 1) := by decide +kernel
theorem dX10_jointOf_0 : decode cX10_jointOf 0 = .ok (.iload_n 1, 1) := by decide +kernel
theorem dX10_jointOf_1 : decode cX10_jointOf 1 = .ok (.bipush 15, 2) := by decide +kernel
theorem dX10_jointOf_3 : decode cX10_jointOf 3 = .ok (.iand, 1) := by decide +kernel
theorem dX10_jointOf_4 : decode cX10_jointOf 4 = .ok (.iload_n 0, 1) := by decide +kernel
theorem dX10_jointOf_5 : decode cX10_jointOf 5 = .ok (.bipush 15, 2) := by decide +kernel
theorem dX10_jointOf_7 : decode cX10_jointOf 7 = .ok (.iand, 1) := by decide +kernel
theorem dX10_jointOf_8 : decode cX10_jointOf 8 = .ok (.isub, 1) := by decide +kernel
theorem dX10_jointOf_9 : decode cX10_jointOf 9 = .ok (.istore_n 3, 1) := by decide +kernel
theorem dX10_jointOf_10 : decode cX10_jointOf 10 = .ok (.iload_n 0, 1) := by decide +kernel
theorem dX10_jointOf_11 : decode cX10_jointOf 11 = .ok (.iload_n 1, 1) := by decide +kernel
theorem dX10_jointOf_12 : decode cX10_jointOf 12 = .ok (.ixor, 1) := by decide +kernel
theorem dX10_jointOf_13 : decode cX10_jointOf 13 = .ok (.bipush 16, 2) := by decide +kernel
theorem dX10_jointOf_15 : decode cX10_jointOf 15 = .ok (.iand, 1) := by decide +kernel
theorem dX10_jointOf_16 : decode cX10_jointOf 16 = .ok (.ifCond .eq 7, 3) := by decide +kernel
theorem dX10_jointOf_19 : decode cX10_jointOf 19 = .ok (.iconst 1, 1) := by decide +kernel
theorem dX10_jointOf_20 : decode cX10_jointOf 20 = .ok (.goto 4, 3) := by decide +kernel
theorem dX10_jointOf_23 : decode cX10_jointOf 23 = .ok (.iconst 0, 1) := by decide +kernel
theorem dX10_jointOf_24 : decode cX10_jointOf 24 = .ok (.istore 4, 2) := by decide +kernel
theorem dX10_jointOf_26 : decode cX10_jointOf 26 = .ok (.iload_n 0, 1) := by decide +kernel
theorem dX10_jointOf_27 : decode cX10_jointOf 27 = .ok (.iload_n 1, 1) := by decide +kernel
theorem dX10_jointOf_28 : decode cX10_jointOf 28 = .ok (.ixor, 1) := by decide +kernel
theorem dX10_jointOf_29 : decode cX10_jointOf 29 = .ok (.bipush 32, 2) := by decide +kernel
theorem dX10_jointOf_31 : decode cX10_jointOf 31 = .ok (.iand, 1) := by decide +kernel
theorem dX10_jointOf_32 : decode cX10_jointOf 32 = .ok (.ifCond .eq 7, 3) := by decide +kernel
theorem dX10_jointOf_35 : decode cX10_jointOf 35 = .ok (.iconst 1, 1) := by decide +kernel
theorem dX10_jointOf_36 : decode cX10_jointOf 36 = .ok (.goto 4, 3) := by decide +kernel
theorem dX10_jointOf_39 : decode cX10_jointOf 39 = .ok (.iconst 0, 1) := by decide +kernel
theorem dX10_jointOf_40 : decode cX10_jointOf 40 = .ok (.istore 5, 2) := by decide +kernel
theorem dX10_jointOf_42 : decode cX10_jointOf 42 = .ok (.iload_n 3, 1) := by decide +kernel
theorem dX10_jointOf_43 : decode cX10_jointOf 43 = .ok (.iconst 1, 1) := by decide +kernel
theorem dX10_jointOf_44 : decode cX10_jointOf 44 = .ok (.if_icmp .eq 8, 3) := by decide +kernel
theorem dX10_jointOf_47 : decode cX10_jointOf 47 = .ok (.iload_n 3, 1) := by decide +kernel
theorem dX10_jointOf_48 : decode cX10_jointOf 48 = .ok (.iconst (-1), 1) := by decide +kernel
theorem dX10_jointOf_49 : decode cX10_jointOf 49 = .ok (.if_icmp .ne 7, 3) := by decide +kernel
theorem dX10_jointOf_52 : decode cX10_jointOf 52 = .ok (.iconst 1, 1) := by decide +kernel
theorem dX10_jointOf_53 : decode cX10_jointOf 53 = .ok (.goto 4, 3) := by decide +kernel
theorem dX10_jointOf_56 : decode cX10_jointOf 56 = .ok (.iconst 0, 1) := by decide +kernel
theorem dX10_jointOf_57 : decode cX10_jointOf 57 = .ok (.istore 6, 2) := by decide +kernel
theorem dX10_jointOf_59 : decode cX10_jointOf 59 = .ok (.iload_n 2, 1) := by decide +kernel
theorem dX10_jointOf_60 : decode cX10_jointOf 60 = .ok (.ifCond .eq 24, 3) := by decide +kernel
theorem dX10_jointOf_63 : decode cX10_jointOf 63 = .ok (.iload 6, 2) := by decide +kernel
theorem dX10_jointOf_65 : decode cX10_jointOf 65 = .ok (.ifCond .eq 17, 3) := by decide +kernel
theorem dX10_jointOf_68 : decode cX10_jointOf 68 = .ok (.iload 4, 2) := by decide +kernel
theorem dX10_jointOf_70 : decode cX10_jointOf 70 = .ok (.ifCond .ne 12, 3) := by decide +kernel
theorem dX10_jointOf_73 : decode cX10_jointOf 73 = .ok (.iload 5, 2) := by decide +kernel
theorem dX10_jointOf_75 : decode cX10_jointOf 75 = .ok (.ifCond .eq 7, 3) := by decide +kernel
theorem dX10_jointOf_78 : decode cX10_jointOf 78 = .ok (.iconst 2, 1) := by decide +kernel
theorem dX10_jointOf_79 : decode cX10_jointOf 79 = .ok (.goto 4, 3) := by decide +kernel
theorem dX10_jointOf_82 : decode cX10_jointOf 82 = .ok (.iconst 0, 1) := by decide +kernel
theorem dX10_jointOf_83 : decode cX10_jointOf 83 = .ok (.ireturn, 1) := by decide +kernel
theorem dX10_jointOf_84 : decode cX10_jointOf 84 = .ok (.iload 6, 2) := by decide +kernel
theorem dX10_jointOf_86 : decode cX10_jointOf 86 = .ok (.ifCond .eq 15, 3) := by decide +kernel
theorem dX10_jointOf_89 : decode cX10_jointOf 89 = .ok (.iload 5, 2) := by decide +kernel
theorem dX10_jointOf_91 : decode cX10_jointOf 91 = .ok (.ifCond .ne 10, 3) := by decide +kernel
theorem dX10_jointOf_94 : decode cX10_jointOf 94 = .ok (.iload 4, 2) := by decide +kernel
theorem dX10_jointOf_96 : decode cX10_jointOf 96 = .ok (.ifCond .eq 5, 3) := by decide +kernel
theorem dX10_jointOf_99 : decode cX10_jointOf 99 = .ok (.iconst 2, 1) := by decide +kernel
theorem dX10_jointOf_100 : decode cX10_jointOf 100 = .ok (.ireturn, 1) := by decide +kernel
theorem dX10_jointOf_101 : decode cX10_jointOf 101 = .ok (.iload 5, 2) := by decide +kernel
theorem dX10_jointOf_103 : decode cX10_jointOf 103 = .ok (.ifCond .ne 8, 3) := by decide +kernel
theorem dX10_jointOf_106 : decode cX10_jointOf 106 = .ok (.iload 4, 2) := by decide +kernel
theorem dX10_jointOf_108 : decode cX10_jointOf 108 = .ok (.ifCond .eq 5, 3) := by decide +kernel
theorem dX10_jointOf_111 : decode cX10_jointOf 111 = .ok (.iconst 0, 1) := by decide +kernel
theorem dX10_jointOf_112 : decode cX10_jointOf 112 = .ok (.ireturn, 1) := by decide +kernel
theorem dX10_jointOf_113 : decode cX10_jointOf 113 = .ok (.iload_n 0, 1) := by decide +kernel
theorem dX10_jointOf_114 : decode cX10_jointOf 114 = .ok (.bipush 16, 2) := by decide +kernel
theorem dX10_jointOf_116 : decode cX10_jointOf 116 = .ok (.iand, 1) := by decide +kernel
theorem dX10_jointOf_117 : decode cX10_jointOf 117 = .ok (.ifCond .ne 16, 3) := by decide +kernel
theorem dX10_jointOf_120 : decode cX10_jointOf 120 = .ok (.iload_n 3, 1) := by decide +kernel
theorem dX10_jointOf_121 : decode cX10_jointOf 121 = .ok (.iconst 1, 1) := by decide +kernel
theorem dX10_jointOf_122 : decode cX10_jointOf 122 = .ok (.if_icmp .ne 7, 3) := by decide +kernel
theorem dX10_jointOf_125 : decode cX10_jointOf 125 = .ok (.iconst 1, 1) := by decide +kernel
theorem dX10_jointOf_126 : decode cX10_jointOf 126 = .ok (.goto 17, 3) := by decide +kernel
theorem dX10_jointOf_129 : decode cX10_jointOf 129 = .ok (.iconst 0, 1) := by decide +kernel
theorem dX10_jointOf_130 : decode cX10_jointOf 130 = .ok (.goto 13, 3) := by decide +kernel
theorem dX10_jointOf_133 : decode cX10_jointOf 133 = .ok (.iload_n 3, 1) := by decide +kernel
theorem dX10_jointOf_134 : decode cX10_jointOf 134 = .ok (.iconst (-1), 1) := by decide +kernel
theorem dX10_jointOf_135 : decode cX10_jointOf 135 = .ok (.if_icmp .ne 7, 3) := by decide +kernel
theorem dX10_jointOf_138 : decode cX10_jointOf 138 = .ok (.iconst 1, 1) := by decide +kernel
theorem dX10_jointOf_139 : decode cX10_jointOf 139 = .ok (.goto 4, 3) := by decide +kernel
theorem dX10_jointOf_142 : decode cX10_jointOf 142 = .ok (.iconst 0, 1) := by decide +kernel
theorem dX10_jointOf_143 : decode cX10_jointOf 143 = .ok (.ireturn, 1) := by decide +kernel
theorem dX10_joint_0 : decode cX10_joint 0 = .ok (.aload_n 0, 1) := by decide +kernel
theorem dX10_joint_1 : decode cX10_joint 1 = .ok (.iload_n 1, 1) := by decide +kernel
theorem dX10_joint_2 : decode cX10_joint 2 = .ok (.invokevirtual 276, 3) := by decide +kernel
theorem dX10_joint_5 : decode cX10_joint 5 = .ok (.ifCond .eq 53, 3) := by decide +kernel
theorem dX10_joint_8 : decode cX10_joint 8 = .ok (.iload_n 2, 1) := by decide +kernel
theorem dX10_joint_9 : decode cX10_joint 9 = .ok (.ifCond .lt 49, 3) := by decide +kernel
theorem dX10_joint_12 : decode cX10_joint 12 = .ok (.iload_n 3, 1) := by decide +kernel
theorem dX10_joint_13 : decode cX10_joint 13 = .ok (.ifCond .lt 45, 3) := by decide +kernel
theorem dX10_joint_16 : decode cX10_joint 16 = .ok (.iload_n 2, 1) := by decide +kernel
theorem dX10_joint_17 : decode cX10_joint 17 = .ok (.aload_n 0, 1) := by decide +kernel
theorem dX10_joint_18 : decode cX10_joint 18 = .ok (.getfield 125, 3) := by decide +kernel
theorem dX10_joint_21 : decode cX10_joint 21 = .ok (.iload_n 1, 1) := by decide +kernel
theorem dX10_joint_22 : decode cX10_joint 22 = .ok (.iaload, 1) := by decide +kernel
theorem dX10_joint_23 : decode cX10_joint 23 = .ok (.iload 4, 2) := by decide +kernel
theorem dX10_joint_25 : decode cX10_joint 25 = .ok (.ifCond .eq 7, 3) := by decide +kernel
theorem dX10_joint_28 : decode cX10_joint 28 = .ok (.iconst 0, 1) := by decide +kernel
theorem dX10_joint_29 : decode cX10_joint 29 = .ok (.goto 4, 3) := by decide +kernel
theorem dX10_joint_32 : decode cX10_joint 32 = .ok (.iconst 1, 1) := by decide +kernel
theorem dX10_joint_33 : decode cX10_joint 33 = .ok (.isub, 1) := by decide +kernel
theorem dX10_joint_34 : decode cX10_joint 34 = .ok (.if_icmp .ge 24, 3) := by decide +kernel
theorem dX10_joint_37 : decode cX10_joint 37 = .ok (.iload_n 3, 1) := by decide +kernel
theorem dX10_joint_38 : decode cX10_joint 38 = .ok (.aload_n 0, 1) := by decide +kernel
theorem dX10_joint_39 : decode cX10_joint 39 = .ok (.getfield 128, 3) := by decide +kernel
theorem dX10_joint_42 : decode cX10_joint 42 = .ok (.iload_n 1, 1) := by decide +kernel
theorem dX10_joint_43 : decode cX10_joint 43 = .ok (.iaload, 1) := by decide +kernel
theorem dX10_joint_44 : decode cX10_joint 44 = .ok (.iload 4, 2) := by decide +kernel
theorem dX10_joint_46 : decode cX10_joint 46 = .ok (.ifCond .eq 7, 3) := by decide +kernel
theorem dX10_joint_49 : decode cX10_joint 49 = .ok (.iconst 1, 1) := by decide +kernel
theorem dX10_joint_50 : decode cX10_joint 50 = .ok (.goto 4, 3) := by decide +kernel
theorem dX10_joint_53 : decode cX10_joint 53 = .ok (.iconst 0, 1) := by decide +kernel
theorem dX10_joint_54 : decode cX10_joint 54 = .ok (.isub, 1) := by decide +kernel
theorem dX10_joint_55 : decode cX10_joint 55 = .ok (.if_icmp .lt 5, 3) := by decide +kernel
theorem dX10_joint_58 : decode cX10_joint 58 = .ok (.iconst (-1), 1) := by decide +kernel
theorem dX10_joint_59 : decode cX10_joint 59 = .ok (.ireturn, 1) := by decide +kernel
theorem dX10_joint_60 : decode cX10_joint 60 = .ok (.aload_n 0, 1) := by decide +kernel
theorem dX10_joint_61 : decode cX10_joint 61 = .ok (.iload_n 1, 1) := by decide +kernel
theorem dX10_joint_62 : decode cX10_joint 62 = .ok (.iload_n 2, 1) := by decide +kernel
theorem dX10_joint_63 : decode cX10_joint 63 = .ok (.iload_n 3, 1) := by decide +kernel
theorem dX10_joint_64 : decode cX10_joint 64 = .ok (.invokevirtual 279, 3) := by decide +kernel
theorem dX10_joint_67 : decode cX10_joint 67 = .ok (.iload 4, 2) := by decide +kernel
theorem dX10_joint_69 : decode cX10_joint 69 = .ok (.ifCond .eq 15, 3) := by decide +kernel
theorem dX10_joint_72 : decode cX10_joint 72 = .ok (.aload_n 0, 1) := by decide +kernel
theorem dX10_joint_73 : decode cX10_joint 73 = .ok (.iload_n 1, 1) := by decide +kernel
theorem dX10_joint_74 : decode cX10_joint 74 = .ok (.iload_n 2, 1) := by decide +kernel
theorem dX10_joint_75 : decode cX10_joint 75 = .ok (.iload_n 3, 1) := by decide +kernel
theorem dX10_joint_76 : decode cX10_joint 76 = .ok (.iconst 1, 1) := by decide +kernel
theorem dX10_joint_77 : decode cX10_joint 77 = .ok (.iadd, 1) := by decide +kernel
theorem dX10_joint_78 : decode cX10_joint 78 = .ok (.invokevirtual 279, 3) := by decide +kernel
theorem dX10_joint_81 : decode cX10_joint 81 = .ok (.goto 12, 3) := by decide +kernel
theorem dX10_joint_84 : decode cX10_joint 84 = .ok (.aload_n 0, 1) := by decide +kernel
theorem dX10_joint_85 : decode cX10_joint 85 = .ok (.iload_n 1, 1) := by decide +kernel
theorem dX10_joint_86 : decode cX10_joint 86 = .ok (.iload_n 2, 1) := by decide +kernel
theorem dX10_joint_87 : decode cX10_joint 87 = .ok (.iconst 1, 1) := by decide +kernel
theorem dX10_joint_88 : decode cX10_joint 88 = .ok (.iadd, 1) := by decide +kernel
theorem dX10_joint_89 : decode cX10_joint 89 = .ok (.iload_n 3, 1) := by decide +kernel
theorem dX10_joint_90 : decode cX10_joint 90 = .ok (.invokevirtual 279, 3) := by decide +kernel
theorem dX10_joint_93 : decode cX10_joint 93 = .ok (.iload 4, 2) := by decide +kernel
theorem dX10_joint_95 : decode cX10_joint 95 = .ok (.invokestatic 283, 3) := by decide +kernel
theorem dX10_joint_98 : decode cX10_joint 98 = .ok (.ireturn, 1) := by decide +kernel
theorem dX10_joints_0 : decode cX10_joints 0 = .ok (.iconst 0, 1) := by decide +kernel
theorem dX10_joints_1 : decode cX10_joints 1 = .ok (.istore_n 3, 1) := by decide +kernel
theorem dX10_joints_2 : decode cX10_joints 2 = .ok (.iconst 0, 1) := by decide +kernel
theorem dX10_joints_3 : decode cX10_joints 3 = .ok (.istore 4, 2) := by decide +kernel
theorem dX10_joints_5 : decode cX10_joints 5 = .ok (.iload 4, 2) := by decide +kernel
theorem dX10_joints_7 : decode cX10_joints 7 = .ok (.aload_n 0, 1) := by decide +kernel
theorem dX10_joints_8 : decode cX10_joints 8 = .ok (.getfield 128, 3) := by decide +kernel
theorem dX10_joints_11 : decode cX10_joints 11 = .ok (.iload_n 1, 1) := by decide +kernel
theorem dX10_joints_12 : decode cX10_joints 12 = .ok (.iaload, 1) := by decide +kernel
theorem dX10_joints_13 : decode cX10_joints 13 = .ok (.if_icmp .ge 63, 3) := by decide +kernel
theorem dX10_joints_16 : decode cX10_joints 16 = .ok (.iconst 0, 1) := by decide +kernel
theorem dX10_joints_17 : decode cX10_joints 17 = .ok (.istore 5, 2) := by decide +kernel
theorem dX10_joints_19 : decode cX10_joints 19 = .ok (.iload 5, 2) := by decide +kernel
theorem dX10_joints_21 : decode cX10_joints 21 = .ok (.aload_n 0, 1) := by decide +kernel
theorem dX10_joints_22 : decode cX10_joints 22 = .ok (.getfield 125, 3) := by decide +kernel
theorem dX10_joints_25 : decode cX10_joints 25 = .ok (.iload_n 1, 1) := by decide +kernel
theorem dX10_joints_26 : decode cX10_joints 26 = .ok (.iaload, 1) := by decide +kernel
theorem dX10_joints_27 : decode cX10_joints 27 = .ok (.if_icmp .ge 43, 3) := by decide +kernel
theorem dX10_joints_30 : decode cX10_joints 30 = .ok (.aload_n 0, 1) := by decide +kernel
theorem dX10_joints_31 : decode cX10_joints 31 = .ok (.iload_n 1, 1) := by decide +kernel
theorem dX10_joints_32 : decode cX10_joints 32 = .ok (.iload 5, 2) := by decide +kernel
theorem dX10_joints_34 : decode cX10_joints 34 = .ok (.iload 4, 2) := by decide +kernel
theorem dX10_joints_36 : decode cX10_joints 36 = .ok (.iconst 0, 1) := by decide +kernel
theorem dX10_joints_37 : decode cX10_joints 37 = .ok (.invokevirtual 287, 3) := by decide +kernel
theorem dX10_joints_40 : decode cX10_joints 40 = .ok (.iload_n 2, 1) := by decide +kernel
theorem dX10_joints_41 : decode cX10_joints 41 = .ok (.if_icmp .ne 6, 3) := by decide +kernel
theorem dX10_joints_44 : decode cX10_joints 44 = .ok (.iinc 3 1, 3) := by decide +kernel
theorem dX10_joints_47 : decode cX10_joints 47 = .ok (.aload_n 0, 1) := by decide +kernel
theorem dX10_joints_48 : decode cX10_joints 48 = .ok (.iload_n 1, 1) := by decide +kernel
theorem dX10_joints_49 : decode cX10_joints 49 = .ok (.iload 5, 2) := by decide +kernel
theorem dX10_joints_51 : decode cX10_joints 51 = .ok (.iload 4, 2) := by decide +kernel
theorem dX10_joints_53 : decode cX10_joints 53 = .ok (.iconst 1, 1) := by decide +kernel
theorem dX10_joints_54 : decode cX10_joints 54 = .ok (.invokevirtual 287, 3) := by decide +kernel
theorem dX10_joints_57 : decode cX10_joints 57 = .ok (.iload_n 2, 1) := by decide +kernel
theorem dX10_joints_58 : decode cX10_joints 58 = .ok (.if_icmp .ne 6, 3) := by decide +kernel
theorem dX10_joints_61 : decode cX10_joints 61 = .ok (.iinc 3 1, 3) := by decide +kernel
theorem dX10_joints_64 : decode cX10_joints 64 = .ok (.iinc 5 1, 3) := by decide +kernel
theorem dX10_joints_67 : decode cX10_joints 67 = .ok (.goto (-48), 3) := by decide +kernel
theorem dX10_joints_70 : decode cX10_joints 70 = .ok (.iinc 4 1, 3) := by decide +kernel
theorem dX10_joints_73 : decode cX10_joints 73 = .ok (.goto (-68), 3) := by decide +kernel
theorem dX10_joints_76 : decode cX10_joints 76 = .ok (.iload_n 3, 1) := by decide +kernel
theorem dX10_joints_77 : decode cX10_joints 77 = .ok (.ireturn, 1) := by decide +kernel
theorem dX10_greatest_0 : decode cX10_greatest 0 = .ok (.iconst 0, 1) := by decide +kernel
theorem dX10_greatest_1 : decode cX10_greatest 1 = .ok (.istore_n 2, 1) := by decide +kernel
theorem dX10_greatest_2 : decode cX10_greatest 2 = .ok (.iconst 0, 1) := by decide +kernel
theorem dX10_greatest_3 : decode cX10_greatest 3 = .ok (.istore_n 3, 1) := by decide +kernel
theorem dX10_greatest_4 : decode cX10_greatest 4 = .ok (.iload_n 3, 1) := by decide +kernel
theorem dX10_greatest_5 : decode cX10_greatest 5 = .ok (.aload_n 0, 1) := by decide +kernel
theorem dX10_greatest_6 : decode cX10_greatest 6 = .ok (.getfield 128, 3) := by decide +kernel
theorem dX10_greatest_9 : decode cX10_greatest 9 = .ok (.iload_n 1, 1) := by decide +kernel
theorem dX10_greatest_10 : decode cX10_greatest 10 = .ok (.iaload, 1) := by decide +kernel
theorem dX10_greatest_11 : decode cX10_greatest 11 = .ok (.if_icmp .ge 56, 3) := by decide +kernel
theorem dX10_greatest_14 : decode cX10_greatest 14 = .ok (.iconst 0, 1) := by decide +kernel
theorem dX10_greatest_15 : decode cX10_greatest 15 = .ok (.istore 4, 2) := by decide +kernel
theorem dX10_greatest_17 : decode cX10_greatest 17 = .ok (.iload 4, 2) := by decide +kernel
theorem dX10_greatest_19 : decode cX10_greatest 19 = .ok (.aload_n 0, 1) := by decide +kernel
theorem dX10_greatest_20 : decode cX10_greatest 20 = .ok (.getfield 125, 3) := by decide +kernel
theorem dX10_greatest_23 : decode cX10_greatest 23 = .ok (.iload_n 1, 1) := by decide +kernel
theorem dX10_greatest_24 : decode cX10_greatest 24 = .ok (.iaload, 1) := by decide +kernel
theorem dX10_greatest_25 : decode cX10_greatest 25 = .ok (.if_icmp .ge 36, 3) := by decide +kernel
theorem dX10_greatest_28 : decode cX10_greatest 28 = .ok (.aload_n 0, 1) := by decide +kernel
theorem dX10_greatest_29 : decode cX10_greatest 29 = .ok (.iload_n 1, 1) := by decide +kernel
theorem dX10_greatest_30 : decode cX10_greatest 30 = .ok (.iload 4, 2) := by decide +kernel
theorem dX10_greatest_32 : decode cX10_greatest 32 = .ok (.iload_n 3, 1) := by decide +kernel
theorem dX10_greatest_33 : decode cX10_greatest 33 = .ok (.invokevirtual 279, 3) := by decide +kernel
theorem dX10_greatest_36 : decode cX10_greatest 36 = .ok (.bipush 15, 2) := by decide +kernel
theorem dX10_greatest_38 : decode cX10_greatest 38 = .ok (.iand, 1) := by decide +kernel
theorem dX10_greatest_39 : decode cX10_greatest 39 = .ok (.iload_n 2, 1) := by decide +kernel
theorem dX10_greatest_40 : decode cX10_greatest 40 = .ok (.if_icmp .le 15, 3) := by decide +kernel
theorem dX10_greatest_43 : decode cX10_greatest 43 = .ok (.aload_n 0, 1) := by decide +kernel
theorem dX10_greatest_44 : decode cX10_greatest 44 = .ok (.iload_n 1, 1) := by decide +kernel
theorem dX10_greatest_45 : decode cX10_greatest 45 = .ok (.iload 4, 2) := by decide +kernel
theorem dX10_greatest_47 : decode cX10_greatest 47 = .ok (.iload_n 3, 1) := by decide +kernel
theorem dX10_greatest_48 : decode cX10_greatest 48 = .ok (.invokevirtual 279, 3) := by decide +kernel
theorem dX10_greatest_51 : decode cX10_greatest 51 = .ok (.bipush 15, 2) := by decide +kernel
theorem dX10_greatest_53 : decode cX10_greatest 53 = .ok (.iand, 1) := by decide +kernel
theorem dX10_greatest_54 : decode cX10_greatest 54 = .ok (.istore_n 2, 1) := by decide +kernel
theorem dX10_greatest_55 : decode cX10_greatest 55 = .ok (.iinc 4 1, 3) := by decide +kernel
theorem dX10_greatest_58 : decode cX10_greatest 58 = .ok (.goto (-41), 3) := by decide +kernel
theorem dX10_greatest_61 : decode cX10_greatest 61 = .ok (.iinc 3 1, 3) := by decide +kernel
theorem dX10_greatest_64 : decode cX10_greatest 64 = .ok (.goto (-60), 3) := by decide +kernel
theorem dX10_greatest_67 : decode cX10_greatest 67 = .ok (.iload_n 2, 1) := by decide +kernel
theorem dX10_greatest_68 : decode cX10_greatest 68 = .ok (.ireturn, 1) := by decide +kernel
theorem dX10_of_0 : decode cX10_of 0 = .ok (.aload_n 0, 1) := by decide +kernel
theorem dX10_of_1 : decode cX10_of 1 = .ok (.iload_n 1, 1) := by decide +kernel
theorem dX10_of_2 : decode cX10_of 2 = .ok (.invokevirtual 276, 3) := by decide +kernel
theorem dX10_of_5 : decode cX10_of 5 = .ok (.ifCond .ne 5, 3) := by decide +kernel
theorem dX10_of_8 : decode cX10_of 8 = .ok (.iconst (-1), 1) := by decide +kernel
theorem dX10_of_9 : decode cX10_of 9 = .ok (.ireturn, 1) := by decide +kernel
theorem dX10_of_10 : decode cX10_of 10 = .ok (.aload_n 0, 1) := by decide +kernel
theorem dX10_of_11 : decode cX10_of 11 = .ok (.getfield 143, 3) := by decide +kernel
theorem dX10_of_14 : decode cX10_of 14 = .ok (.iload_n 1, 1) := by decide +kernel
theorem dX10_of_15 : decode cX10_of 15 = .ok (.iaload, 1) := by decide +kernel
theorem dX10_of_16 : decode cX10_of 16 = .ok (.iconst (-1), 1) := by decide +kernel
theorem dX10_of_17 : decode cX10_of 17 = .ok (.if_icmp .eq 7, 3) := by decide +kernel
theorem dX10_of_20 : decode cX10_of 20 = .ok (.iconst 1, 1) := by decide +kernel
theorem dX10_of_21 : decode cX10_of 21 = .ok (.goto 4, 3) := by decide +kernel
theorem dX10_of_24 : decode cX10_of 24 = .ok (.iconst 0, 1) := by decide +kernel
theorem dX10_of_25 : decode cX10_of 25 = .ok (.istore_n 3, 1) := by decide +kernel
theorem dX10_of_26 : decode cX10_of 26 = .ok (.iload_n 2, 1) := by decide +kernel
theorem dX10_of_27 : decode cX10_of 27 = .ok (.tableswitch 146 0 9 #[53, 60, 67, 73, 80, 87, 94, 101, 116, 131], 53) := by decide +kernel
theorem dX10_of_80 : decode cX10_of 80 = .ok (.aload_n 0, 1) := by decide +kernel
theorem dX10_of_81 : decode cX10_of 81 = .ok (.getfield 125, 3) := by decide +kernel
theorem dX10_of_84 : decode cX10_of 84 = .ok (.iload_n 1, 1) := by decide +kernel
theorem dX10_of_85 : decode cX10_of 85 = .ok (.iaload, 1) := by decide +kernel
theorem dX10_of_86 : decode cX10_of 86 = .ok (.ireturn, 1) := by decide +kernel
theorem dX10_of_87 : decode cX10_of 87 = .ok (.aload_n 0, 1) := by decide +kernel
theorem dX10_of_88 : decode cX10_of 88 = .ok (.getfield 128, 3) := by decide +kernel
theorem dX10_of_91 : decode cX10_of 91 = .ok (.iload_n 1, 1) := by decide +kernel
theorem dX10_of_92 : decode cX10_of 92 = .ok (.iaload, 1) := by decide +kernel
theorem dX10_of_93 : decode cX10_of 93 = .ok (.ireturn, 1) := by decide +kernel
theorem dX10_of_94 : decode cX10_of 94 = .ok (.aload_n 0, 1) := by decide +kernel
theorem dX10_of_95 : decode cX10_of 95 = .ok (.iload_n 1, 1) := by decide +kernel
theorem dX10_of_96 : decode cX10_of 96 = .ok (.invokevirtual 291, 3) := by decide +kernel
theorem dX10_of_99 : decode cX10_of 99 = .ok (.ireturn, 1) := by decide +kernel
theorem dX10_of_100 : decode cX10_of 100 = .ok (.aload_n 0, 1) := by decide +kernel
theorem dX10_of_101 : decode cX10_of 101 = .ok (.iload_n 1, 1) := by decide +kernel
theorem dX10_of_102 : decode cX10_of 102 = .ok (.iconst 2, 1) := by decide +kernel
theorem dX10_of_103 : decode cX10_of 103 = .ok (.invokevirtual 295, 3) := by decide +kernel
theorem dX10_of_106 : decode cX10_of 106 = .ok (.ireturn, 1) := by decide +kernel
theorem dX10_of_107 : decode cX10_of 107 = .ok (.aload_n 0, 1) := by decide +kernel
theorem dX10_of_108 : decode cX10_of 108 = .ok (.iload_n 1, 1) := by decide +kernel
theorem dX10_of_109 : decode cX10_of 109 = .ok (.iconst 1, 1) := by decide +kernel
theorem dX10_of_110 : decode cX10_of 110 = .ok (.invokevirtual 295, 3) := by decide +kernel
theorem dX10_of_113 : decode cX10_of 113 = .ok (.ireturn, 1) := by decide +kernel
theorem dX10_of_114 : decode cX10_of 114 = .ok (.aload_n 0, 1) := by decide +kernel
theorem dX10_of_115 : decode cX10_of 115 = .ok (.iload_n 1, 1) := by decide +kernel
theorem dX10_of_116 : decode cX10_of 116 = .ok (.iconst 0, 1) := by decide +kernel
theorem dX10_of_117 : decode cX10_of 117 = .ok (.invokevirtual 295, 3) := by decide +kernel
theorem dX10_of_120 : decode cX10_of 120 = .ok (.ireturn, 1) := by decide +kernel
theorem dX10_of_121 : decode cX10_of 121 = .ok (.aload_n 0, 1) := by decide +kernel
theorem dX10_of_122 : decode cX10_of 122 = .ok (.getfield 143, 3) := by decide +kernel
theorem dX10_of_125 : decode cX10_of 125 = .ok (.iload_n 1, 1) := by decide +kernel
theorem dX10_of_126 : decode cX10_of 126 = .ok (.iaload, 1) := by decide +kernel
theorem dX10_of_127 : decode cX10_of 127 = .ok (.ireturn, 1) := by decide +kernel
theorem dX10_of_128 : decode cX10_of 128 = .ok (.iload_n 3, 1) := by decide +kernel
theorem dX10_of_129 : decode cX10_of 129 = .ok (.ifCond .eq 12, 3) := by decide +kernel
theorem dX10_of_132 : decode cX10_of 132 = .ok (.aload_n 0, 1) := by decide +kernel
theorem dX10_of_133 : decode cX10_of 133 = .ok (.getfield 146, 3) := by decide +kernel
theorem dX10_of_136 : decode cX10_of 136 = .ok (.iload_n 1, 1) := by decide +kernel
theorem dX10_of_137 : decode cX10_of 137 = .ok (.iaload, 1) := by decide +kernel
theorem dX10_of_138 : decode cX10_of 138 = .ok (.goto 4, 3) := by decide +kernel
theorem dX10_of_141 : decode cX10_of 141 = .ok (.iconst (-1), 1) := by decide +kernel
theorem dX10_of_142 : decode cX10_of 142 = .ok (.ireturn, 1) := by decide +kernel
theorem dX10_of_143 : decode cX10_of 143 = .ok (.iload_n 3, 1) := by decide +kernel
theorem dX10_of_144 : decode cX10_of 144 = .ok (.ifCond .eq 12, 3) := by decide +kernel
theorem dX10_of_147 : decode cX10_of 147 = .ok (.aload_n 0, 1) := by decide +kernel
theorem dX10_of_148 : decode cX10_of 148 = .ok (.getfield 149, 3) := by decide +kernel
theorem dX10_of_151 : decode cX10_of 151 = .ok (.iload_n 1, 1) := by decide +kernel
theorem dX10_of_152 : decode cX10_of 152 = .ok (.iaload, 1) := by decide +kernel
theorem dX10_of_153 : decode cX10_of 153 = .ok (.goto 4, 3) := by decide +kernel
theorem dX10_of_156 : decode cX10_of 156 = .ok (.iconst (-1), 1) := by decide +kernel
theorem dX10_of_157 : decode cX10_of 157 = .ok (.ireturn, 1) := by decide +kernel
theorem dX10_of_158 : decode cX10_of 158 = .ok (.iload_n 3, 1) := by decide +kernel
theorem dX10_of_159 : decode cX10_of 159 = .ok (.ifCond .eq 12, 3) := by decide +kernel
theorem dX10_of_162 : decode cX10_of 162 = .ok (.aload_n 0, 1) := by decide +kernel
theorem dX10_of_163 : decode cX10_of 163 = .ok (.getfield 152, 3) := by decide +kernel
theorem dX10_of_166 : decode cX10_of 166 = .ok (.iload_n 1, 1) := by decide +kernel
theorem dX10_of_167 : decode cX10_of 167 = .ok (.iaload, 1) := by decide +kernel
theorem dX10_of_168 : decode cX10_of 168 = .ok (.goto 4, 3) := by decide +kernel
theorem dX10_of_171 : decode cX10_of 171 = .ok (.iconst (-1), 1) := by decide +kernel
theorem dX10_of_172 : decode cX10_of 172 = .ok (.ireturn, 1) := by decide +kernel
theorem dX10_of_173 : decode cX10_of 173 = .ok (.iconst (-1), 1) := by decide +kernel
theorem dX10_of_174 : decode cX10_of 174 = .ok (.ireturn, 1) := by decide +kernel
theorem dX10_piece_0 : decode cX10_piece 0 = .ok (.aload_n 0, 1) := by decide +kernel
theorem dX10_piece_1 : decode cX10_piece 1 = .ok (.iload_n 1, 1) := by decide +kernel
theorem dX10_piece_2 : decode cX10_piece 2 = .ok (.invokevirtual 276, 3) := by decide +kernel
theorem dX10_piece_5 : decode cX10_piece 5 = .ok (.ifCond .eq 41, 3) := by decide +kernel
theorem dX10_piece_8 : decode cX10_piece 8 = .ok (.iload_n 2, 1) := by decide +kernel
theorem dX10_piece_9 : decode cX10_piece 9 = .ok (.ifCond .lt 37, 3) := by decide +kernel
theorem dX10_piece_12 : decode cX10_piece 12 = .ok (.iload_n 2, 1) := by decide +kernel
theorem dX10_piece_13 : decode cX10_piece 13 = .ok (.aload_n 0, 1) := by decide +kernel
theorem dX10_piece_14 : decode cX10_piece 14 = .ok (.getfield 125, 3) := by decide +kernel
theorem dX10_piece_17 : decode cX10_piece 17 = .ok (.iload_n 1, 1) := by decide +kernel
theorem dX10_piece_18 : decode cX10_piece 18 = .ok (.iaload, 1) := by decide +kernel
theorem dX10_piece_19 : decode cX10_piece 19 = .ok (.if_icmp .ge 27, 3) := by decide +kernel
theorem dX10_piece_22 : decode cX10_piece 22 = .ok (.iload_n 3, 1) := by decide +kernel
theorem dX10_piece_23 : decode cX10_piece 23 = .ok (.ifCond .lt 23, 3) := by decide +kernel
theorem dX10_piece_26 : decode cX10_piece 26 = .ok (.iload_n 3, 1) := by decide +kernel
theorem dX10_piece_27 : decode cX10_piece 27 = .ok (.aload_n 0, 1) := by decide +kernel
theorem dX10_piece_28 : decode cX10_piece 28 = .ok (.getfield 128, 3) := by decide +kernel
theorem dX10_piece_31 : decode cX10_piece 31 = .ok (.iload_n 1, 1) := by decide +kernel
theorem dX10_piece_32 : decode cX10_piece 32 = .ok (.iaload, 1) := by decide +kernel
theorem dX10_piece_33 : decode cX10_piece 33 = .ok (.if_icmp .ge 13, 3) := by decide +kernel
theorem dX10_piece_36 : decode cX10_piece 36 = .ok (.aload_n 0, 1) := by decide +kernel
theorem dX10_piece_37 : decode cX10_piece 37 = .ok (.iload_n 1, 1) := by decide +kernel
theorem dX10_piece_38 : decode cX10_piece 38 = .ok (.iload_n 2, 1) := by decide +kernel
theorem dX10_piece_39 : decode cX10_piece 39 = .ok (.iload_n 3, 1) := by decide +kernel
theorem dX10_piece_40 : decode cX10_piece 40 = .ok (.invokevirtual 279, 3) := by decide +kernel
theorem dX10_piece_43 : decode cX10_piece 43 = .ok (.goto 4, 3) := by decide +kernel
theorem dX10_piece_46 : decode cX10_piece 46 = .ok (.iconst (-1), 1) := by decide +kernel
theorem dX10_piece_47 : decode cX10_piece 47 = .ok (.ireturn, 1) := by decide +kernel
theorem dX10_same_0 : decode cX10_same 0 = .ok (.aload_n 0, 1) := by decide +kernel
theorem dX10_same_1 : decode cX10_same 1 = .ok (.iload_n 1, 1) := by decide +kernel
theorem dX10_same_2 : decode cX10_same 2 = .ok (.invokevirtual 276, 3) := by decide +kernel
theorem dX10_same_5 : decode cX10_same 5 = .ok (.ifCond .eq 20, 3) := by decide +kernel
theorem dX10_same_8 : decode cX10_same 8 = .ok (.aload_n 0, 1) := by decide +kernel
theorem dX10_same_9 : decode cX10_same 9 = .ok (.iload_n 2, 1) := by decide +kernel
theorem dX10_same_10 : decode cX10_same 10 = .ok (.invokevirtual 276, 3) := by decide +kernel
theorem dX10_same_13 : decode cX10_same 13 = .ok (.ifCond .eq 12, 3) := by decide +kernel
theorem dX10_same_16 : decode cX10_same 16 = .ok (.iload_n 3, 1) := by decide +kernel
theorem dX10_same_17 : decode cX10_same 17 = .ok (.ifCond .lt 8, 3) := by decide +kernel
theorem dX10_same_20 : decode cX10_same 20 = .ok (.iload_n 3, 1) := by decide +kernel
theorem dX10_same_21 : decode cX10_same 21 = .ok (.iconst 2, 1) := by decide +kernel
theorem dX10_same_22 : decode cX10_same 22 = .ok (.if_icmp .le 5, 3) := by decide +kernel
theorem dX10_same_25 : decode cX10_same 25 = .ok (.iconst (-1), 1) := by decide +kernel
theorem dX10_same_26 : decode cX10_same 26 = .ok (.ireturn, 1) := by decide +kernel
theorem dX10_same_27 : decode cX10_same 27 = .ok (.aload_n 0, 1) := by decide +kernel
theorem dX10_same_28 : decode cX10_same 28 = .ok (.getfield 125, 3) := by decide +kernel
theorem dX10_same_31 : decode cX10_same 31 = .ok (.iload_n 1, 1) := by decide +kernel
theorem dX10_same_32 : decode cX10_same 32 = .ok (.iaload, 1) := by decide +kernel
theorem dX10_same_33 : decode cX10_same 33 = .ok (.aload_n 0, 1) := by decide +kernel
theorem dX10_same_34 : decode cX10_same 34 = .ok (.getfield 125, 3) := by decide +kernel
theorem dX10_same_37 : decode cX10_same 37 = .ok (.iload_n 2, 1) := by decide +kernel
theorem dX10_same_38 : decode cX10_same 38 = .ok (.iaload, 1) := by decide +kernel
theorem dX10_same_39 : decode cX10_same 39 = .ok (.if_icmp .ne 18, 3) := by decide +kernel
theorem dX10_same_42 : decode cX10_same 42 = .ok (.aload_n 0, 1) := by decide +kernel
theorem dX10_same_43 : decode cX10_same 43 = .ok (.getfield 128, 3) := by decide +kernel
theorem dX10_same_46 : decode cX10_same 46 = .ok (.iload_n 1, 1) := by decide +kernel
theorem dX10_same_47 : decode cX10_same 47 = .ok (.iaload, 1) := by decide +kernel
theorem dX10_same_48 : decode cX10_same 48 = .ok (.aload_n 0, 1) := by decide +kernel
theorem dX10_same_49 : decode cX10_same 49 = .ok (.getfield 128, 3) := by decide +kernel
theorem dX10_same_52 : decode cX10_same 52 = .ok (.iload_n 2, 1) := by decide +kernel
theorem dX10_same_53 : decode cX10_same 53 = .ok (.iaload, 1) := by decide +kernel
theorem dX10_same_54 : decode cX10_same 54 = .ok (.if_icmp .eq 5, 3) := by decide +kernel
theorem dX10_same_57 : decode cX10_same 57 = .ok (.iconst 0, 1) := by decide +kernel
theorem dX10_same_58 : decode cX10_same 58 = .ok (.ireturn, 1) := by decide +kernel
theorem dX10_same_59 : decode cX10_same 59 = .ok (.aload_n 0, 1) := by decide +kernel
theorem dX10_same_60 : decode cX10_same 60 = .ok (.aload_n 0, 1) := by decide +kernel
theorem dX10_same_61 : decode cX10_same 61 = .ok (.getfield 125, 3) := by decide +kernel
theorem dX10_same_64 : decode cX10_same 64 = .ok (.iload_n 2, 1) := by decide +kernel
theorem dX10_same_65 : decode cX10_same 65 = .ok (.iaload, 1) := by decide +kernel
theorem dX10_same_66 : decode cX10_same 66 = .ok (.putfield 236, 3) := by decide +kernel
theorem dX10_same_69 : decode cX10_same 69 = .ok (.aload_n 0, 1) := by decide +kernel
theorem dX10_same_70 : decode cX10_same 70 = .ok (.aload_n 0, 1) := by decide +kernel
theorem dX10_same_71 : decode cX10_same 71 = .ok (.getfield 128, 3) := by decide +kernel
theorem dX10_same_74 : decode cX10_same 74 = .ok (.iload_n 2, 1) := by decide +kernel
theorem dX10_same_75 : decode cX10_same 75 = .ok (.iaload, 1) := by decide +kernel
theorem dX10_same_76 : decode cX10_same 76 = .ok (.putfield 233, 3) := by decide +kernel
theorem dX10_same_79 : decode cX10_same 79 = .ok (.iconst 0, 1) := by decide +kernel
theorem dX10_same_80 : decode cX10_same 80 = .ok (.istore 4, 2) := by decide +kernel
theorem dX10_same_82 : decode cX10_same 82 = .ok (.iload 4, 2) := by decide +kernel
theorem dX10_same_84 : decode cX10_same 84 = .ok (.bipush 64, 2) := by decide +kernel
theorem dX10_same_86 : decode cX10_same 86 = .ok (.if_icmp .ge 28, 3) := by decide +kernel
theorem dX10_same_89 : decode cX10_same 89 = .ok (.aload_n 0, 1) := by decide +kernel
theorem dX10_same_90 : decode cX10_same 90 = .ok (.getfield 86, 3) := by decide +kernel
theorem dX10_same_93 : decode cX10_same 93 = .ok (.iload 4, 2) := by decide +kernel
theorem dX10_same_95 : decode cX10_same 95 = .ok (.aload_n 0, 1) := by decide +kernel
theorem dX10_same_96 : decode cX10_same 96 = .ok (.getfield 131, 3) := by decide +kernel
theorem dX10_same_99 : decode cX10_same 99 = .ok (.bipush 64, 2) := by decide +kernel
theorem dX10_same_101 : decode cX10_same 101 = .ok (.iload_n 2, 1) := by decide +kernel
theorem dX10_same_102 : decode cX10_same 102 = .ok (.imul, 1) := by decide +kernel
theorem dX10_same_103 : decode cX10_same 103 = .ok (.iload 4, 2) := by decide +kernel
theorem dX10_same_105 : decode cX10_same 105 = .ok (.iadd, 1) := by decide +kernel
theorem dX10_same_106 : decode cX10_same 106 = .ok (.iaload, 1) := by decide +kernel
theorem dX10_same_107 : decode cX10_same 107 = .ok (.iastore, 1) := by decide +kernel
theorem dX10_same_108 : decode cX10_same 108 = .ok (.iinc 4 1, 3) := by decide +kernel
theorem dX10_same_111 : decode cX10_same 111 = .ok (.goto (-29), 3) := by decide +kernel
theorem dX10_same_114 : decode cX10_same 114 = .ok (.iload_n 3, 1) := by decide +kernel
theorem dX10_same_115 : decode cX10_same 115 = .ok (.ifCond .le 18, 3) := by decide +kernel
theorem dX10_same_118 : decode cX10_same 118 = .ok (.aload_n 0, 1) := by decide +kernel
theorem dX10_same_119 : decode cX10_same 119 = .ok (.iconst 1, 1) := by decide +kernel
theorem dX10_same_120 : decode cX10_same 120 = .ok (.iload_n 3, 1) := by decide +kernel
theorem dX10_same_121 : decode cX10_same 121 = .ok (.iconst 2, 1) := by decide +kernel
theorem dX10_same_122 : decode cX10_same 122 = .ok (.if_icmp .ne 7, 3) := by decide +kernel
theorem dX10_same_125 : decode cX10_same 125 = .ok (.iconst 1, 1) := by decide +kernel
theorem dX10_same_126 : decode cX10_same 126 = .ok (.goto 4, 3) := by decide +kernel
theorem dX10_same_129 : decode cX10_same 129 = .ok (.iconst 0, 1) := by decide +kernel
theorem dX10_same_130 : decode cX10_same 130 = .ok (.invokevirtual 242, 3) := by decide +kernel
theorem dX10_same_133 : decode cX10_same 133 = .ok (.iconst 0, 1) := by decide +kernel
theorem dX10_same_134 : decode cX10_same 134 = .ok (.istore 4, 2) := by decide +kernel
theorem dX10_same_136 : decode cX10_same 136 = .ok (.iload 4, 2) := by decide +kernel
theorem dX10_same_138 : decode cX10_same 138 = .ok (.aload_n 0, 1) := by decide +kernel
theorem dX10_same_139 : decode cX10_same 139 = .ok (.getfield 233, 3) := by decide +kernel
theorem dX10_same_142 : decode cX10_same 142 = .ok (.if_icmp .ge 54, 3) := by decide +kernel
theorem dX10_same_145 : decode cX10_same 145 = .ok (.iconst 0, 1) := by decide +kernel
theorem dX10_same_146 : decode cX10_same 146 = .ok (.istore 5, 2) := by decide +kernel
theorem dX10_same_148 : decode cX10_same 148 = .ok (.iload 5, 2) := by decide +kernel
theorem dX10_same_150 : decode cX10_same 150 = .ok (.aload_n 0, 1) := by decide +kernel
theorem dX10_same_151 : decode cX10_same 151 = .ok (.getfield 236, 3) := by decide +kernel
theorem dX10_same_154 : decode cX10_same 154 = .ok (.if_icmp .ge 36, 3) := by decide +kernel
theorem dX10_same_157 : decode cX10_same 157 = .ok (.aload_n 0, 1) := by decide +kernel
theorem dX10_same_158 : decode cX10_same 158 = .ok (.getfield 86, 3) := by decide +kernel
theorem dX10_same_161 : decode cX10_same 161 = .ok (.bipush 8, 2) := by decide +kernel
theorem dX10_same_163 : decode cX10_same 163 = .ok (.iload 4, 2) := by decide +kernel
theorem dX10_same_165 : decode cX10_same 165 = .ok (.imul, 1) := by decide +kernel
theorem dX10_same_166 : decode cX10_same 166 = .ok (.iload 5, 2) := by decide +kernel
theorem dX10_same_168 : decode cX10_same 168 = .ok (.iadd, 1) := by decide +kernel
theorem dX10_same_169 : decode cX10_same 169 = .ok (.iaload, 1) := by decide +kernel
theorem dX10_same_170 : decode cX10_same 170 = .ok (.aload_n 0, 1) := by decide +kernel
theorem dX10_same_171 : decode cX10_same 171 = .ok (.iload_n 1, 1) := by decide +kernel
theorem dX10_same_172 : decode cX10_same 172 = .ok (.iload 5, 2) := by decide +kernel
theorem dX10_same_174 : decode cX10_same 174 = .ok (.iload 4, 2) := by decide +kernel
theorem dX10_same_176 : decode cX10_same 176 = .ok (.invokevirtual 279, 3) := by decide +kernel
theorem dX10_same_179 : decode cX10_same 179 = .ok (.if_icmp .eq 5, 3) := by decide +kernel
theorem dX10_same_182 : decode cX10_same 182 = .ok (.iconst 0, 1) := by decide +kernel
theorem dX10_same_183 : decode cX10_same 183 = .ok (.ireturn, 1) := by decide +kernel
theorem dX10_same_184 : decode cX10_same 184 = .ok (.iinc 5 1, 3) := by decide +kernel
theorem dX10_same_187 : decode cX10_same 187 = .ok (.goto (-39), 3) := by decide +kernel
theorem dX10_same_190 : decode cX10_same 190 = .ok (.iinc 4 1, 3) := by decide +kernel
theorem dX10_same_193 : decode cX10_same 193 = .ok (.goto (-57), 3) := by decide +kernel
theorem dX10_same_196 : decode cX10_same 196 = .ok (.iconst 1, 1) := by decide +kernel
theorem dX10_same_197 : decode cX10_same 197 = .ok (.ireturn, 1) := by decide +kernel
theorem dX10_counts_0 : decode cX10_counts 0 = .ok (.iconst 0, 1) := by decide +kernel
theorem dX10_counts_1 : decode cX10_counts 1 = .ok (.istore_n 2, 1) := by decide +kernel
theorem dX10_counts_2 : decode cX10_counts 2 = .ok (.iload_n 2, 1) := by decide +kernel
theorem dX10_counts_3 : decode cX10_counts 3 = .ok (.bipush 10, 2) := by decide +kernel
theorem dX10_counts_5 : decode cX10_counts 5 = .ok (.if_icmp .ge 16, 3) := by decide +kernel
theorem dX10_counts_8 : decode cX10_counts 8 = .ok (.aload_n 0, 1) := by decide +kernel
theorem dX10_counts_9 : decode cX10_counts 9 = .ok (.getfield 155, 3) := by decide +kernel
theorem dX10_counts_12 : decode cX10_counts 12 = .ok (.iload_n 2, 1) := by decide +kernel
theorem dX10_counts_13 : decode cX10_counts 13 = .ok (.iconst 0, 1) := by decide +kernel
theorem dX10_counts_14 : decode cX10_counts 14 = .ok (.iastore, 1) := by decide +kernel
theorem dX10_counts_15 : decode cX10_counts 15 = .ok (.iinc 2 1, 3) := by decide +kernel
theorem dX10_counts_18 : decode cX10_counts 18 = .ok (.goto (-16), 3) := by decide +kernel
theorem dX10_counts_21 : decode cX10_counts 21 = .ok (.iconst 0, 1) := by decide +kernel
theorem dX10_counts_22 : decode cX10_counts 22 = .ok (.istore_n 2, 1) := by decide +kernel
theorem dX10_counts_23 : decode cX10_counts 23 = .ok (.iload_n 2, 1) := by decide +kernel
theorem dX10_counts_24 : decode cX10_counts 24 = .ok (.aload_n 0, 1) := by decide +kernel
theorem dX10_counts_25 : decode cX10_counts 25 = .ok (.getfield 128, 3) := by decide +kernel
theorem dX10_counts_28 : decode cX10_counts 28 = .ok (.iload_n 1, 1) := by decide +kernel
theorem dX10_counts_29 : decode cX10_counts 29 = .ok (.iaload, 1) := by decide +kernel
theorem dX10_counts_30 : decode cX10_counts 30 = .ok (.if_icmp .ge 46, 3) := by decide +kernel
theorem dX10_counts_33 : decode cX10_counts 33 = .ok (.iconst 0, 1) := by decide +kernel
theorem dX10_counts_34 : decode cX10_counts 34 = .ok (.istore_n 3, 1) := by decide +kernel
theorem dX10_counts_35 : decode cX10_counts 35 = .ok (.iload_n 3, 1) := by decide +kernel
theorem dX10_counts_36 : decode cX10_counts 36 = .ok (.aload_n 0, 1) := by decide +kernel
theorem dX10_counts_37 : decode cX10_counts 37 = .ok (.getfield 125, 3) := by decide +kernel
theorem dX10_counts_40 : decode cX10_counts 40 = .ok (.iload_n 1, 1) := by decide +kernel
theorem dX10_counts_41 : decode cX10_counts 41 = .ok (.iaload, 1) := by decide +kernel
theorem dX10_counts_42 : decode cX10_counts 42 = .ok (.if_icmp .ge 28, 3) := by decide +kernel
theorem dX10_counts_45 : decode cX10_counts 45 = .ok (.aload_n 0, 1) := by decide +kernel
theorem dX10_counts_46 : decode cX10_counts 46 = .ok (.getfield 155, 3) := by decide +kernel
theorem dX10_counts_49 : decode cX10_counts 49 = .ok (.aload_n 0, 1) := by decide +kernel
theorem dX10_counts_50 : decode cX10_counts 50 = .ok (.iload_n 1, 1) := by decide +kernel
theorem dX10_counts_51 : decode cX10_counts 51 = .ok (.iload_n 3, 1) := by decide +kernel
theorem dX10_counts_52 : decode cX10_counts 52 = .ok (.iload_n 2, 1) := by decide +kernel
theorem dX10_counts_53 : decode cX10_counts 53 = .ok (.invokevirtual 279, 3) := by decide +kernel
theorem dX10_counts_56 : decode cX10_counts 56 = .ok (.bipush 15, 2) := by decide +kernel
theorem dX10_counts_58 : decode cX10_counts 58 = .ok (.iand, 1) := by decide +kernel
theorem dX10_counts_59 : decode cX10_counts 59 = .ok (.dup2, 1) := by decide +kernel
theorem dX10_counts_60 : decode cX10_counts 60 = .ok (.iaload, 1) := by decide +kernel
theorem dX10_counts_61 : decode cX10_counts 61 = .ok (.iconst 1, 1) := by decide +kernel
theorem dX10_counts_62 : decode cX10_counts 62 = .ok (.iadd, 1) := by decide +kernel
theorem dX10_counts_63 : decode cX10_counts 63 = .ok (.iastore, 1) := by decide +kernel
theorem dX10_counts_64 : decode cX10_counts 64 = .ok (.iinc 3 1, 3) := by decide +kernel
theorem dX10_counts_67 : decode cX10_counts 67 = .ok (.goto (-32), 3) := by decide +kernel
theorem dX10_counts_70 : decode cX10_counts 70 = .ok (.iinc 2 1, 3) := by decide +kernel
theorem dX10_counts_73 : decode cX10_counts 73 = .ok (.goto (-50), 3) := by decide +kernel
theorem dX10_counts_76 : decode cX10_counts 76 = .ok (.return_, 1) := by decide +kernel
theorem dX10_hasTones_0 : decode cX10_hasTones 0 = .ok (.iconst 0, 1) := by decide +kernel
theorem dX10_hasTones_1 : decode cX10_hasTones 1 = .ok (.istore 4, 2) := by decide +kernel
theorem dX10_hasTones_3 : decode cX10_hasTones 3 = .ok (.iconst 0, 1) := by decide +kernel
theorem dX10_hasTones_4 : decode cX10_hasTones 4 = .ok (.istore 5, 2) := by decide +kernel
theorem dX10_hasTones_6 : decode cX10_hasTones 6 = .ok (.iconst 0, 1) := by decide +kernel
theorem dX10_hasTones_7 : decode cX10_hasTones 7 = .ok (.istore 6, 2) := by decide +kernel
theorem dX10_hasTones_9 : decode cX10_hasTones 9 = .ok (.iconst 0, 1) := by decide +kernel
theorem dX10_hasTones_10 : decode cX10_hasTones 10 = .ok (.istore 7, 2) := by decide +kernel
theorem dX10_hasTones_12 : decode cX10_hasTones 12 = .ok (.iload 7, 2) := by decide +kernel
theorem dX10_hasTones_14 : decode cX10_hasTones 14 = .ok (.bipush 10, 2) := by decide +kernel
theorem dX10_hasTones_16 : decode cX10_hasTones 16 = .ok (.if_icmp .ge 68, 3) := by decide +kernel
theorem dX10_hasTones_19 : decode cX10_hasTones 19 = .ok (.aload_n 0, 1) := by decide +kernel
theorem dX10_hasTones_20 : decode cX10_hasTones 20 = .ok (.getfield 155, 3) := by decide +kernel
theorem dX10_hasTones_23 : decode cX10_hasTones 23 = .ok (.iload 7, 2) := by decide +kernel
theorem dX10_hasTones_25 : decode cX10_hasTones 25 = .ok (.iaload, 1) := by decide +kernel
theorem dX10_hasTones_26 : decode cX10_hasTones 26 = .ok (.ifCond .ne 6, 3) := by decide +kernel
theorem dX10_hasTones_29 : decode cX10_hasTones 29 = .ok (.goto 49, 3) := by decide +kernel
theorem dX10_hasTones_32 : decode cX10_hasTones 32 = .ok (.aload_n 0, 1) := by decide +kernel
theorem dX10_hasTones_33 : decode cX10_hasTones 33 = .ok (.iload_n 2, 1) := by decide +kernel
theorem dX10_hasTones_34 : decode cX10_hasTones 34 = .ok (.iload_n 3, 1) := by decide +kernel
theorem dX10_hasTones_35 : decode cX10_hasTones 35 = .ok (.iload 7, 2) := by decide +kernel
theorem dX10_hasTones_37 : decode cX10_hasTones 37 = .ok (.iadd, 1) := by decide +kernel
theorem dX10_hasTones_38 : decode cX10_hasTones 38 = .ok (.invokevirtual 194, 3) := by decide +kernel
theorem dX10_hasTones_41 : decode cX10_hasTones 41 = .ok (.istore 8, 2) := by decide +kernel
theorem dX10_hasTones_43 : decode cX10_hasTones 43 = .ok (.iload 6, 2) := by decide +kernel
theorem dX10_hasTones_45 : decode cX10_hasTones 45 = .ok (.ifCond .eq 10, 3) := by decide +kernel
theorem dX10_hasTones_48 : decode cX10_hasTones 48 = .ok (.iload 8, 2) := by decide +kernel
theorem dX10_hasTones_50 : decode cX10_hasTones 50 = .ok (.iload 4, 2) := by decide +kernel
theorem dX10_hasTones_52 : decode cX10_hasTones 52 = .ok (.if_icmp .ge 7, 3) := by decide +kernel
theorem dX10_hasTones_55 : decode cX10_hasTones 55 = .ok (.iload 8, 2) := by decide +kernel
theorem dX10_hasTones_57 : decode cX10_hasTones 57 = .ok (.istore 4, 2) := by decide +kernel
theorem dX10_hasTones_59 : decode cX10_hasTones 59 = .ok (.iload 6, 2) := by decide +kernel
theorem dX10_hasTones_61 : decode cX10_hasTones 61 = .ok (.ifCond .eq 10, 3) := by decide +kernel
theorem dX10_hasTones_64 : decode cX10_hasTones 64 = .ok (.iload 8, 2) := by decide +kernel
theorem dX10_hasTones_66 : decode cX10_hasTones 66 = .ok (.iload 5, 2) := by decide +kernel
theorem dX10_hasTones_68 : decode cX10_hasTones 68 = .ok (.if_icmp .le 7, 3) := by decide +kernel
theorem dX10_hasTones_71 : decode cX10_hasTones 71 = .ok (.iload 8, 2) := by decide +kernel
theorem dX10_hasTones_73 : decode cX10_hasTones 73 = .ok (.istore 5, 2) := by decide +kernel
theorem dX10_hasTones_75 : decode cX10_hasTones 75 = .ok (.iconst 1, 1) := by decide +kernel
theorem dX10_hasTones_76 : decode cX10_hasTones 76 = .ok (.istore 6, 2) := by decide +kernel
theorem dX10_hasTones_78 : decode cX10_hasTones 78 = .ok (.iinc 7 1, 3) := by decide +kernel
theorem dX10_hasTones_81 : decode cX10_hasTones 81 = .ok (.goto (-69), 3) := by decide +kernel
theorem dX10_hasTones_84 : decode cX10_hasTones 84 = .ok (.iload 5, 2) := by decide +kernel
theorem dX10_hasTones_86 : decode cX10_hasTones 86 = .ok (.iload 4, 2) := by decide +kernel
theorem dX10_hasTones_88 : decode cX10_hasTones 88 = .ok (.isub, 1) := by decide +kernel
theorem dX10_hasTones_89 : decode cX10_hasTones 89 = .ok (.aload_n 0, 1) := by decide +kernel
theorem dX10_hasTones_90 : decode cX10_hasTones 90 = .ok (.getfield 140, 3) := by decide +kernel
theorem dX10_hasTones_93 : decode cX10_hasTones 93 = .ok (.iload_n 1, 1) := by decide +kernel
theorem dX10_hasTones_94 : decode cX10_hasTones 94 = .ok (.iaload, 1) := by decide +kernel
theorem dX10_hasTones_95 : decode cX10_hasTones 95 = .ok (.if_icmp .gt 7, 3) := by decide +kernel
theorem dX10_hasTones_98 : decode cX10_hasTones 98 = .ok (.iconst 1, 1) := by decide +kernel
theorem dX10_hasTones_99 : decode cX10_hasTones 99 = .ok (.goto 4, 3) := by decide +kernel
theorem dX10_hasTones_102 : decode cX10_hasTones 102 = .ok (.iconst 0, 1) := by decide +kernel
theorem dX10_hasTones_103 : decode cX10_hasTones 103 = .ok (.ireturn, 1) := by decide +kernel
theorem dX10_fits_0 : decode cX10_fits 0 = .ok (.iconst 0, 1) := by decide +kernel
theorem dX10_fits_1 : decode cX10_fits 1 = .ok (.istore 6, 2) := by decide +kernel
theorem dX10_fits_3 : decode cX10_fits 3 = .ok (.iload 6, 2) := by decide +kernel
theorem dX10_fits_5 : decode cX10_fits 5 = .ok (.bipush 10, 2) := by decide +kernel
theorem dX10_fits_7 : decode cX10_fits 7 = .ok (.if_icmp .ge 115, 3) := by decide +kernel
theorem dX10_fits_10 : decode cX10_fits 10 = .ok (.aload_n 0, 1) := by decide +kernel
theorem dX10_fits_11 : decode cX10_fits 11 = .ok (.getfield 155, 3) := by decide +kernel
theorem dX10_fits_14 : decode cX10_fits 14 = .ok (.iload 6, 2) := by decide +kernel
theorem dX10_fits_16 : decode cX10_fits 16 = .ok (.iaload, 1) := by decide +kernel
theorem dX10_fits_17 : decode cX10_fits 17 = .ok (.ifCond .ne 6, 3) := by decide +kernel
theorem dX10_fits_20 : decode cX10_fits 20 = .ok (.goto 96, 3) := by decide +kernel
theorem dX10_fits_23 : decode cX10_fits 23 = .ok (.aload_n 0, 1) := by decide +kernel
theorem dX10_fits_24 : decode cX10_fits 24 = .ok (.getfield 155, 3) := by decide +kernel
theorem dX10_fits_27 : decode cX10_fits 27 = .ok (.iload 6, 2) := by decide +kernel
theorem dX10_fits_29 : decode cX10_fits 29 = .ok (.iaload, 1) := by decide +kernel
theorem dX10_fits_30 : decode cX10_fits 30 = .ok (.aload_n 0, 1) := by decide +kernel
theorem dX10_fits_31 : decode cX10_fits 31 = .ok (.getfield 137, 3) := by decide +kernel
theorem dX10_fits_34 : decode cX10_fits 34 = .ok (.iload_n 1, 1) := by decide +kernel
theorem dX10_fits_35 : decode cX10_fits 35 = .ok (.iaload, 1) := by decide +kernel
theorem dX10_fits_36 : decode cX10_fits 36 = .ok (.imul, 1) := by decide +kernel
theorem dX10_fits_37 : decode cX10_fits 37 = .ok (.istore 7, 2) := by decide +kernel
theorem dX10_fits_39 : decode cX10_fits 39 = .ok (.aload_n 0, 1) := by decide +kernel
theorem dX10_fits_40 : decode cX10_fits 40 = .ok (.iload_n 2, 1) := by decide +kernel
theorem dX10_fits_41 : decode cX10_fits 41 = .ok (.iload_n 3, 1) := by decide +kernel
theorem dX10_fits_42 : decode cX10_fits 42 = .ok (.iload 6, 2) := by decide +kernel
theorem dX10_fits_44 : decode cX10_fits 44 = .ok (.iadd, 1) := by decide +kernel
theorem dX10_fits_45 : decode cX10_fits 45 = .ok (.iload 5, 2) := by decide +kernel
theorem dX10_fits_47 : decode cX10_fits 47 = .ok (.i2l, 1) := by decide +kernel
theorem dX10_fits_48 : decode cX10_fits 48 = .ok (.iload 4, 2) := by decide +kernel
theorem dX10_fits_50 : decode cX10_fits 50 = .ok (.i2l, 1) := by decide +kernel
theorem dX10_fits_51 : decode cX10_fits 51 = .ok (.aload_n 0, 1) := by decide +kernel
theorem dX10_fits_52 : decode cX10_fits 52 = .ok (.getfield 134, 3) := by decide +kernel
theorem dX10_fits_55 : decode cX10_fits 55 = .ok (.iload_n 1, 1) := by decide +kernel
theorem dX10_fits_56 : decode cX10_fits 56 = .ok (.iaload, 1) := by decide +kernel
theorem dX10_fits_57 : decode cX10_fits 57 = .ok (.iload 7, 2) := by decide +kernel
theorem dX10_fits_59 : decode cX10_fits 59 = .ok (.invokevirtual 201, 3) := by decide +kernel
theorem dX10_fits_62 : decode cX10_fits 62 = .ok (.ifCond .eq 52, 3) := by decide +kernel
theorem dX10_fits_65 : decode cX10_fits 65 = .ok (.aload_n 0, 1) := by decide +kernel
theorem dX10_fits_66 : decode cX10_fits 66 = .ok (.iload_n 2, 1) := by decide +kernel
theorem dX10_fits_67 : decode cX10_fits 67 = .ok (.iload_n 3, 1) := by decide +kernel
theorem dX10_fits_68 : decode cX10_fits 68 = .ok (.iload 6, 2) := by decide +kernel
theorem dX10_fits_70 : decode cX10_fits 70 = .ok (.iadd, 1) := by decide +kernel
theorem dX10_fits_71 : decode cX10_fits 71 = .ok (.iload 5, 2) := by decide +kernel
theorem dX10_fits_73 : decode cX10_fits 73 = .ok (.iload 4, 2) := by decide +kernel
theorem dX10_fits_75 : decode cX10_fits 75 = .ok (.aload_n 0, 1) := by decide +kernel
theorem dX10_fits_76 : decode cX10_fits 76 = .ok (.getfield 134, 3) := by decide +kernel
theorem dX10_fits_79 : decode cX10_fits 79 = .ok (.iload_n 1, 1) := by decide +kernel
theorem dX10_fits_80 : decode cX10_fits 80 = .ok (.iaload, 1) := by decide +kernel
theorem dX10_fits_81 : decode cX10_fits 81 = .ok (.iload 7, 2) := by decide +kernel
theorem dX10_fits_83 : decode cX10_fits 83 = .ok (.invokevirtual 205, 3) := by decide +kernel
theorem dX10_fits_86 : decode cX10_fits 86 = .ok (.iconst (-1), 1) := by decide +kernel
theorem dX10_fits_87 : decode cX10_fits 87 = .ok (.if_icmp .ne 27, 3) := by decide +kernel
theorem dX10_fits_90 : decode cX10_fits 90 = .ok (.aload_n 0, 1) := by decide +kernel
theorem dX10_fits_91 : decode cX10_fits 91 = .ok (.iload_n 2, 1) := by decide +kernel
theorem dX10_fits_92 : decode cX10_fits 92 = .ok (.iload_n 3, 1) := by decide +kernel
theorem dX10_fits_93 : decode cX10_fits 93 = .ok (.iload 6, 2) := by decide +kernel
theorem dX10_fits_95 : decode cX10_fits 95 = .ok (.iadd, 1) := by decide +kernel
theorem dX10_fits_96 : decode cX10_fits 96 = .ok (.iload 5, 2) := by decide +kernel
theorem dX10_fits_98 : decode cX10_fits 98 = .ok (.iload 4, 2) := by decide +kernel
theorem dX10_fits_100 : decode cX10_fits 100 = .ok (.aload_n 0, 1) := by decide +kernel
theorem dX10_fits_101 : decode cX10_fits 101 = .ok (.getfield 134, 3) := by decide +kernel
theorem dX10_fits_104 : decode cX10_fits 104 = .ok (.iload_n 1, 1) := by decide +kernel
theorem dX10_fits_105 : decode cX10_fits 105 = .ok (.iaload, 1) := by decide +kernel
theorem dX10_fits_106 : decode cX10_fits 106 = .ok (.iload 7, 2) := by decide +kernel
theorem dX10_fits_108 : decode cX10_fits 108 = .ok (.invokevirtual 298, 3) := by decide +kernel
theorem dX10_fits_111 : decode cX10_fits 111 = .ok (.ifCond .eq 5, 3) := by decide +kernel
theorem dX10_fits_114 : decode cX10_fits 114 = .ok (.iconst 0, 1) := by decide +kernel
theorem dX10_fits_115 : decode cX10_fits 115 = .ok (.ireturn, 1) := by decide +kernel
theorem dX10_fits_116 : decode cX10_fits 116 = .ok (.iinc 6 1, 3) := by decide +kernel
theorem dX10_fits_119 : decode cX10_fits 119 = .ok (.goto (-116), 3) := by decide +kernel
theorem dX10_fits_122 : decode cX10_fits 122 = .ok (.iconst 1, 1) := by decide +kernel
theorem dX10_fits_123 : decode cX10_fits 123 = .ok (.ireturn, 1) := by decide +kernel
theorem dX10_why_0 : decode cX10_why 0 = .ok (.aload_n 0, 1) := by decide +kernel
theorem dX10_why_1 : decode cX10_why 1 = .ok (.iload_n 1, 1) := by decide +kernel
theorem dX10_why_2 : decode cX10_why 2 = .ok (.invokevirtual 276, 3) := by decide +kernel
theorem dX10_why_5 : decode cX10_why 5 = .ok (.ifCond .eq 11, 3) := by decide +kernel
theorem dX10_why_8 : decode cX10_why 8 = .ok (.aload_n 0, 1) := by decide +kernel
theorem dX10_why_9 : decode cX10_why 9 = .ok (.iload_n 2, 1) := by decide +kernel
theorem dX10_why_10 : decode cX10_why 10 = .ok (.invokevirtual 167, 3) := by decide +kernel
theorem dX10_why_13 : decode cX10_why 13 = .ok (.ifCond .ne 5, 3) := by decide +kernel
theorem dX10_why_16 : decode cX10_why 16 = .ok (.iconst (-1), 1) := by decide +kernel
theorem dX10_why_17 : decode cX10_why 17 = .ok (.ireturn, 1) := by decide +kernel
theorem dX10_why_18 : decode cX10_why 18 = .ok (.iconst 0, 1) := by decide +kernel
theorem dX10_why_19 : decode cX10_why 19 = .ok (.istore 6, 2) := by decide +kernel
theorem dX10_why_21 : decode cX10_why 21 = .ok (.iload 6, 2) := by decide +kernel
theorem dX10_why_23 : decode cX10_why 23 = .ok (.bipush 10, 2) := by decide +kernel
theorem dX10_why_25 : decode cX10_why 25 = .ok (.if_icmp .ge 17, 3) := by decide +kernel
theorem dX10_why_28 : decode cX10_why 28 = .ok (.aload_n 0, 1) := by decide +kernel
theorem dX10_why_29 : decode cX10_why 29 = .ok (.getfield 155, 3) := by decide +kernel
theorem dX10_why_32 : decode cX10_why 32 = .ok (.iload 6, 2) := by decide +kernel
theorem dX10_why_34 : decode cX10_why 34 = .ok (.iconst 0, 1) := by decide +kernel
theorem dX10_why_35 : decode cX10_why 35 = .ok (.iastore, 1) := by decide +kernel
theorem dX10_why_36 : decode cX10_why 36 = .ok (.iinc 6 1, 3) := by decide +kernel
theorem dX10_why_39 : decode cX10_why 39 = .ok (.goto (-18), 3) := by decide +kernel
theorem dX10_why_42 : decode cX10_why 42 = .ok (.iconst 0, 1) := by decide +kernel
theorem dX10_why_43 : decode cX10_why 43 = .ok (.istore 6, 2) := by decide +kernel
theorem dX10_why_45 : decode cX10_why 45 = .ok (.iload 6, 2) := by decide +kernel
theorem dX10_why_47 : decode cX10_why 47 = .ok (.aload_n 0, 1) := by decide +kernel
theorem dX10_why_48 : decode cX10_why 48 = .ok (.getfield 128, 3) := by decide +kernel
theorem dX10_why_51 : decode cX10_why 51 = .ok (.iload_n 1, 1) := by decide +kernel
theorem dX10_why_52 : decode cX10_why 52 = .ok (.iaload, 1) := by decide +kernel
theorem dX10_why_53 : decode cX10_why 53 = .ok (.if_icmp .ge 197, 3) := by decide +kernel
theorem dX10_why_56 : decode cX10_why 56 = .ok (.iconst 0, 1) := by decide +kernel
theorem dX10_why_57 : decode cX10_why 57 = .ok (.istore 7, 2) := by decide +kernel
theorem dX10_why_59 : decode cX10_why 59 = .ok (.iload 7, 2) := by decide +kernel
theorem dX10_why_61 : decode cX10_why 61 = .ok (.aload_n 0, 1) := by decide +kernel
theorem dX10_why_62 : decode cX10_why 62 = .ok (.getfield 125, 3) := by decide +kernel
theorem dX10_why_65 : decode cX10_why 65 = .ok (.iload_n 1, 1) := by decide +kernel
theorem dX10_why_66 : decode cX10_why 66 = .ok (.iaload, 1) := by decide +kernel
theorem dX10_why_67 : decode cX10_why 67 = .ok (.if_icmp .ge 177, 3) := by decide +kernel
theorem dX10_why_70 : decode cX10_why 70 = .ok (.aload_n 0, 1) := by decide +kernel
theorem dX10_why_71 : decode cX10_why 71 = .ok (.iload_n 1, 1) := by decide +kernel
theorem dX10_why_72 : decode cX10_why 72 = .ok (.iload 7, 2) := by decide +kernel
theorem dX10_why_74 : decode cX10_why 74 = .ok (.iload 6, 2) := by decide +kernel
theorem dX10_why_76 : decode cX10_why 76 = .ok (.invokevirtual 279, 3) := by decide +kernel
theorem dX10_why_79 : decode cX10_why 79 = .ok (.bipush 15, 2) := by decide +kernel
theorem dX10_why_81 : decode cX10_why 81 = .ok (.iand, 1) := by decide +kernel
theorem dX10_why_82 : decode cX10_why 82 = .ok (.istore 8, 2) := by decide +kernel
theorem dX10_why_84 : decode cX10_why 84 = .ok (.iload_n 3, 1) := by decide +kernel
theorem dX10_why_85 : decode cX10_why 85 = .ok (.i2l, 1) := by decide +kernel
theorem dX10_why_86 : decode cX10_why 86 = .ok (.iload 8, 2) := by decide +kernel
theorem dX10_why_88 : decode cX10_why 88 = .ok (.i2l, 1) := by decide +kernel
theorem dX10_why_89 : decode cX10_why 89 = .ok (.ladd, 1) := by decide +kernel
theorem dX10_why_90 : decode cX10_why 90 = .ok (.lstore 9, 2) := by decide +kernel
theorem dX10_why_92 : decode cX10_why 92 = .ok (.iload 4, 2) := by decide +kernel
theorem dX10_why_94 : decode cX10_why 94 = .ok (.i2l, 1) := by decide +kernel
theorem dX10_why_95 : decode cX10_why 95 = .ok (.aload_n 0, 1) := by decide +kernel
theorem dX10_why_96 : decode cX10_why 96 = .ok (.getfield 155, 3) := by decide +kernel
theorem dX10_why_99 : decode cX10_why 99 = .ok (.iload 8, 2) := by decide +kernel
theorem dX10_why_101 : decode cX10_why 101 = .ok (.iaload, 1) := by decide +kernel
theorem dX10_why_102 : decode cX10_why 102 = .ok (.i2l, 1) := by decide +kernel
theorem dX10_why_103 : decode cX10_why 103 = .ok (.aload_n 0, 1) := by decide +kernel
theorem dX10_why_104 : decode cX10_why 104 = .ok (.getfield 137, 3) := by decide +kernel
theorem dX10_why_107 : decode cX10_why 107 = .ok (.iload_n 1, 1) := by decide +kernel
theorem dX10_why_108 : decode cX10_why 108 = .ok (.iaload, 1) := by decide +kernel
theorem dX10_why_109 : decode cX10_why 109 = .ok (.i2l, 1) := by decide +kernel
theorem dX10_why_110 : decode cX10_why 110 = .ok (.lmul, 1) := by decide +kernel
theorem dX10_why_111 : decode cX10_why 111 = .ok (.ladd, 1) := by decide +kernel
theorem dX10_why_112 : decode cX10_why 112 = .ok (.lstore 11, 2) := by decide +kernel
theorem dX10_why_114 : decode cX10_why 114 = .ok (.aload_n 0, 1) := by decide +kernel
theorem dX10_why_115 : decode cX10_why 115 = .ok (.getfield 155, 3) := by decide +kernel
theorem dX10_why_118 : decode cX10_why 118 = .ok (.iload 8, 2) := by decide +kernel
theorem dX10_why_120 : decode cX10_why 120 = .ok (.dup2, 1) := by decide +kernel
theorem dX10_why_121 : decode cX10_why 121 = .ok (.iaload, 1) := by decide +kernel
theorem dX10_why_122 : decode cX10_why 122 = .ok (.iconst 1, 1) := by decide +kernel
theorem dX10_why_123 : decode cX10_why 123 = .ok (.iadd, 1) := by decide +kernel
theorem dX10_why_124 : decode cX10_why 124 = .ok (.iastore, 1) := by decide +kernel
theorem dX10_why_125 : decode cX10_why 125 = .ok (.lload 9, 2) := by decide +kernel
theorem dX10_why_127 : decode cX10_why 127 = .ok (.lconst 0, 1) := by decide +kernel
theorem dX10_why_128 : decode cX10_why 128 = .ok (.lcmp, 1) := by decide +kernel
theorem dX10_why_129 : decode cX10_why 129 = .ok (.ifCond .lt 16, 3) := by decide +kernel
theorem dX10_why_132 : decode cX10_why 132 = .ok (.lload 9, 2) := by decide +kernel
theorem dX10_why_134 : decode cX10_why 134 = .ok (.aload_n 0, 1) := by decide +kernel
theorem dX10_why_135 : decode cX10_why 135 = .ok (.getfield 7, 3) := by decide +kernel
theorem dX10_why_138 : decode cX10_why 138 = .ok (.iload_n 2, 1) := by decide +kernel
theorem dX10_why_139 : decode cX10_why 139 = .ok (.iaload, 1) := by decide +kernel
theorem dX10_why_140 : decode cX10_why 140 = .ok (.i2l, 1) := by decide +kernel
theorem dX10_why_141 : decode cX10_why 141 = .ok (.lcmp, 1) := by decide +kernel
theorem dX10_why_142 : decode cX10_why 142 = .ok (.ifCond .lt 5, 3) := by decide +kernel
theorem dX10_why_145 : decode cX10_why 145 = .ok (.iconst 1, 1) := by decide +kernel
theorem dX10_why_146 : decode cX10_why 146 = .ok (.ireturn, 1) := by decide +kernel
theorem dX10_why_147 : decode cX10_why 147 = .ok (.aload_n 0, 1) := by decide +kernel
theorem dX10_why_148 : decode cX10_why 148 = .ok (.iload_n 2, 1) := by decide +kernel
theorem dX10_why_149 : decode cX10_why 149 = .ok (.lload 9, 2) := by decide +kernel
theorem dX10_why_151 : decode cX10_why 151 = .ok (.l2i, 1) := by decide +kernel
theorem dX10_why_152 : decode cX10_why 152 = .ok (.iload 5, 2) := by decide +kernel
theorem dX10_why_154 : decode cX10_why 154 = .ok (.i2l, 1) := by decide +kernel
theorem dX10_why_155 : decode cX10_why 155 = .ok (.lload 11, 2) := by decide +kernel
theorem dX10_why_157 : decode cX10_why 157 = .ok (.aload_n 0, 1) := by decide +kernel
theorem dX10_why_158 : decode cX10_why 158 = .ok (.getfield 134, 3) := by decide +kernel
theorem dX10_why_161 : decode cX10_why 161 = .ok (.iload_n 1, 1) := by decide +kernel
theorem dX10_why_162 : decode cX10_why 162 = .ok (.iaload, 1) := by decide +kernel
theorem dX10_why_163 : decode cX10_why 163 = .ok (.aload_n 0, 1) := by decide +kernel
theorem dX10_why_164 : decode cX10_why 164 = .ok (.getfield 137, 3) := by decide +kernel
theorem dX10_why_167 : decode cX10_why 167 = .ok (.iload_n 1, 1) := by decide +kernel
theorem dX10_why_168 : decode cX10_why 168 = .ok (.iaload, 1) := by decide +kernel
theorem dX10_why_169 : decode cX10_why 169 = .ok (.invokevirtual 201, 3) := by decide +kernel
theorem dX10_why_172 : decode cX10_why 172 = .ok (.ifCond .ne 5, 3) := by decide +kernel
theorem dX10_why_175 : decode cX10_why 175 = .ok (.iconst 2, 1) := by decide +kernel
theorem dX10_why_176 : decode cX10_why 176 = .ok (.ireturn, 1) := by decide +kernel
theorem dX10_why_177 : decode cX10_why 177 = .ok (.aload_n 0, 1) := by decide +kernel
theorem dX10_why_178 : decode cX10_why 178 = .ok (.iload_n 2, 1) := by decide +kernel
theorem dX10_why_179 : decode cX10_why 179 = .ok (.lload 9, 2) := by decide +kernel
theorem dX10_why_181 : decode cX10_why 181 = .ok (.l2i, 1) := by decide +kernel
theorem dX10_why_182 : decode cX10_why 182 = .ok (.iload 5, 2) := by decide +kernel
theorem dX10_why_184 : decode cX10_why 184 = .ok (.lload 11, 2) := by decide +kernel
theorem dX10_why_186 : decode cX10_why 186 = .ok (.l2i, 1) := by decide +kernel
theorem dX10_why_187 : decode cX10_why 187 = .ok (.aload_n 0, 1) := by decide +kernel
theorem dX10_why_188 : decode cX10_why 188 = .ok (.getfield 134, 3) := by decide +kernel
theorem dX10_why_191 : decode cX10_why 191 = .ok (.iload_n 1, 1) := by decide +kernel
theorem dX10_why_192 : decode cX10_why 192 = .ok (.iaload, 1) := by decide +kernel
theorem dX10_why_193 : decode cX10_why 193 = .ok (.aload_n 0, 1) := by decide +kernel
theorem dX10_why_194 : decode cX10_why 194 = .ok (.getfield 137, 3) := by decide +kernel
theorem dX10_why_197 : decode cX10_why 197 = .ok (.iload_n 1, 1) := by decide +kernel
theorem dX10_why_198 : decode cX10_why 198 = .ok (.iaload, 1) := by decide +kernel
theorem dX10_why_199 : decode cX10_why 199 = .ok (.invokevirtual 205, 3) := by decide +kernel
theorem dX10_why_202 : decode cX10_why 202 = .ok (.iconst (-1), 1) := by decide +kernel
theorem dX10_why_203 : decode cX10_why 203 = .ok (.if_icmp .eq 5, 3) := by decide +kernel
theorem dX10_why_206 : decode cX10_why 206 = .ok (.iconst 3, 1) := by decide +kernel
theorem dX10_why_207 : decode cX10_why 207 = .ok (.ireturn, 1) := by decide +kernel
theorem dX10_why_208 : decode cX10_why 208 = .ok (.aload_n 0, 1) := by decide +kernel
theorem dX10_why_209 : decode cX10_why 209 = .ok (.iload_n 2, 1) := by decide +kernel
theorem dX10_why_210 : decode cX10_why 210 = .ok (.lload 9, 2) := by decide +kernel
theorem dX10_why_212 : decode cX10_why 212 = .ok (.l2i, 1) := by decide +kernel
theorem dX10_why_213 : decode cX10_why 213 = .ok (.iload 5, 2) := by decide +kernel
theorem dX10_why_215 : decode cX10_why 215 = .ok (.lload 11, 2) := by decide +kernel
theorem dX10_why_217 : decode cX10_why 217 = .ok (.l2i, 1) := by decide +kernel
theorem dX10_why_218 : decode cX10_why 218 = .ok (.aload_n 0, 1) := by decide +kernel
theorem dX10_why_219 : decode cX10_why 219 = .ok (.getfield 134, 3) := by decide +kernel
theorem dX10_why_222 : decode cX10_why 222 = .ok (.iload_n 1, 1) := by decide +kernel
theorem dX10_why_223 : decode cX10_why 223 = .ok (.iaload, 1) := by decide +kernel
theorem dX10_why_224 : decode cX10_why 224 = .ok (.aload_n 0, 1) := by decide +kernel
theorem dX10_why_225 : decode cX10_why 225 = .ok (.getfield 137, 3) := by decide +kernel
theorem dX10_why_228 : decode cX10_why 228 = .ok (.iload_n 1, 1) := by decide +kernel
theorem dX10_why_229 : decode cX10_why 229 = .ok (.iaload, 1) := by decide +kernel
theorem dX10_why_230 : decode cX10_why 230 = .ok (.invokevirtual 298, 3) := by decide +kernel
theorem dX10_why_233 : decode cX10_why 233 = .ok (.ifCond .eq 5, 3) := by decide +kernel
theorem dX10_why_236 : decode cX10_why 236 = .ok (.iconst 4, 1) := by decide +kernel
theorem dX10_why_237 : decode cX10_why 237 = .ok (.ireturn, 1) := by decide +kernel
theorem dX10_why_238 : decode cX10_why 238 = .ok (.iinc 7 1, 3) := by decide +kernel
theorem dX10_why_241 : decode cX10_why 241 = .ok (.goto (-182), 3) := by decide +kernel
theorem dX10_why_244 : decode cX10_why 244 = .ok (.iinc 6 1, 3) := by decide +kernel
theorem dX10_why_247 : decode cX10_why 247 = .ok (.goto (-202), 3) := by decide +kernel
theorem dX10_why_250 : decode cX10_why 250 = .ok (.aload_n 0, 1) := by decide +kernel
theorem dX10_why_251 : decode cX10_why 251 = .ok (.iload_n 1, 1) := by decide +kernel
theorem dX10_why_252 : decode cX10_why 252 = .ok (.iload_n 2, 1) := by decide +kernel
theorem dX10_why_253 : decode cX10_why 253 = .ok (.iload_n 3, 1) := by decide +kernel
theorem dX10_why_254 : decode cX10_why 254 = .ok (.invokevirtual 301, 3) := by decide +kernel
theorem dX10_why_257 : decode cX10_why 257 = .ok (.ifCond .eq 7, 3) := by decide +kernel
theorem dX10_why_260 : decode cX10_why 260 = .ok (.iconst 0, 1) := by decide +kernel
theorem dX10_why_261 : decode cX10_why 261 = .ok (.goto 4, 3) := by decide +kernel
theorem dX10_why_264 : decode cX10_why 264 = .ok (.iconst 5, 1) := by decide +kernel
theorem dX10_why_265 : decode cX10_why 265 = .ok (.ireturn, 1) := by decide +kernel
theorem dX10_hasLeaves_0 : decode cX10_hasLeaves 0 = .ok (.iconst 0, 1) := by decide +kernel
theorem dX10_hasLeaves_1 : decode cX10_hasLeaves 1 = .ok (.istore 4, 2) := by decide +kernel
theorem dX10_hasLeaves_3 : decode cX10_hasLeaves 3 = .ok (.iload 4, 2) := by decide +kernel
theorem dX10_hasLeaves_5 : decode cX10_hasLeaves 5 = .ok (.bipush 10, 2) := by decide +kernel
theorem dX10_hasLeaves_7 : decode cX10_hasLeaves 7 = .ok (.if_icmp .ge 34, 3) := by decide +kernel
theorem dX10_hasLeaves_10 : decode cX10_hasLeaves 10 = .ok (.aload_n 0, 1) := by decide +kernel
theorem dX10_hasLeaves_11 : decode cX10_hasLeaves 11 = .ok (.getfield 155, 3) := by decide +kernel
theorem dX10_hasLeaves_14 : decode cX10_hasLeaves 14 = .ok (.iload 4, 2) := by decide +kernel
theorem dX10_hasLeaves_16 : decode cX10_hasLeaves 16 = .ok (.iaload, 1) := by decide +kernel
theorem dX10_hasLeaves_17 : decode cX10_hasLeaves 17 = .ok (.ifCond .le 18, 3) := by decide +kernel
theorem dX10_hasLeaves_20 : decode cX10_hasLeaves 20 = .ok (.iload_n 3, 1) := by decide +kernel
theorem dX10_hasLeaves_21 : decode cX10_hasLeaves 21 = .ok (.iload 4, 2) := by decide +kernel
theorem dX10_hasLeaves_23 : decode cX10_hasLeaves 23 = .ok (.iadd, 1) := by decide +kernel
theorem dX10_hasLeaves_24 : decode cX10_hasLeaves 24 = .ok (.aload_n 0, 1) := by decide +kernel
theorem dX10_hasLeaves_25 : decode cX10_hasLeaves 25 = .ok (.getfield 7, 3) := by decide +kernel
theorem dX10_hasLeaves_28 : decode cX10_hasLeaves 28 = .ok (.iload_n 2, 1) := by decide +kernel
theorem dX10_hasLeaves_29 : decode cX10_hasLeaves 29 = .ok (.iaload, 1) := by decide +kernel
theorem dX10_hasLeaves_30 : decode cX10_hasLeaves 30 = .ok (.if_icmp .lt 5, 3) := by decide +kernel
theorem dX10_hasLeaves_33 : decode cX10_hasLeaves 33 = .ok (.iconst 0, 1) := by decide +kernel
theorem dX10_hasLeaves_34 : decode cX10_hasLeaves 34 = .ok (.ireturn, 1) := by decide +kernel
theorem dX10_hasLeaves_35 : decode cX10_hasLeaves 35 = .ok (.iinc 4 1, 3) := by decide +kernel
theorem dX10_hasLeaves_38 : decode cX10_hasLeaves 38 = .ok (.goto (-35), 3) := by decide +kernel
theorem dX10_hasLeaves_41 : decode cX10_hasLeaves 41 = .ok (.aload_n 0, 1) := by decide +kernel
theorem dX10_hasLeaves_42 : decode cX10_hasLeaves 42 = .ok (.iload_n 1, 1) := by decide +kernel
theorem dX10_hasLeaves_43 : decode cX10_hasLeaves 43 = .ok (.iload_n 2, 1) := by decide +kernel
theorem dX10_hasLeaves_44 : decode cX10_hasLeaves 44 = .ok (.iload_n 3, 1) := by decide +kernel
theorem dX10_hasLeaves_45 : decode cX10_hasLeaves 45 = .ok (.invokevirtual 301, 3) := by decide +kernel
theorem dX10_hasLeaves_48 : decode cX10_hasLeaves 48 = .ok (.ireturn, 1) := by decide +kernel
theorem dX10_places_0 : decode cX10_places 0 = .ok (.aload_n 0, 1) := by decide +kernel
theorem dX10_places_1 : decode cX10_places 1 = .ok (.iload_n 1, 1) := by decide +kernel
theorem dX10_places_2 : decode cX10_places 2 = .ok (.invokevirtual 304, 3) := by decide +kernel
theorem dX10_places_5 : decode cX10_places 5 = .ok (.iconst 0, 1) := by decide +kernel
theorem dX10_places_6 : decode cX10_places 6 = .ok (.istore_n 3, 1) := by decide +kernel
theorem dX10_places_7 : decode cX10_places 7 = .ok (.iload_n 3, 1) := by decide +kernel
theorem dX10_places_8 : decode cX10_places 8 = .ok (.aload_n 0, 1) := by decide +kernel
theorem dX10_places_9 : decode cX10_places 9 = .ok (.getfield 7, 3) := by decide +kernel
theorem dX10_places_12 : decode cX10_places 12 = .ok (.iload_n 2, 1) := by decide +kernel
theorem dX10_places_13 : decode cX10_places 13 = .ok (.iaload, 1) := by decide +kernel
theorem dX10_places_14 : decode cX10_places 14 = .ok (.if_icmp .ge 94, 3) := by decide +kernel
theorem dX10_places_17 : decode cX10_places 17 = .ok (.aload_n 0, 1) := by decide +kernel
theorem dX10_places_18 : decode cX10_places 18 = .ok (.iload_n 1, 1) := by decide +kernel
theorem dX10_places_19 : decode cX10_places 19 = .ok (.iload_n 2, 1) := by decide +kernel
theorem dX10_places_20 : decode cX10_places 20 = .ok (.iload_n 3, 1) := by decide +kernel
theorem dX10_places_21 : decode cX10_places 21 = .ok (.invokevirtual 308, 3) := by decide +kernel
theorem dX10_places_24 : decode cX10_places 24 = .ok (.ifCond .ne 6, 3) := by decide +kernel
theorem dX10_places_27 : decode cX10_places 27 = .ok (.goto 75, 3) := by decide +kernel
theorem dX10_places_30 : decode cX10_places 30 = .ok (.iconst 0, 1) := by decide +kernel
theorem dX10_places_31 : decode cX10_places 31 = .ok (.istore 4, 2) := by decide +kernel
theorem dX10_places_33 : decode cX10_places 33 = .ok (.iload 4, 2) := by decide +kernel
theorem dX10_places_35 : decode cX10_places 35 = .ok (.aload_n 0, 1) := by decide +kernel
theorem dX10_places_36 : decode cX10_places 36 = .ok (.getfield 13, 3) := by decide +kernel
theorem dX10_places_39 : decode cX10_places 39 = .ok (.iload_n 2, 1) := by decide +kernel
theorem dX10_places_40 : decode cX10_places 40 = .ok (.iaload, 1) := by decide +kernel
theorem dX10_places_41 : decode cX10_places 41 = .ok (.if_icmp .ge 61, 3) := by decide +kernel
theorem dX10_places_44 : decode cX10_places 44 = .ok (.iconst 0, 1) := by decide +kernel
theorem dX10_places_45 : decode cX10_places 45 = .ok (.istore 5, 2) := by decide +kernel
theorem dX10_places_47 : decode cX10_places 47 = .ok (.iload 5, 2) := by decide +kernel
theorem dX10_places_49 : decode cX10_places 49 = .ok (.bipush 64, 2) := by decide +kernel
theorem dX10_places_51 : decode cX10_places 51 = .ok (.if_icmp .ge 45, 3) := by decide +kernel
theorem dX10_places_54 : decode cX10_places 54 = .ok (.aload_n 0, 1) := by decide +kernel
theorem dX10_places_55 : decode cX10_places 55 = .ok (.iload_n 1, 1) := by decide +kernel
theorem dX10_places_56 : decode cX10_places 56 = .ok (.iload_n 2, 1) := by decide +kernel
theorem dX10_places_57 : decode cX10_places 57 = .ok (.iload_n 3, 1) := by decide +kernel
theorem dX10_places_58 : decode cX10_places 58 = .ok (.iload 4, 2) := by decide +kernel
theorem dX10_places_60 : decode cX10_places 60 = .ok (.iload 5, 2) := by decide +kernel
theorem dX10_places_62 : decode cX10_places 62 = .ok (.invokevirtual 311, 3) := by decide +kernel
theorem dX10_places_65 : decode cX10_places 65 = .ok (.ifCond .ne 6, 3) := by decide +kernel
theorem dX10_places_68 : decode cX10_places 68 = .ok (.goto 22, 3) := by decide +kernel
theorem dX10_places_71 : decode cX10_places 71 = .ok (.aload_n 0, 1) := by decide +kernel
theorem dX10_places_72 : decode cX10_places 72 = .ok (.iload_n 3, 1) := by decide +kernel
theorem dX10_places_73 : decode cX10_places 73 = .ok (.putfield 315, 3) := by decide +kernel
theorem dX10_places_76 : decode cX10_places 76 = .ok (.aload_n 0, 1) := by decide +kernel
theorem dX10_places_77 : decode cX10_places 77 = .ok (.iload 4, 2) := by decide +kernel
theorem dX10_places_79 : decode cX10_places 79 = .ok (.putfield 318, 3) := by decide +kernel
theorem dX10_places_82 : decode cX10_places 82 = .ok (.aload_n 0, 1) := by decide +kernel
theorem dX10_places_83 : decode cX10_places 83 = .ok (.iload 5, 2) := by decide +kernel
theorem dX10_places_85 : decode cX10_places 85 = .ok (.putfield 321, 3) := by decide +kernel
theorem dX10_places_88 : decode cX10_places 88 = .ok (.iconst 1, 1) := by decide +kernel
theorem dX10_places_89 : decode cX10_places 89 = .ok (.ireturn, 1) := by decide +kernel
theorem dX10_places_90 : decode cX10_places 90 = .ok (.iinc 5 1, 3) := by decide +kernel
theorem dX10_places_93 : decode cX10_places 93 = .ok (.goto (-46), 3) := by decide +kernel
theorem dX10_places_96 : decode cX10_places 96 = .ok (.iinc 4 1, 3) := by decide +kernel
theorem dX10_places_99 : decode cX10_places 99 = .ok (.goto (-66), 3) := by decide +kernel
theorem dX10_places_102 : decode cX10_places 102 = .ok (.iinc 3 1, 3) := by decide +kernel
theorem dX10_places_105 : decode cX10_places 105 = .ok (.goto (-98), 3) := by decide +kernel
theorem dX10_places_108 : decode cX10_places 108 = .ok (.iconst 0, 1) := by decide +kernel
theorem dX10_places_109 : decode cX10_places 109 = .ok (.ireturn, 1) := by decide +kernel
theorem dX10_place_0 : decode cX10_place 0 = .ok (.aload_n 0, 1) := by decide +kernel
theorem dX10_place_1 : decode cX10_place 1 = .ok (.iload_n 1, 1) := by decide +kernel
theorem dX10_place_2 : decode cX10_place 2 = .ok (.invokevirtual 276, 3) := by decide +kernel
theorem dX10_place_5 : decode cX10_place 5 = .ok (.ifCond .eq 29, 3) := by decide +kernel
theorem dX10_place_8 : decode cX10_place 8 = .ok (.aload_n 0, 1) := by decide +kernel
theorem dX10_place_9 : decode cX10_place 9 = .ok (.iload_n 2, 1) := by decide +kernel
theorem dX10_place_10 : decode cX10_place 10 = .ok (.invokevirtual 167, 3) := by decide +kernel
theorem dX10_place_13 : decode cX10_place 13 = .ok (.ifCond .eq 21, 3) := by decide +kernel
theorem dX10_place_16 : decode cX10_place 16 = .ok (.iload_n 3, 1) := by decide +kernel
theorem dX10_place_17 : decode cX10_place 17 = .ok (.ifCond .lt 17, 3) := by decide +kernel
theorem dX10_place_20 : decode cX10_place 20 = .ok (.iload_n 3, 1) := by decide +kernel
theorem dX10_place_21 : decode cX10_place 21 = .ok (.iconst 2, 1) := by decide +kernel
theorem dX10_place_22 : decode cX10_place 22 = .ok (.if_icmp .gt 12, 3) := by decide +kernel
theorem dX10_place_25 : decode cX10_place 25 = .ok (.aload_n 0, 1) := by decide +kernel
theorem dX10_place_26 : decode cX10_place 26 = .ok (.iload_n 1, 1) := by decide +kernel
theorem dX10_place_27 : decode cX10_place 27 = .ok (.iload_n 2, 1) := by decide +kernel
theorem dX10_place_28 : decode cX10_place 28 = .ok (.invokevirtual 324, 3) := by decide +kernel
theorem dX10_place_31 : decode cX10_place 31 = .ok (.ifCond .ne 5, 3) := by decide +kernel
theorem dX10_place_34 : decode cX10_place 34 = .ok (.iconst (-1), 1) := by decide +kernel
theorem dX10_place_35 : decode cX10_place 35 = .ok (.ireturn, 1) := by decide +kernel
theorem dX10_place_36 : decode cX10_place 36 = .ok (.iload_n 3, 1) := by decide +kernel
theorem dX10_place_37 : decode cX10_place 37 = .ok (.ifCond .ne 10, 3) := by decide +kernel
theorem dX10_place_40 : decode cX10_place 40 = .ok (.aload_n 0, 1) := by decide +kernel
theorem dX10_place_41 : decode cX10_place 41 = .ok (.getfield 315, 3) := by decide +kernel
theorem dX10_place_44 : decode cX10_place 44 = .ok (.goto 19, 3) := by decide +kernel
theorem dX10_place_47 : decode cX10_place 47 = .ok (.iload_n 3, 1) := by decide +kernel
theorem dX10_place_48 : decode cX10_place 48 = .ok (.iconst 1, 1) := by decide +kernel
theorem dX10_place_49 : decode cX10_place 49 = .ok (.if_icmp .ne 10, 3) := by decide +kernel
theorem dX10_place_52 : decode cX10_place 52 = .ok (.aload_n 0, 1) := by decide +kernel
theorem dX10_place_53 : decode cX10_place 53 = .ok (.getfield 318, 3) := by decide +kernel
theorem dX10_place_56 : decode cX10_place 56 = .ok (.goto 7, 3) := by decide +kernel
theorem dX10_place_59 : decode cX10_place 59 = .ok (.aload_n 0, 1) := by decide +kernel
theorem dX10_place_60 : decode cX10_place 60 = .ok (.getfield 321, 3) := by decide +kernel
theorem dX10_place_63 : decode cX10_place 63 = .ok (.ireturn, 1) := by decide +kernel
theorem dX10_cuts_0 : decode cX10_cuts 0 = .ok (.iconst 0, 1) := by decide +kernel
theorem dX10_cuts_1 : decode cX10_cuts 1 = .ok (.istore_n 3, 1) := by decide +kernel
theorem dX10_cuts_2 : decode cX10_cuts 2 = .ok (.iload_n 3, 1) := by decide +kernel
theorem dX10_cuts_3 : decode cX10_cuts 3 = .ok (.bipush 10, 2) := by decide +kernel
theorem dX10_cuts_5 : decode cX10_cuts 5 = .ok (.if_icmp .ge 144, 3) := by decide +kernel
theorem dX10_cuts_8 : decode cX10_cuts 8 = .ok (.aload_n 0, 1) := by decide +kernel
theorem dX10_cuts_9 : decode cX10_cuts 9 = .ok (.getfield 155, 3) := by decide +kernel
theorem dX10_cuts_12 : decode cX10_cuts 12 = .ok (.iload_n 3, 1) := by decide +kernel
theorem dX10_cuts_13 : decode cX10_cuts 13 = .ok (.iaload, 1) := by decide +kernel
theorem dX10_cuts_14 : decode cX10_cuts 14 = .ok (.ifCond .ne 6, 3) := by decide +kernel
theorem dX10_cuts_17 : decode cX10_cuts 17 = .ok (.goto 126, 3) := by decide +kernel
theorem dX10_cuts_20 : decode cX10_cuts 20 = .ok (.aload_n 0, 1) := by decide +kernel
theorem dX10_cuts_21 : decode cX10_cuts 21 = .ok (.getfield 55, 3) := by decide +kernel
theorem dX10_cuts_24 : decode cX10_cuts 24 = .ok (.aload_n 0, 1) := by decide +kernel
theorem dX10_cuts_25 : decode cX10_cuts 25 = .ok (.getfield 171, 3) := by decide +kernel
theorem dX10_cuts_28 : decode cX10_cuts 28 = .ok (.iload_n 2, 1) := by decide +kernel
theorem dX10_cuts_29 : decode cX10_cuts 29 = .ok (.iastore, 1) := by decide +kernel
theorem dX10_cuts_30 : decode cX10_cuts 30 = .ok (.aload_n 0, 1) := by decide +kernel
theorem dX10_cuts_31 : decode cX10_cuts 31 = .ok (.getfield 58, 3) := by decide +kernel
theorem dX10_cuts_34 : decode cX10_cuts 34 = .ok (.aload_n 0, 1) := by decide +kernel
theorem dX10_cuts_35 : decode cX10_cuts 35 = .ok (.getfield 171, 3) := by decide +kernel
theorem dX10_cuts_38 : decode cX10_cuts 38 = .ok (.aload_n 0, 1) := by decide +kernel
theorem dX10_cuts_39 : decode cX10_cuts 39 = .ok (.getfield 315, 3) := by decide +kernel
theorem dX10_cuts_42 : decode cX10_cuts 42 = .ok (.iload_n 3, 1) := by decide +kernel
theorem dX10_cuts_43 : decode cX10_cuts 43 = .ok (.iadd, 1) := by decide +kernel
theorem dX10_cuts_44 : decode cX10_cuts 44 = .ok (.iastore, 1) := by decide +kernel
theorem dX10_cuts_45 : decode cX10_cuts 45 = .ok (.aload_n 0, 1) := by decide +kernel
theorem dX10_cuts_46 : decode cX10_cuts 46 = .ok (.getfield 61, 3) := by decide +kernel
theorem dX10_cuts_49 : decode cX10_cuts 49 = .ok (.aload_n 0, 1) := by decide +kernel
theorem dX10_cuts_50 : decode cX10_cuts 50 = .ok (.getfield 171, 3) := by decide +kernel
theorem dX10_cuts_53 : decode cX10_cuts 53 = .ok (.aload_n 0, 1) := by decide +kernel
theorem dX10_cuts_54 : decode cX10_cuts 54 = .ok (.getfield 321, 3) := by decide +kernel
theorem dX10_cuts_57 : decode cX10_cuts 57 = .ok (.iastore, 1) := by decide +kernel
theorem dX10_cuts_58 : decode cX10_cuts 58 = .ok (.aload_n 0, 1) := by decide +kernel
theorem dX10_cuts_59 : decode cX10_cuts 59 = .ok (.getfield 64, 3) := by decide +kernel
theorem dX10_cuts_62 : decode cX10_cuts 62 = .ok (.aload_n 0, 1) := by decide +kernel
theorem dX10_cuts_63 : decode cX10_cuts 63 = .ok (.getfield 171, 3) := by decide +kernel
theorem dX10_cuts_66 : decode cX10_cuts 66 = .ok (.aload_n 0, 1) := by decide +kernel
theorem dX10_cuts_67 : decode cX10_cuts 67 = .ok (.getfield 318, 3) := by decide +kernel
theorem dX10_cuts_70 : decode cX10_cuts 70 = .ok (.iastore, 1) := by decide +kernel
theorem dX10_cuts_71 : decode cX10_cuts 71 = .ok (.aload_n 0, 1) := by decide +kernel
theorem dX10_cuts_72 : decode cX10_cuts 72 = .ok (.getfield 67, 3) := by decide +kernel
theorem dX10_cuts_75 : decode cX10_cuts 75 = .ok (.aload_n 0, 1) := by decide +kernel
theorem dX10_cuts_76 : decode cX10_cuts 76 = .ok (.getfield 171, 3) := by decide +kernel
theorem dX10_cuts_79 : decode cX10_cuts 79 = .ok (.aload_n 0, 1) := by decide +kernel
theorem dX10_cuts_80 : decode cX10_cuts 80 = .ok (.getfield 134, 3) := by decide +kernel
theorem dX10_cuts_83 : decode cX10_cuts 83 = .ok (.iload_n 1, 1) := by decide +kernel
theorem dX10_cuts_84 : decode cX10_cuts 84 = .ok (.iaload, 1) := by decide +kernel
theorem dX10_cuts_85 : decode cX10_cuts 85 = .ok (.iastore, 1) := by decide +kernel
theorem dX10_cuts_86 : decode cX10_cuts 86 = .ok (.aload_n 0, 1) := by decide +kernel
theorem dX10_cuts_87 : decode cX10_cuts 87 = .ok (.getfield 70, 3) := by decide +kernel
theorem dX10_cuts_90 : decode cX10_cuts 90 = .ok (.aload_n 0, 1) := by decide +kernel
theorem dX10_cuts_91 : decode cX10_cuts 91 = .ok (.getfield 171, 3) := by decide +kernel
theorem dX10_cuts_94 : decode cX10_cuts 94 = .ok (.aload_n 0, 1) := by decide +kernel
theorem dX10_cuts_95 : decode cX10_cuts 95 = .ok (.getfield 155, 3) := by decide +kernel
theorem dX10_cuts_98 : decode cX10_cuts 98 = .ok (.iload_n 3, 1) := by decide +kernel
theorem dX10_cuts_99 : decode cX10_cuts 99 = .ok (.iaload, 1) := by decide +kernel
theorem dX10_cuts_100 : decode cX10_cuts 100 = .ok (.aload_n 0, 1) := by decide +kernel
theorem dX10_cuts_101 : decode cX10_cuts 101 = .ok (.getfield 137, 3) := by decide +kernel
theorem dX10_cuts_104 : decode cX10_cuts 104 = .ok (.iload_n 1, 1) := by decide +kernel
theorem dX10_cuts_105 : decode cX10_cuts 105 = .ok (.iaload, 1) := by decide +kernel
theorem dX10_cuts_106 : decode cX10_cuts 106 = .ok (.imul, 1) := by decide +kernel
theorem dX10_cuts_107 : decode cX10_cuts 107 = .ok (.iastore, 1) := by decide +kernel
theorem dX10_cuts_108 : decode cX10_cuts 108 = .ok (.aload_n 0, 1) := by decide +kernel
theorem dX10_cuts_109 : decode cX10_cuts 109 = .ok (.getfield 73, 3) := by decide +kernel
theorem dX10_cuts_112 : decode cX10_cuts 112 = .ok (.aload_n 0, 1) := by decide +kernel
theorem dX10_cuts_113 : decode cX10_cuts 113 = .ok (.getfield 171, 3) := by decide +kernel
theorem dX10_cuts_116 : decode cX10_cuts 116 = .ok (.aload_n 0, 1) := by decide +kernel
theorem dX10_cuts_117 : decode cX10_cuts 117 = .ok (.getfield 155, 3) := by decide +kernel
theorem dX10_cuts_120 : decode cX10_cuts 120 = .ok (.iload_n 3, 1) := by decide +kernel
theorem dX10_cuts_121 : decode cX10_cuts 121 = .ok (.iaload, 1) := by decide +kernel
theorem dX10_cuts_122 : decode cX10_cuts 122 = .ok (.iastore, 1) := by decide +kernel
theorem dX10_cuts_123 : decode cX10_cuts 123 = .ok (.aload_n 0, 1) := by decide +kernel
theorem dX10_cuts_124 : decode cX10_cuts 124 = .ok (.getfield 76, 3) := by decide +kernel
theorem dX10_cuts_127 : decode cX10_cuts 127 = .ok (.aload_n 0, 1) := by decide +kernel
theorem dX10_cuts_128 : decode cX10_cuts 128 = .ok (.getfield 171, 3) := by decide +kernel
theorem dX10_cuts_131 : decode cX10_cuts 131 = .ok (.iload_n 1, 1) := by decide +kernel
theorem dX10_cuts_132 : decode cX10_cuts 132 = .ok (.iastore, 1) := by decide +kernel
theorem dX10_cuts_133 : decode cX10_cuts 133 = .ok (.aload_n 0, 1) := by decide +kernel
theorem dX10_cuts_134 : decode cX10_cuts 134 = .ok (.dup, 1) := by decide +kernel
theorem dX10_cuts_135 : decode cX10_cuts 135 = .ok (.getfield 171, 3) := by decide +kernel
theorem dX10_cuts_138 : decode cX10_cuts 138 = .ok (.iconst 1, 1) := by decide +kernel
theorem dX10_cuts_139 : decode cX10_cuts 139 = .ok (.iadd, 1) := by decide +kernel
theorem dX10_cuts_140 : decode cX10_cuts 140 = .ok (.putfield 171, 3) := by decide +kernel
theorem dX10_cuts_143 : decode cX10_cuts 143 = .ok (.iinc 3 1, 3) := by decide +kernel
theorem dX10_cuts_146 : decode cX10_cuts 146 = .ok (.goto (-144), 3) := by decide +kernel
theorem dX10_cuts_149 : decode cX10_cuts 149 = .ok (.return_, 1) := by decide +kernel
theorem dX10_make_0 : decode cX10_make 0 = .ok (.aload_n 0, 1) := by decide +kernel
theorem dX10_make_1 : decode cX10_make 1 = .ok (.iload_n 1, 1) := by decide +kernel
theorem dX10_make_2 : decode cX10_make 2 = .ok (.invokevirtual 276, 3) := by decide +kernel
theorem dX10_make_5 : decode cX10_make 5 = .ok (.ifCond .eq 30, 3) := by decide +kernel
theorem dX10_make_8 : decode cX10_make 8 = .ok (.aload_n 0, 1) := by decide +kernel
theorem dX10_make_9 : decode cX10_make 9 = .ok (.iload_n 2, 1) := by decide +kernel
theorem dX10_make_10 : decode cX10_make 10 = .ok (.invokevirtual 167, 3) := by decide +kernel
theorem dX10_make_13 : decode cX10_make 13 = .ok (.ifCond .eq 22, 3) := by decide +kernel
theorem dX10_make_16 : decode cX10_make 16 = .ok (.aload_n 0, 1) := by decide +kernel
theorem dX10_make_17 : decode cX10_make 17 = .ok (.getfield 143, 3) := by decide +kernel
theorem dX10_make_20 : decode cX10_make 20 = .ok (.iload_n 1, 1) := by decide +kernel
theorem dX10_make_21 : decode cX10_make 21 = .ok (.iaload, 1) := by decide +kernel
theorem dX10_make_22 : decode cX10_make 22 = .ok (.iconst (-1), 1) := by decide +kernel
theorem dX10_make_23 : decode cX10_make 23 = .ok (.if_icmp .ne 12, 3) := by decide +kernel
theorem dX10_make_26 : decode cX10_make 26 = .ok (.aload_n 0, 1) := by decide +kernel
theorem dX10_make_27 : decode cX10_make 27 = .ok (.iload_n 1, 1) := by decide +kernel
theorem dX10_make_28 : decode cX10_make 28 = .ok (.iload_n 2, 1) := by decide +kernel
theorem dX10_make_29 : decode cX10_make 29 = .ok (.invokevirtual 324, 3) := by decide +kernel
theorem dX10_make_32 : decode cX10_make 32 = .ok (.ifCond .ne 5, 3) := by decide +kernel
theorem dX10_make_35 : decode cX10_make 35 = .ok (.iconst (-1), 1) := by decide +kernel
theorem dX10_make_36 : decode cX10_make 36 = .ok (.ireturn, 1) := by decide +kernel
theorem dX10_make_37 : decode cX10_make 37 = .ok (.aload_n 0, 1) := by decide +kernel
theorem dX10_make_38 : decode cX10_make 38 = .ok (.iload_n 1, 1) := by decide +kernel
theorem dX10_make_39 : decode cX10_make 39 = .ok (.iload_n 2, 1) := by decide +kernel
theorem dX10_make_40 : decode cX10_make 40 = .ok (.invokevirtual 327, 3) := by decide +kernel
theorem dX10_make_43 : decode cX10_make 43 = .ok (.aload_n 0, 1) := by decide +kernel
theorem dX10_make_44 : decode cX10_make 44 = .ok (.getfield 143, 3) := by decide +kernel
theorem dX10_make_47 : decode cX10_make 47 = .ok (.iload_n 1, 1) := by decide +kernel
theorem dX10_make_48 : decode cX10_make 48 = .ok (.iload_n 2, 1) := by decide +kernel
theorem dX10_make_49 : decode cX10_make 49 = .ok (.iastore, 1) := by decide +kernel
theorem dX10_make_50 : decode cX10_make 50 = .ok (.aload_n 0, 1) := by decide +kernel
theorem dX10_make_51 : decode cX10_make 51 = .ok (.getfield 146, 3) := by decide +kernel
theorem dX10_make_54 : decode cX10_make 54 = .ok (.iload_n 1, 1) := by decide +kernel
theorem dX10_make_55 : decode cX10_make 55 = .ok (.aload_n 0, 1) := by decide +kernel
theorem dX10_make_56 : decode cX10_make 56 = .ok (.getfield 315, 3) := by decide +kernel
theorem dX10_make_59 : decode cX10_make 59 = .ok (.iastore, 1) := by decide +kernel
theorem dX10_make_60 : decode cX10_make 60 = .ok (.aload_n 0, 1) := by decide +kernel
theorem dX10_make_61 : decode cX10_make 61 = .ok (.getfield 149, 3) := by decide +kernel
theorem dX10_make_64 : decode cX10_make 64 = .ok (.iload_n 1, 1) := by decide +kernel
theorem dX10_make_65 : decode cX10_make 65 = .ok (.aload_n 0, 1) := by decide +kernel
theorem dX10_make_66 : decode cX10_make 66 = .ok (.getfield 318, 3) := by decide +kernel
theorem dX10_make_69 : decode cX10_make 69 = .ok (.iastore, 1) := by decide +kernel
theorem dX10_make_70 : decode cX10_make 70 = .ok (.aload_n 0, 1) := by decide +kernel
theorem dX10_make_71 : decode cX10_make 71 = .ok (.getfield 152, 3) := by decide +kernel
theorem dX10_make_74 : decode cX10_make 74 = .ok (.iload_n 1, 1) := by decide +kernel
theorem dX10_make_75 : decode cX10_make 75 = .ok (.aload_n 0, 1) := by decide +kernel
theorem dX10_make_76 : decode cX10_make 76 = .ok (.getfield 321, 3) := by decide +kernel
theorem dX10_make_79 : decode cX10_make 79 = .ok (.iastore, 1) := by decide +kernel
theorem dX10_make_80 : decode cX10_make 80 = .ok (.aload_n 0, 1) := by decide +kernel
theorem dX10_make_81 : decode cX10_make 81 = .ok (.getfield 125, 3) := by decide +kernel
theorem dX10_make_84 : decode cX10_make 84 = .ok (.iload_n 1, 1) := by decide +kernel
theorem dX10_make_85 : decode cX10_make 85 = .ok (.iaload, 1) := by decide +kernel
theorem dX10_make_86 : decode cX10_make 86 = .ok (.aload_n 0, 1) := by decide +kernel
theorem dX10_make_87 : decode cX10_make 87 = .ok (.getfield 128, 3) := by decide +kernel
theorem dX10_make_90 : decode cX10_make 90 = .ok (.iload_n 1, 1) := by decide +kernel
theorem dX10_make_91 : decode cX10_make 91 = .ok (.iaload, 1) := by decide +kernel
theorem dX10_make_92 : decode cX10_make 92 = .ok (.imul, 1) := by decide +kernel
theorem dX10_make_93 : decode cX10_make 93 = .ok (.ireturn, 1) := by decide +kernel
theorem dX10_isPlaced_0 : decode cX10_isPlaced 0 = .ok (.aload_n 0, 1) := by decide +kernel
theorem dX10_isPlaced_1 : decode cX10_isPlaced 1 = .ok (.getfield 171, 3) := by decide +kernel
theorem dX10_isPlaced_4 : decode cX10_isPlaced 4 = .ok (.istore_n 2, 1) := by decide +kernel
theorem dX10_isPlaced_5 : decode cX10_isPlaced 5 = .ok (.iconst 1, 1) := by decide +kernel
theorem dX10_isPlaced_6 : decode cX10_isPlaced 6 = .ok (.istore_n 3, 1) := by decide +kernel
theorem dX10_isPlaced_7 : decode cX10_isPlaced 7 = .ok (.iconst 0, 1) := by decide +kernel
theorem dX10_isPlaced_8 : decode cX10_isPlaced 8 = .ok (.istore 4, 2) := by decide +kernel
theorem dX10_isPlaced_10 : decode cX10_isPlaced 10 = .ok (.iload 4, 2) := by decide +kernel
theorem dX10_isPlaced_12 : decode cX10_isPlaced 12 = .ok (.iload_n 1, 1) := by decide +kernel
theorem dX10_isPlaced_13 : decode cX10_isPlaced 13 = .ok (.if_icmp .ge 76, 3) := by decide +kernel
theorem dX10_isPlaced_16 : decode cX10_isPlaced 16 = .ok (.iload_n 3, 1) := by decide +kernel
theorem dX10_isPlaced_17 : decode cX10_isPlaced 17 = .ok (.ifCond .eq 72, 3) := by decide +kernel
theorem dX10_isPlaced_20 : decode cX10_isPlaced 20 = .ok (.aload_n 0, 1) := by decide +kernel
theorem dX10_isPlaced_21 : decode cX10_isPlaced 21 = .ok (.aload_n 0, 1) := by decide +kernel
theorem dX10_isPlaced_22 : decode cX10_isPlaced 22 = .ok (.getfield 164, 3) := by decide +kernel
theorem dX10_isPlaced_25 : decode cX10_isPlaced 25 = .ok (.iload 4, 2) := by decide +kernel
theorem dX10_isPlaced_27 : decode cX10_isPlaced 27 = .ok (.iaload, 1) := by decide +kernel
theorem dX10_isPlaced_28 : decode cX10_isPlaced 28 = .ok (.invokevirtual 167, 3) := by decide +kernel
theorem dX10_isPlaced_31 : decode cX10_isPlaced 31 = .ok (.ifCond .eq 28, 3) := by decide +kernel
theorem dX10_isPlaced_34 : decode cX10_isPlaced 34 = .ok (.aload_n 0, 1) := by decide +kernel
theorem dX10_isPlaced_35 : decode cX10_isPlaced 35 = .ok (.aload_n 0, 1) := by decide +kernel
theorem dX10_isPlaced_36 : decode cX10_isPlaced 36 = .ok (.getfield 161, 3) := by decide +kernel
theorem dX10_isPlaced_39 : decode cX10_isPlaced 39 = .ok (.iload 4, 2) := by decide +kernel
theorem dX10_isPlaced_41 : decode cX10_isPlaced 41 = .ok (.iaload, 1) := by decide +kernel
theorem dX10_isPlaced_42 : decode cX10_isPlaced 42 = .ok (.aload_n 0, 1) := by decide +kernel
theorem dX10_isPlaced_43 : decode cX10_isPlaced 43 = .ok (.getfield 164, 3) := by decide +kernel
theorem dX10_isPlaced_46 : decode cX10_isPlaced 46 = .ok (.iload 4, 2) := by decide +kernel
theorem dX10_isPlaced_48 : decode cX10_isPlaced 48 = .ok (.iaload, 1) := by decide +kernel
theorem dX10_isPlaced_49 : decode cX10_isPlaced 49 = .ok (.invokevirtual 324, 3) := by decide +kernel
theorem dX10_isPlaced_52 : decode cX10_isPlaced 52 = .ok (.ifCond .eq 7, 3) := by decide +kernel
theorem dX10_isPlaced_55 : decode cX10_isPlaced 55 = .ok (.iconst 1, 1) := by decide +kernel
theorem dX10_isPlaced_56 : decode cX10_isPlaced 56 = .ok (.goto 4, 3) := by decide +kernel
theorem dX10_isPlaced_59 : decode cX10_isPlaced 59 = .ok (.iconst 0, 1) := by decide +kernel
theorem dX10_isPlaced_60 : decode cX10_isPlaced 60 = .ok (.istore_n 3, 1) := by decide +kernel
theorem dX10_isPlaced_61 : decode cX10_isPlaced 61 = .ok (.iload_n 3, 1) := by decide +kernel
theorem dX10_isPlaced_62 : decode cX10_isPlaced 62 = .ok (.ifCond .eq 21, 3) := by decide +kernel
theorem dX10_isPlaced_65 : decode cX10_isPlaced 65 = .ok (.aload_n 0, 1) := by decide +kernel
theorem dX10_isPlaced_66 : decode cX10_isPlaced 66 = .ok (.aload_n 0, 1) := by decide +kernel
theorem dX10_isPlaced_67 : decode cX10_isPlaced 67 = .ok (.getfield 161, 3) := by decide +kernel
theorem dX10_isPlaced_70 : decode cX10_isPlaced 70 = .ok (.iload 4, 2) := by decide +kernel
theorem dX10_isPlaced_72 : decode cX10_isPlaced 72 = .ok (.iaload, 1) := by decide +kernel
theorem dX10_isPlaced_73 : decode cX10_isPlaced 73 = .ok (.aload_n 0, 1) := by decide +kernel
theorem dX10_isPlaced_74 : decode cX10_isPlaced 74 = .ok (.getfield 164, 3) := by decide +kernel
theorem dX10_isPlaced_77 : decode cX10_isPlaced 77 = .ok (.iload 4, 2) := by decide +kernel
theorem dX10_isPlaced_79 : decode cX10_isPlaced 79 = .ok (.iaload, 1) := by decide +kernel
theorem dX10_isPlaced_80 : decode cX10_isPlaced 80 = .ok (.invokevirtual 327, 3) := by decide +kernel
theorem dX10_isPlaced_83 : decode cX10_isPlaced 83 = .ok (.iinc 4 1, 3) := by decide +kernel
theorem dX10_isPlaced_86 : decode cX10_isPlaced 86 = .ok (.goto (-76), 3) := by decide +kernel
theorem dX10_isPlaced_89 : decode cX10_isPlaced 89 = .ok (.aload_n 0, 1) := by decide +kernel
theorem dX10_isPlaced_90 : decode cX10_isPlaced 90 = .ok (.iload_n 2, 1) := by decide +kernel
theorem dX10_isPlaced_91 : decode cX10_isPlaced 91 = .ok (.putfield 171, 3) := by decide +kernel
theorem dX10_isPlaced_94 : decode cX10_isPlaced 94 = .ok (.iload_n 3, 1) := by decide +kernel
theorem dX10_isPlaced_95 : decode cX10_isPlaced 95 = .ok (.ireturn, 1) := by decide +kernel
theorem dX10_logsOf_0 : decode cX10_logsOf 0 = .ok (.iconst 0, 1) := by decide +kernel
theorem dX10_logsOf_1 : decode cX10_logsOf 1 = .ok (.istore_n 2, 1) := by decide +kernel
theorem dX10_logsOf_2 : decode cX10_logsOf 2 = .ok (.iconst 0, 1) := by decide +kernel
theorem dX10_logsOf_3 : decode cX10_logsOf 3 = .ok (.istore_n 3, 1) := by decide +kernel
theorem dX10_logsOf_4 : decode cX10_logsOf 4 = .ok (.iload_n 3, 1) := by decide +kernel
theorem dX10_logsOf_5 : decode cX10_logsOf 5 = .ok (.iload_n 1, 1) := by decide +kernel
theorem dX10_logsOf_6 : decode cX10_logsOf 6 = .ok (.if_icmp .ge 20, 3) := by decide +kernel
theorem dX10_logsOf_9 : decode cX10_logsOf 9 = .ok (.iload_n 2, 1) := by decide +kernel
theorem dX10_logsOf_10 : decode cX10_logsOf 10 = .ok (.iconst 1, 1) := by decide +kernel
theorem dX10_logsOf_11 : decode cX10_logsOf 11 = .ok (.aload_n 0, 1) := by decide +kernel
theorem dX10_logsOf_12 : decode cX10_logsOf 12 = .ok (.getfield 164, 3) := by decide +kernel
theorem dX10_logsOf_15 : decode cX10_logsOf 15 = .ok (.iload_n 3, 1) := by decide +kernel
theorem dX10_logsOf_16 : decode cX10_logsOf 16 = .ok (.iaload, 1) := by decide +kernel
theorem dX10_logsOf_17 : decode cX10_logsOf 17 = .ok (.ishl, 1) := by decide +kernel
theorem dX10_logsOf_18 : decode cX10_logsOf 18 = .ok (.ior, 1) := by decide +kernel
theorem dX10_logsOf_19 : decode cX10_logsOf 19 = .ok (.istore_n 2, 1) := by decide +kernel
theorem dX10_logsOf_20 : decode cX10_logsOf 20 = .ok (.iinc 3 1, 3) := by decide +kernel
theorem dX10_logsOf_23 : decode cX10_logsOf 23 = .ok (.goto (-19), 3) := by decide +kernel
theorem dX10_logsOf_26 : decode cX10_logsOf 26 = .ok (.iload_n 2, 1) := by decide +kernel
theorem dX10_logsOf_27 : decode cX10_logsOf 27 = .ok (.iconst 1, 1) := by decide +kernel
theorem dX10_logsOf_28 : decode cX10_logsOf 28 = .ok (.iand, 1) := by decide +kernel
theorem dX10_logsOf_29 : decode cX10_logsOf 29 = .ok (.iload_n 2, 1) := by decide +kernel
theorem dX10_logsOf_30 : decode cX10_logsOf 30 = .ok (.iconst 1, 1) := by decide +kernel
theorem dX10_logsOf_31 : decode cX10_logsOf 31 = .ok (.ishr, 1) := by decide +kernel
theorem dX10_logsOf_32 : decode cX10_logsOf 32 = .ok (.iconst 1, 1) := by decide +kernel
theorem dX10_logsOf_33 : decode cX10_logsOf 33 = .ok (.iand, 1) := by decide +kernel
theorem dX10_logsOf_34 : decode cX10_logsOf 34 = .ok (.iadd, 1) := by decide +kernel
theorem dX10_logsOf_35 : decode cX10_logsOf 35 = .ok (.iload_n 2, 1) := by decide +kernel
theorem dX10_logsOf_36 : decode cX10_logsOf 36 = .ok (.iconst 2, 1) := by decide +kernel
theorem dX10_logsOf_37 : decode cX10_logsOf 37 = .ok (.ishr, 1) := by decide +kernel
theorem dX10_logsOf_38 : decode cX10_logsOf 38 = .ok (.iconst 1, 1) := by decide +kernel
theorem dX10_logsOf_39 : decode cX10_logsOf 39 = .ok (.iand, 1) := by decide +kernel
theorem dX10_logsOf_40 : decode cX10_logsOf 40 = .ok (.iadd, 1) := by decide +kernel
theorem dX10_logsOf_41 : decode cX10_logsOf 41 = .ok (.ireturn, 1) := by decide +kernel
theorem dX10_plan_0 : decode cX10_plan 0 = .ok (.iconst 0, 1) := by decide +kernel
theorem dX10_plan_1 : decode cX10_plan 1 = .ok (.istore_n 1, 1) := by decide +kernel
theorem dX10_plan_2 : decode cX10_plan 2 = .ok (.iconst 0, 1) := by decide +kernel
theorem dX10_plan_3 : decode cX10_plan 3 = .ok (.istore_n 2, 1) := by decide +kernel
theorem dX10_plan_4 : decode cX10_plan 4 = .ok (.iload_n 2, 1) := by decide +kernel
theorem dX10_plan_5 : decode cX10_plan 5 = .ok (.bipush 8, 2) := by decide +kernel
theorem dX10_plan_7 : decode cX10_plan 7 = .ok (.if_icmp .ge 47, 3) := by decide +kernel
theorem dX10_plan_10 : decode cX10_plan 10 = .ok (.aload_n 0, 1) := by decide +kernel
theorem dX10_plan_11 : decode cX10_plan 11 = .ok (.iload_n 2, 1) := by decide +kernel
theorem dX10_plan_12 : decode cX10_plan 12 = .ok (.invokevirtual 276, 3) := by decide +kernel
theorem dX10_plan_15 : decode cX10_plan 15 = .ok (.ifCond .eq 33, 3) := by decide +kernel
theorem dX10_plan_18 : decode cX10_plan 18 = .ok (.aload_n 0, 1) := by decide +kernel
theorem dX10_plan_19 : decode cX10_plan 19 = .ok (.getfield 143, 3) := by decide +kernel
theorem dX10_plan_22 : decode cX10_plan 22 = .ok (.iload_n 2, 1) := by decide +kernel
theorem dX10_plan_23 : decode cX10_plan 23 = .ok (.iaload, 1) := by decide +kernel
theorem dX10_plan_24 : decode cX10_plan 24 = .ok (.iconst (-1), 1) := by decide +kernel
theorem dX10_plan_25 : decode cX10_plan 25 = .ok (.if_icmp .eq 6, 3) := by decide +kernel
theorem dX10_plan_28 : decode cX10_plan 28 = .ok (.goto 20, 3) := by decide +kernel
theorem dX10_plan_31 : decode cX10_plan 31 = .ok (.iload_n 1, 1) := by decide +kernel
theorem dX10_plan_32 : decode cX10_plan 32 = .ok (.iconst 3, 1) := by decide +kernel
theorem dX10_plan_33 : decode cX10_plan 33 = .ok (.if_icmp .ne 5, 3) := by decide +kernel
theorem dX10_plan_36 : decode cX10_plan 36 = .ok (.iconst (-1), 1) := by decide +kernel
theorem dX10_plan_37 : decode cX10_plan 37 = .ok (.ireturn, 1) := by decide +kernel
theorem dX10_plan_38 : decode cX10_plan 38 = .ok (.aload_n 0, 1) := by decide +kernel
theorem dX10_plan_39 : decode cX10_plan 39 = .ok (.getfield 161, 3) := by decide +kernel
theorem dX10_plan_42 : decode cX10_plan 42 = .ok (.iload_n 1, 1) := by decide +kernel
theorem dX10_plan_43 : decode cX10_plan 43 = .ok (.iload_n 2, 1) := by decide +kernel
theorem dX10_plan_44 : decode cX10_plan 44 = .ok (.iastore, 1) := by decide +kernel
theorem dX10_plan_45 : decode cX10_plan 45 = .ok (.iinc 1 1, 3) := by decide +kernel
theorem dX10_plan_48 : decode cX10_plan 48 = .ok (.iinc 2 1, 3) := by decide +kernel
theorem dX10_plan_51 : decode cX10_plan 51 = .ok (.goto (-47), 3) := by decide +kernel
theorem dX10_plan_54 : decode cX10_plan 54 = .ok (.iload_n 1, 1) := by decide +kernel
theorem dX10_plan_55 : decode cX10_plan 55 = .ok (.ifCond .ne 5, 3) := by decide +kernel
theorem dX10_plan_58 : decode cX10_plan 58 = .ok (.iconst (-1), 1) := by decide +kernel
theorem dX10_plan_59 : decode cX10_plan 59 = .ok (.ireturn, 1) := by decide +kernel
theorem dX10_plan_60 : decode cX10_plan 60 = .ok (.iload_n 1, 1) := by decide +kernel
theorem dX10_plan_61 : decode cX10_plan 61 = .ok (.iconst 1, 1) := by decide +kernel
theorem dX10_plan_62 : decode cX10_plan 62 = .ok (.if_icmp .ne 7, 3) := by decide +kernel
theorem dX10_plan_65 : decode cX10_plan 65 = .ok (.iconst 3, 1) := by decide +kernel
theorem dX10_plan_66 : decode cX10_plan 66 = .ok (.goto 15, 3) := by decide +kernel
theorem dX10_plan_69 : decode cX10_plan 69 = .ok (.iload_n 1, 1) := by decide +kernel
theorem dX10_plan_70 : decode cX10_plan 70 = .ok (.iconst 2, 1) := by decide +kernel
theorem dX10_plan_71 : decode cX10_plan 71 = .ok (.if_icmp .ne 8, 3) := by decide +kernel
theorem dX10_plan_74 : decode cX10_plan 74 = .ok (.bipush 9, 2) := by decide +kernel
theorem dX10_plan_76 : decode cX10_plan 76 = .ok (.goto 5, 3) := by decide +kernel
theorem dX10_plan_79 : decode cX10_plan 79 = .ok (.bipush 27, 2) := by decide +kernel
theorem dX10_plan_81 : decode cX10_plan 81 = .ok (.istore_n 2, 1) := by decide +kernel
theorem dX10_plan_82 : decode cX10_plan 82 = .ok (.iconst (-1), 1) := by decide +kernel
theorem dX10_plan_83 : decode cX10_plan 83 = .ok (.istore_n 3, 1) := by decide +kernel
theorem dX10_plan_84 : decode cX10_plan 84 = .ok (.iconst (-1), 1) := by decide +kernel
theorem dX10_plan_85 : decode cX10_plan 85 = .ok (.istore 4, 2) := by decide +kernel
theorem dX10_plan_87 : decode cX10_plan 87 = .ok (.iconst 0, 1) := by decide +kernel
theorem dX10_plan_88 : decode cX10_plan 88 = .ok (.istore 5, 2) := by decide +kernel
theorem dX10_plan_90 : decode cX10_plan 90 = .ok (.iload 5, 2) := by decide +kernel
theorem dX10_plan_92 : decode cX10_plan 92 = .ok (.iload_n 2, 1) := by decide +kernel
theorem dX10_plan_93 : decode cX10_plan 93 = .ok (.if_icmp .ge 81, 3) := by decide +kernel
theorem dX10_plan_96 : decode cX10_plan 96 = .ok (.iload 5, 2) := by decide +kernel
theorem dX10_plan_98 : decode cX10_plan 98 = .ok (.istore 6, 2) := by decide +kernel
theorem dX10_plan_100 : decode cX10_plan 100 = .ok (.iload_n 1, 1) := by decide +kernel
theorem dX10_plan_101 : decode cX10_plan 101 = .ok (.iconst 1, 1) := by decide +kernel
theorem dX10_plan_102 : decode cX10_plan 102 = .ok (.isub, 1) := by decide +kernel
theorem dX10_plan_103 : decode cX10_plan 103 = .ok (.istore 7, 2) := by decide +kernel
theorem dX10_plan_105 : decode cX10_plan 105 = .ok (.iload 7, 2) := by decide +kernel
theorem dX10_plan_107 : decode cX10_plan 107 = .ok (.ifCond .lt 26, 3) := by decide +kernel
theorem dX10_plan_110 : decode cX10_plan 110 = .ok (.aload_n 0, 1) := by decide +kernel
theorem dX10_plan_111 : decode cX10_plan 111 = .ok (.getfield 164, 3) := by decide +kernel
theorem dX10_plan_114 : decode cX10_plan 114 = .ok (.iload 7, 2) := by decide +kernel
theorem dX10_plan_116 : decode cX10_plan 116 = .ok (.iload 6, 2) := by decide +kernel
theorem dX10_plan_118 : decode cX10_plan 118 = .ok (.iconst 3, 1) := by decide +kernel
theorem dX10_plan_119 : decode cX10_plan 119 = .ok (.irem, 1) := by decide +kernel
theorem dX10_plan_120 : decode cX10_plan 120 = .ok (.iastore, 1) := by decide +kernel
theorem dX10_plan_121 : decode cX10_plan 121 = .ok (.iload 6, 2) := by decide +kernel
theorem dX10_plan_123 : decode cX10_plan 123 = .ok (.iconst 3, 1) := by decide +kernel
theorem dX10_plan_124 : decode cX10_plan 124 = .ok (.idiv, 1) := by decide +kernel
theorem dX10_plan_125 : decode cX10_plan 125 = .ok (.istore 6, 2) := by decide +kernel
theorem dX10_plan_127 : decode cX10_plan 127 = .ok (.iinc 7 (-1), 3) := by decide +kernel
theorem dX10_plan_130 : decode cX10_plan 130 = .ok (.goto (-25), 3) := by decide +kernel
theorem dX10_plan_133 : decode cX10_plan 133 = .ok (.iload_n 3, 1) := by decide +kernel
theorem dX10_plan_134 : decode cX10_plan 134 = .ok (.iconst (-1), 1) := by decide +kernel
theorem dX10_plan_135 : decode cX10_plan 135 = .ok (.if_icmp .eq 12, 3) := by decide +kernel
theorem dX10_plan_138 : decode cX10_plan 138 = .ok (.aload_n 0, 1) := by decide +kernel
theorem dX10_plan_139 : decode cX10_plan 139 = .ok (.iload_n 1, 1) := by decide +kernel
theorem dX10_plan_140 : decode cX10_plan 140 = .ok (.invokevirtual 330, 3) := by decide +kernel
theorem dX10_plan_143 : decode cX10_plan 143 = .ok (.iload_n 3, 1) := by decide +kernel
theorem dX10_plan_144 : decode cX10_plan 144 = .ok (.if_icmp .ge 24, 3) := by decide +kernel
theorem dX10_plan_147 : decode cX10_plan 147 = .ok (.aload_n 0, 1) := by decide +kernel
theorem dX10_plan_148 : decode cX10_plan 148 = .ok (.iload_n 1, 1) := by decide +kernel
theorem dX10_plan_149 : decode cX10_plan 149 = .ok (.invokevirtual 333, 3) := by decide +kernel
theorem dX10_plan_152 : decode cX10_plan 152 = .ok (.ifCond .ne 6, 3) := by decide +kernel
theorem dX10_plan_155 : decode cX10_plan 155 = .ok (.goto 13, 3) := by decide +kernel
theorem dX10_plan_158 : decode cX10_plan 158 = .ok (.aload_n 0, 1) := by decide +kernel
theorem dX10_plan_159 : decode cX10_plan 159 = .ok (.iload_n 1, 1) := by decide +kernel
theorem dX10_plan_160 : decode cX10_plan 160 = .ok (.invokevirtual 330, 3) := by decide +kernel
theorem dX10_plan_163 : decode cX10_plan 163 = .ok (.istore_n 3, 1) := by decide +kernel
theorem dX10_plan_164 : decode cX10_plan 164 = .ok (.iload 5, 2) := by decide +kernel
theorem dX10_plan_166 : decode cX10_plan 166 = .ok (.istore 4, 2) := by decide +kernel
theorem dX10_plan_168 : decode cX10_plan 168 = .ok (.iinc 5 1, 3) := by decide +kernel
theorem dX10_plan_171 : decode cX10_plan 171 = .ok (.goto (-81), 3) := by decide +kernel
theorem dX10_plan_174 : decode cX10_plan 174 = .ok (.iload_n 3, 1) := by decide +kernel
theorem dX10_plan_175 : decode cX10_plan 175 = .ok (.iconst (-1), 1) := by decide +kernel
theorem dX10_plan_176 : decode cX10_plan 176 = .ok (.if_icmp .ne 6, 3) := by decide +kernel
theorem dX10_plan_179 : decode cX10_plan 179 = .ok (.bipush (-2), 2) := by decide +kernel
theorem dX10_plan_181 : decode cX10_plan 181 = .ok (.ireturn, 1) := by decide +kernel
theorem dX10_plan_182 : decode cX10_plan 182 = .ok (.iconst 0, 1) := by decide +kernel
theorem dX10_plan_183 : decode cX10_plan 183 = .ok (.istore 5, 2) := by decide +kernel
theorem dX10_plan_185 : decode cX10_plan 185 = .ok (.iload 5, 2) := by decide +kernel
theorem dX10_plan_187 : decode cX10_plan 187 = .ok (.bipush 8, 2) := by decide +kernel
theorem dX10_plan_189 : decode cX10_plan 189 = .ok (.if_icmp .ge 17, 3) := by decide +kernel
theorem dX10_plan_192 : decode cX10_plan 192 = .ok (.aload_n 0, 1) := by decide +kernel
theorem dX10_plan_193 : decode cX10_plan 193 = .ok (.getfield 158, 3) := by decide +kernel
theorem dX10_plan_196 : decode cX10_plan 196 = .ok (.iload 5, 2) := by decide +kernel
theorem dX10_plan_198 : decode cX10_plan 198 = .ok (.iconst (-1), 1) := by decide +kernel
theorem dX10_plan_199 : decode cX10_plan 199 = .ok (.iastore, 1) := by decide +kernel
theorem dX10_plan_200 : decode cX10_plan 200 = .ok (.iinc 5 1, 3) := by decide +kernel
theorem dX10_plan_203 : decode cX10_plan 203 = .ok (.goto (-18), 3) := by decide +kernel
theorem dX10_plan_206 : decode cX10_plan 206 = .ok (.iload_n 1, 1) := by decide +kernel
theorem dX10_plan_207 : decode cX10_plan 207 = .ok (.iconst 1, 1) := by decide +kernel
theorem dX10_plan_208 : decode cX10_plan 208 = .ok (.isub, 1) := by decide +kernel
theorem dX10_plan_209 : decode cX10_plan 209 = .ok (.istore 5, 2) := by decide +kernel
theorem dX10_plan_211 : decode cX10_plan 211 = .ok (.iload 5, 2) := by decide +kernel
theorem dX10_plan_213 : decode cX10_plan 213 = .ok (.ifCond .lt 31, 3) := by decide +kernel
theorem dX10_plan_216 : decode cX10_plan 216 = .ok (.aload_n 0, 1) := by decide +kernel
theorem dX10_plan_217 : decode cX10_plan 217 = .ok (.getfield 158, 3) := by decide +kernel
theorem dX10_plan_220 : decode cX10_plan 220 = .ok (.aload_n 0, 1) := by decide +kernel
theorem dX10_plan_221 : decode cX10_plan 221 = .ok (.getfield 161, 3) := by decide +kernel
theorem dX10_plan_224 : decode cX10_plan 224 = .ok (.iload 5, 2) := by decide +kernel
theorem dX10_plan_226 : decode cX10_plan 226 = .ok (.iaload, 1) := by decide +kernel
theorem dX10_plan_227 : decode cX10_plan 227 = .ok (.iload 4, 2) := by decide +kernel
theorem dX10_plan_229 : decode cX10_plan 229 = .ok (.iconst 3, 1) := by decide +kernel
theorem dX10_plan_230 : decode cX10_plan 230 = .ok (.irem, 1) := by decide +kernel
theorem dX10_plan_231 : decode cX10_plan 231 = .ok (.iastore, 1) := by decide +kernel
theorem dX10_plan_232 : decode cX10_plan 232 = .ok (.iload 4, 2) := by decide +kernel
theorem dX10_plan_234 : decode cX10_plan 234 = .ok (.iconst 3, 1) := by decide +kernel
theorem dX10_plan_235 : decode cX10_plan 235 = .ok (.idiv, 1) := by decide +kernel
theorem dX10_plan_236 : decode cX10_plan 236 = .ok (.istore 4, 2) := by decide +kernel
theorem dX10_plan_238 : decode cX10_plan 238 = .ok (.iinc 5 (-1), 3) := by decide +kernel
theorem dX10_plan_241 : decode cX10_plan 241 = .ok (.goto (-30), 3) := by decide +kernel
theorem dX10_plan_244 : decode cX10_plan 244 = .ok (.aload_n 0, 1) := by decide +kernel
theorem dX10_plan_245 : decode cX10_plan 245 = .ok (.iconst 1, 1) := by decide +kernel
theorem dX10_plan_246 : decode cX10_plan 246 = .ok (.putfield 336, 3) := by decide +kernel
theorem dX10_plan_249 : decode cX10_plan 249 = .ok (.iload_n 3, 1) := by decide +kernel
theorem dX10_plan_250 : decode cX10_plan 250 = .ok (.ireturn, 1) := by decide +kernel
theorem dX10_planned_0 : decode cX10_planned 0 = .ok (.aload_n 0, 1) := by decide +kernel
theorem dX10_planned_1 : decode cX10_planned 1 = .ok (.getfield 336, 3) := by decide +kernel
theorem dX10_planned_4 : decode cX10_planned 4 = .ok (.ifCond .eq 22, 3) := by decide +kernel
theorem dX10_planned_7 : decode cX10_planned 7 = .ok (.iload_n 1, 1) := by decide +kernel
theorem dX10_planned_8 : decode cX10_planned 8 = .ok (.ifCond .lt 18, 3) := by decide +kernel
theorem dX10_planned_11 : decode cX10_planned 11 = .ok (.iload_n 1, 1) := by decide +kernel
theorem dX10_planned_12 : decode cX10_planned 12 = .ok (.bipush 8, 2) := by decide +kernel
theorem dX10_planned_14 : decode cX10_planned 14 = .ok (.if_icmp .ge 12, 3) := by decide +kernel
theorem dX10_planned_17 : decode cX10_planned 17 = .ok (.aload_n 0, 1) := by decide +kernel
theorem dX10_planned_18 : decode cX10_planned 18 = .ok (.getfield 158, 3) := by decide +kernel
theorem dX10_planned_21 : decode cX10_planned 21 = .ok (.iload_n 1, 1) := by decide +kernel
theorem dX10_planned_22 : decode cX10_planned 22 = .ok (.iaload, 1) := by decide +kernel
theorem dX10_planned_23 : decode cX10_planned 23 = .ok (.goto 4, 3) := by decide +kernel
theorem dX10_planned_26 : decode cX10_planned 26 = .ok (.iconst (-1), 1) := by decide +kernel
theorem dX10_planned_27 : decode cX10_planned 27 = .ok (.ireturn, 1) := by decide +kernel
theorem dX10_free_0 : decode cX10_free 0 = .ok (.aload_n 0, 1) := by decide +kernel
theorem dX10_free_1 : decode cX10_free 1 = .ok (.iload_n 1, 1) := by decide +kernel
theorem dX10_free_2 : decode cX10_free 2 = .ok (.invokevirtual 276, 3) := by decide +kernel
theorem dX10_free_5 : decode cX10_free 5 = .ok (.ifCond .eq 13, 3) := by decide +kernel
theorem dX10_free_8 : decode cX10_free 8 = .ok (.aload_n 0, 1) := by decide +kernel
theorem dX10_free_9 : decode cX10_free 9 = .ok (.getfield 143, 3) := by decide +kernel
theorem dX10_free_12 : decode cX10_free 12 = .ok (.iload_n 1, 1) := by decide +kernel
theorem dX10_free_13 : decode cX10_free 13 = .ok (.iaload, 1) := by decide +kernel
theorem dX10_free_14 : decode cX10_free 14 = .ok (.iconst (-1), 1) := by decide +kernel
theorem dX10_free_15 : decode cX10_free 15 = .ok (.if_icmp .ne 5, 3) := by decide +kernel
theorem dX10_free_18 : decode cX10_free 18 = .ok (.iconst 0, 1) := by decide +kernel
theorem dX10_free_19 : decode cX10_free 19 = .ok (.ireturn, 1) := by decide +kernel
theorem dX10_free_20 : decode cX10_free 20 = .ok (.aload_n 0, 1) := by decide +kernel
theorem dX10_free_21 : decode cX10_free 21 = .ok (.getfield 143, 3) := by decide +kernel
theorem dX10_free_24 : decode cX10_free 24 = .ok (.iload_n 1, 1) := by decide +kernel
theorem dX10_free_25 : decode cX10_free 25 = .ok (.iconst (-1), 1) := by decide +kernel
theorem dX10_free_26 : decode cX10_free 26 = .ok (.iastore, 1) := by decide +kernel
theorem dX10_free_27 : decode cX10_free 27 = .ok (.aload_n 0, 1) := by decide +kernel
theorem dX10_free_28 : decode cX10_free 28 = .ok (.iconst (-1), 1) := by decide +kernel
theorem dX10_free_29 : decode cX10_free 29 = .ok (.iload_n 1, 1) := by decide +kernel
theorem dX10_free_30 : decode cX10_free 30 = .ok (.invokevirtual 178, 3) := by decide +kernel
theorem dX10_free_33 : decode cX10_free 33 = .ok (.iconst 1, 1) := by decide +kernel
theorem dX10_free_34 : decode cX10_free 34 = .ok (.ireturn, 1) := by decide +kernel
end
section
theorem dL_law_0 : decode cL_law 0 = .ok (.new 7, 3) := by decide +kernel
theorem dL_law_3 : decode cL_law 3 = .ok (.dup, 1) := by decide +kernel
theorem dL_law_4 : decode cL_law 4 = .ok (.invokespecial 9, 3) := by decide +kernel
theorem dL_law_7 : decode cL_law 7 = .ok (.astore_n 1, 1) := by decide +kernel
theorem dL_law_8 : decode cL_law 8 = .ok (.new 10, 3) := by decide +kernel
theorem dL_law_11 : decode cL_law 11 = .ok (.dup, 1) := by decide +kernel
theorem dL_law_12 : decode cL_law 12 = .ok (.invokespecial 12, 3) := by decide +kernel
theorem dL_law_15 : decode cL_law 15 = .ok (.astore_n 2, 1) := by decide +kernel
theorem dL_law_16 : decode cL_law 16 = .ok (.iconst 0, 1) := by decide +kernel
theorem dL_law_17 : decode cL_law 17 = .ok (.istore_n 3, 1) := by decide +kernel
theorem dL_law_18 : decode cL_law 18 = .ok (.iload_n 3, 1) := by decide +kernel
theorem dL_law_19 : decode cL_law 19 = .ok (.aload_n 0, 1) := by decide +kernel
theorem dL_law_20 : decode cL_law 20 = .ok (.arraylength, 1) := by decide +kernel
theorem dL_law_21 : decode cL_law 21 = .ok (.bipush 7, 2) := by decide +kernel
theorem dL_law_23 : decode cL_law 23 = .ok (.isub, 1) := by decide +kernel
theorem dL_law_24 : decode cL_law 24 = .ok (.if_icmp .gt 1010, 3) := by decide +kernel
theorem dL_law_27 : decode cL_law 27 = .ok (.aload_n 0, 1) := by decide +kernel
theorem dL_law_28 : decode cL_law 28 = .ok (.iload_n 3, 1) := by decide +kernel
theorem dL_law_29 : decode cL_law 29 = .ok (.iaload, 1) := by decide +kernel
theorem dL_law_30 : decode cL_law 30 = .ok (.bipush 31, 2) := by decide +kernel
theorem dL_law_32 : decode cL_law 32 = .ok (.iand, 1) := by decide +kernel
theorem dL_law_33 : decode cL_law 33 = .ok (.tableswitch 995 0 19 #[95, 158, 181, 244, 287, 362, 415, 458, 533, 586, 609, 642, 685, 754, 797, 860, 903, 936, 949, 972], 95) := by decide +kernel
theorem dL_law_128 : decode cL_law 128 = .ok (.aload_n 1, 1) := by decide +kernel
theorem dL_law_129 : decode cL_law 129 = .ok (.aload_n 0, 1) := by decide +kernel
theorem dL_law_130 : decode cL_law 130 = .ok (.iload_n 3, 1) := by decide +kernel
theorem dL_law_131 : decode cL_law 131 = .ok (.iconst 1, 1) := by decide +kernel
theorem dL_law_132 : decode cL_law 132 = .ok (.iadd, 1) := by decide +kernel
theorem dL_law_133 : decode cL_law 133 = .ok (.iaload, 1) := by decide +kernel
theorem dL_law_134 : decode cL_law 134 = .ok (.aload_n 0, 1) := by decide +kernel
theorem dL_law_135 : decode cL_law 135 = .ok (.iload_n 3, 1) := by decide +kernel
theorem dL_law_136 : decode cL_law 136 = .ok (.iconst 2, 1) := by decide +kernel
theorem dL_law_137 : decode cL_law 137 = .ok (.iadd, 1) := by decide +kernel
theorem dL_law_138 : decode cL_law 138 = .ok (.iaload, 1) := by decide +kernel
theorem dL_law_139 : decode cL_law 139 = .ok (.aload_n 0, 1) := by decide +kernel
theorem dL_law_140 : decode cL_law 140 = .ok (.iload_n 3, 1) := by decide +kernel
theorem dL_law_141 : decode cL_law 141 = .ok (.iconst 3, 1) := by decide +kernel
theorem dL_law_142 : decode cL_law 142 = .ok (.iadd, 1) := by decide +kernel
theorem dL_law_143 : decode cL_law 143 = .ok (.iaload, 1) := by decide +kernel
theorem dL_law_144 : decode cL_law 144 = .ok (.aload_n 0, 1) := by decide +kernel
theorem dL_law_145 : decode cL_law 145 = .ok (.iload_n 3, 1) := by decide +kernel
theorem dL_law_146 : decode cL_law 146 = .ok (.iconst 4, 1) := by decide +kernel
theorem dL_law_147 : decode cL_law 147 = .ok (.iadd, 1) := by decide +kernel
theorem dL_law_148 : decode cL_law 148 = .ok (.iaload, 1) := by decide +kernel
theorem dL_law_149 : decode cL_law 149 = .ok (.aload_n 0, 1) := by decide +kernel
theorem dL_law_150 : decode cL_law 150 = .ok (.iload_n 3, 1) := by decide +kernel
theorem dL_law_151 : decode cL_law 151 = .ok (.iconst 5, 1) := by decide +kernel
theorem dL_law_152 : decode cL_law 152 = .ok (.iadd, 1) := by decide +kernel
theorem dL_law_153 : decode cL_law 153 = .ok (.iaload, 1) := by decide +kernel
theorem dL_law_154 : decode cL_law 154 = .ok (.invokevirtual 13, 3) := by decide +kernel
theorem dL_law_157 : decode cL_law 157 = .ok (.aload_n 2, 1) := by decide +kernel
theorem dL_law_158 : decode cL_law 158 = .ok (.aload_n 0, 1) := by decide +kernel
theorem dL_law_159 : decode cL_law 159 = .ok (.iload_n 3, 1) := by decide +kernel
theorem dL_law_160 : decode cL_law 160 = .ok (.iconst 1, 1) := by decide +kernel
theorem dL_law_161 : decode cL_law 161 = .ok (.iadd, 1) := by decide +kernel
theorem dL_law_162 : decode cL_law 162 = .ok (.iaload, 1) := by decide +kernel
theorem dL_law_163 : decode cL_law 163 = .ok (.aload_n 0, 1) := by decide +kernel
theorem dL_law_164 : decode cL_law 164 = .ok (.iload_n 3, 1) := by decide +kernel
theorem dL_law_165 : decode cL_law 165 = .ok (.iconst 2, 1) := by decide +kernel
theorem dL_law_166 : decode cL_law 166 = .ok (.iadd, 1) := by decide +kernel
theorem dL_law_167 : decode cL_law 167 = .ok (.iaload, 1) := by decide +kernel
theorem dL_law_168 : decode cL_law 168 = .ok (.aload_n 0, 1) := by decide +kernel
theorem dL_law_169 : decode cL_law 169 = .ok (.iload_n 3, 1) := by decide +kernel
theorem dL_law_170 : decode cL_law 170 = .ok (.iconst 3, 1) := by decide +kernel
theorem dL_law_171 : decode cL_law 171 = .ok (.iadd, 1) := by decide +kernel
theorem dL_law_172 : decode cL_law 172 = .ok (.iaload, 1) := by decide +kernel
theorem dL_law_173 : decode cL_law 173 = .ok (.aload_n 0, 1) := by decide +kernel
theorem dL_law_174 : decode cL_law 174 = .ok (.iload_n 3, 1) := by decide +kernel
theorem dL_law_175 : decode cL_law 175 = .ok (.iconst 4, 1) := by decide +kernel
theorem dL_law_176 : decode cL_law 176 = .ok (.iadd, 1) := by decide +kernel
theorem dL_law_177 : decode cL_law 177 = .ok (.iaload, 1) := by decide +kernel
theorem dL_law_178 : decode cL_law 178 = .ok (.aload_n 0, 1) := by decide +kernel
theorem dL_law_179 : decode cL_law 179 = .ok (.iload_n 3, 1) := by decide +kernel
theorem dL_law_180 : decode cL_law 180 = .ok (.iconst 5, 1) := by decide +kernel
theorem dL_law_181 : decode cL_law 181 = .ok (.iadd, 1) := by decide +kernel
theorem dL_law_182 : decode cL_law 182 = .ok (.iaload, 1) := by decide +kernel
theorem dL_law_183 : decode cL_law 183 = .ok (.invokevirtual 17, 3) := by decide +kernel
theorem dL_law_186 : decode cL_law 186 = .ok (.if_icmp .eq 842, 3) := by decide +kernel
theorem dL_law_189 : decode cL_law 189 = .ok (.iconst 0, 1) := by decide +kernel
theorem dL_law_190 : decode cL_law 190 = .ok (.ireturn, 1) := by decide +kernel
theorem dL_law_191 : decode cL_law 191 = .ok (.aload_n 1, 1) := by decide +kernel
theorem dL_law_192 : decode cL_law 192 = .ok (.aload_n 0, 1) := by decide +kernel
theorem dL_law_193 : decode cL_law 193 = .ok (.iload_n 3, 1) := by decide +kernel
theorem dL_law_194 : decode cL_law 194 = .ok (.iconst 1, 1) := by decide +kernel
theorem dL_law_195 : decode cL_law 195 = .ok (.iadd, 1) := by decide +kernel
theorem dL_law_196 : decode cL_law 196 = .ok (.iaload, 1) := by decide +kernel
theorem dL_law_197 : decode cL_law 197 = .ok (.invokevirtual 18, 3) := by decide +kernel
theorem dL_law_200 : decode cL_law 200 = .ok (.aload_n 2, 1) := by decide +kernel
theorem dL_law_201 : decode cL_law 201 = .ok (.aload_n 0, 1) := by decide +kernel
theorem dL_law_202 : decode cL_law 202 = .ok (.iload_n 3, 1) := by decide +kernel
theorem dL_law_203 : decode cL_law 203 = .ok (.iconst 1, 1) := by decide +kernel
theorem dL_law_204 : decode cL_law 204 = .ok (.iadd, 1) := by decide +kernel
theorem dL_law_205 : decode cL_law 205 = .ok (.iaload, 1) := by decide +kernel
theorem dL_law_206 : decode cL_law 206 = .ok (.invokevirtual 22, 3) := by decide +kernel
theorem dL_law_209 : decode cL_law 209 = .ok (.if_icmp .eq 819, 3) := by decide +kernel
theorem dL_law_212 : decode cL_law 212 = .ok (.iconst 0, 1) := by decide +kernel
theorem dL_law_213 : decode cL_law 213 = .ok (.ireturn, 1) := by decide +kernel
theorem dL_law_214 : decode cL_law 214 = .ok (.aload_n 1, 1) := by decide +kernel
theorem dL_law_215 : decode cL_law 215 = .ok (.aload_n 0, 1) := by decide +kernel
theorem dL_law_216 : decode cL_law 216 = .ok (.iload_n 3, 1) := by decide +kernel
theorem dL_law_217 : decode cL_law 217 = .ok (.iconst 1, 1) := by decide +kernel
theorem dL_law_218 : decode cL_law 218 = .ok (.iadd, 1) := by decide +kernel
theorem dL_law_219 : decode cL_law 219 = .ok (.iaload, 1) := by decide +kernel
theorem dL_law_220 : decode cL_law 220 = .ok (.aload_n 0, 1) := by decide +kernel
theorem dL_law_221 : decode cL_law 221 = .ok (.iload_n 3, 1) := by decide +kernel
theorem dL_law_222 : decode cL_law 222 = .ok (.iconst 2, 1) := by decide +kernel
theorem dL_law_223 : decode cL_law 223 = .ok (.iadd, 1) := by decide +kernel
theorem dL_law_224 : decode cL_law 224 = .ok (.iaload, 1) := by decide +kernel
theorem dL_law_225 : decode cL_law 225 = .ok (.aload_n 0, 1) := by decide +kernel
theorem dL_law_226 : decode cL_law 226 = .ok (.iload_n 3, 1) := by decide +kernel
theorem dL_law_227 : decode cL_law 227 = .ok (.iconst 3, 1) := by decide +kernel
theorem dL_law_228 : decode cL_law 228 = .ok (.iadd, 1) := by decide +kernel
theorem dL_law_229 : decode cL_law 229 = .ok (.iaload, 1) := by decide +kernel
theorem dL_law_230 : decode cL_law 230 = .ok (.aload_n 0, 1) := by decide +kernel
theorem dL_law_231 : decode cL_law 231 = .ok (.iload_n 3, 1) := by decide +kernel
theorem dL_law_232 : decode cL_law 232 = .ok (.iconst 4, 1) := by decide +kernel
theorem dL_law_233 : decode cL_law 233 = .ok (.iadd, 1) := by decide +kernel
theorem dL_law_234 : decode cL_law 234 = .ok (.iaload, 1) := by decide +kernel
theorem dL_law_235 : decode cL_law 235 = .ok (.aload_n 0, 1) := by decide +kernel
theorem dL_law_236 : decode cL_law 236 = .ok (.iload_n 3, 1) := by decide +kernel
theorem dL_law_237 : decode cL_law 237 = .ok (.iconst 5, 1) := by decide +kernel
theorem dL_law_238 : decode cL_law 238 = .ok (.iadd, 1) := by decide +kernel
theorem dL_law_239 : decode cL_law 239 = .ok (.iaload, 1) := by decide +kernel
theorem dL_law_240 : decode cL_law 240 = .ok (.invokevirtual 23, 3) := by decide +kernel
theorem dL_law_243 : decode cL_law 243 = .ok (.aload_n 2, 1) := by decide +kernel
theorem dL_law_244 : decode cL_law 244 = .ok (.aload_n 0, 1) := by decide +kernel
theorem dL_law_245 : decode cL_law 245 = .ok (.iload_n 3, 1) := by decide +kernel
theorem dL_law_246 : decode cL_law 246 = .ok (.iconst 1, 1) := by decide +kernel
theorem dL_law_247 : decode cL_law 247 = .ok (.iadd, 1) := by decide +kernel
theorem dL_law_248 : decode cL_law 248 = .ok (.iaload, 1) := by decide +kernel
theorem dL_law_249 : decode cL_law 249 = .ok (.aload_n 0, 1) := by decide +kernel
theorem dL_law_250 : decode cL_law 250 = .ok (.iload_n 3, 1) := by decide +kernel
theorem dL_law_251 : decode cL_law 251 = .ok (.iconst 2, 1) := by decide +kernel
theorem dL_law_252 : decode cL_law 252 = .ok (.iadd, 1) := by decide +kernel
theorem dL_law_253 : decode cL_law 253 = .ok (.iaload, 1) := by decide +kernel
theorem dL_law_254 : decode cL_law 254 = .ok (.aload_n 0, 1) := by decide +kernel
theorem dL_law_255 : decode cL_law 255 = .ok (.iload_n 3, 1) := by decide +kernel
theorem dL_law_256 : decode cL_law 256 = .ok (.iconst 3, 1) := by decide +kernel
theorem dL_law_257 : decode cL_law 257 = .ok (.iadd, 1) := by decide +kernel
theorem dL_law_258 : decode cL_law 258 = .ok (.iaload, 1) := by decide +kernel
theorem dL_law_259 : decode cL_law 259 = .ok (.aload_n 0, 1) := by decide +kernel
theorem dL_law_260 : decode cL_law 260 = .ok (.iload_n 3, 1) := by decide +kernel
theorem dL_law_261 : decode cL_law 261 = .ok (.iconst 4, 1) := by decide +kernel
theorem dL_law_262 : decode cL_law 262 = .ok (.iadd, 1) := by decide +kernel
theorem dL_law_263 : decode cL_law 263 = .ok (.iaload, 1) := by decide +kernel
theorem dL_law_264 : decode cL_law 264 = .ok (.aload_n 0, 1) := by decide +kernel
theorem dL_law_265 : decode cL_law 265 = .ok (.iload_n 3, 1) := by decide +kernel
theorem dL_law_266 : decode cL_law 266 = .ok (.iconst 5, 1) := by decide +kernel
theorem dL_law_267 : decode cL_law 267 = .ok (.iadd, 1) := by decide +kernel
theorem dL_law_268 : decode cL_law 268 = .ok (.iaload, 1) := by decide +kernel
theorem dL_law_269 : decode cL_law 269 = .ok (.invokevirtual 27, 3) := by decide +kernel
theorem dL_law_272 : decode cL_law 272 = .ok (.if_icmp .eq 756, 3) := by decide +kernel
theorem dL_law_275 : decode cL_law 275 = .ok (.iconst 0, 1) := by decide +kernel
theorem dL_law_276 : decode cL_law 276 = .ok (.ireturn, 1) := by decide +kernel
theorem dL_law_277 : decode cL_law 277 = .ok (.aload_n 1, 1) := by decide +kernel
theorem dL_law_278 : decode cL_law 278 = .ok (.aload_n 0, 1) := by decide +kernel
theorem dL_law_279 : decode cL_law 279 = .ok (.iload_n 3, 1) := by decide +kernel
theorem dL_law_280 : decode cL_law 280 = .ok (.iconst 1, 1) := by decide +kernel
theorem dL_law_281 : decode cL_law 281 = .ok (.iadd, 1) := by decide +kernel
theorem dL_law_282 : decode cL_law 282 = .ok (.iaload, 1) := by decide +kernel
theorem dL_law_283 : decode cL_law 283 = .ok (.aload_n 0, 1) := by decide +kernel
theorem dL_law_284 : decode cL_law 284 = .ok (.iload_n 3, 1) := by decide +kernel
theorem dL_law_285 : decode cL_law 285 = .ok (.iconst 2, 1) := by decide +kernel
theorem dL_law_286 : decode cL_law 286 = .ok (.iadd, 1) := by decide +kernel
theorem dL_law_287 : decode cL_law 287 = .ok (.iaload, 1) := by decide +kernel
theorem dL_law_288 : decode cL_law 288 = .ok (.aload_n 0, 1) := by decide +kernel
theorem dL_law_289 : decode cL_law 289 = .ok (.iload_n 3, 1) := by decide +kernel
theorem dL_law_290 : decode cL_law 290 = .ok (.iconst 3, 1) := by decide +kernel
theorem dL_law_291 : decode cL_law 291 = .ok (.iadd, 1) := by decide +kernel
theorem dL_law_292 : decode cL_law 292 = .ok (.iaload, 1) := by decide +kernel
theorem dL_law_293 : decode cL_law 293 = .ok (.invokevirtual 28, 3) := by decide +kernel
theorem dL_law_296 : decode cL_law 296 = .ok (.aload_n 2, 1) := by decide +kernel
theorem dL_law_297 : decode cL_law 297 = .ok (.aload_n 0, 1) := by decide +kernel
theorem dL_law_298 : decode cL_law 298 = .ok (.iload_n 3, 1) := by decide +kernel
theorem dL_law_299 : decode cL_law 299 = .ok (.iconst 1, 1) := by decide +kernel
theorem dL_law_300 : decode cL_law 300 = .ok (.iadd, 1) := by decide +kernel
theorem dL_law_301 : decode cL_law 301 = .ok (.iaload, 1) := by decide +kernel
theorem dL_law_302 : decode cL_law 302 = .ok (.aload_n 0, 1) := by decide +kernel
theorem dL_law_303 : decode cL_law 303 = .ok (.iload_n 3, 1) := by decide +kernel
theorem dL_law_304 : decode cL_law 304 = .ok (.iconst 2, 1) := by decide +kernel
theorem dL_law_305 : decode cL_law 305 = .ok (.iadd, 1) := by decide +kernel
theorem dL_law_306 : decode cL_law 306 = .ok (.iaload, 1) := by decide +kernel
theorem dL_law_307 : decode cL_law 307 = .ok (.aload_n 0, 1) := by decide +kernel
theorem dL_law_308 : decode cL_law 308 = .ok (.iload_n 3, 1) := by decide +kernel
theorem dL_law_309 : decode cL_law 309 = .ok (.iconst 3, 1) := by decide +kernel
theorem dL_law_310 : decode cL_law 310 = .ok (.iadd, 1) := by decide +kernel
theorem dL_law_311 : decode cL_law 311 = .ok (.iaload, 1) := by decide +kernel
theorem dL_law_312 : decode cL_law 312 = .ok (.invokevirtual 32, 3) := by decide +kernel
theorem dL_law_315 : decode cL_law 315 = .ok (.if_icmp .eq 713, 3) := by decide +kernel
theorem dL_law_318 : decode cL_law 318 = .ok (.iconst 0, 1) := by decide +kernel
theorem dL_law_319 : decode cL_law 319 = .ok (.ireturn, 1) := by decide +kernel
theorem dL_law_320 : decode cL_law 320 = .ok (.aload_n 1, 1) := by decide +kernel
theorem dL_law_321 : decode cL_law 321 = .ok (.aload_n 0, 1) := by decide +kernel
theorem dL_law_322 : decode cL_law 322 = .ok (.iload_n 3, 1) := by decide +kernel
theorem dL_law_323 : decode cL_law 323 = .ok (.iconst 1, 1) := by decide +kernel
theorem dL_law_324 : decode cL_law 324 = .ok (.iadd, 1) := by decide +kernel
theorem dL_law_325 : decode cL_law 325 = .ok (.iaload, 1) := by decide +kernel
theorem dL_law_326 : decode cL_law 326 = .ok (.aload_n 0, 1) := by decide +kernel
theorem dL_law_327 : decode cL_law 327 = .ok (.iload_n 3, 1) := by decide +kernel
theorem dL_law_328 : decode cL_law 328 = .ok (.iconst 2, 1) := by decide +kernel
theorem dL_law_329 : decode cL_law 329 = .ok (.iadd, 1) := by decide +kernel
theorem dL_law_330 : decode cL_law 330 = .ok (.iaload, 1) := by decide +kernel
theorem dL_law_331 : decode cL_law 331 = .ok (.aload_n 0, 1) := by decide +kernel
theorem dL_law_332 : decode cL_law 332 = .ok (.iload_n 3, 1) := by decide +kernel
theorem dL_law_333 : decode cL_law 333 = .ok (.iconst 3, 1) := by decide +kernel
theorem dL_law_334 : decode cL_law 334 = .ok (.iadd, 1) := by decide +kernel
theorem dL_law_335 : decode cL_law 335 = .ok (.iaload, 1) := by decide +kernel
theorem dL_law_336 : decode cL_law 336 = .ok (.aload_n 0, 1) := by decide +kernel
theorem dL_law_337 : decode cL_law 337 = .ok (.iload_n 3, 1) := by decide +kernel
theorem dL_law_338 : decode cL_law 338 = .ok (.iconst 4, 1) := by decide +kernel
theorem dL_law_339 : decode cL_law 339 = .ok (.iadd, 1) := by decide +kernel
theorem dL_law_340 : decode cL_law 340 = .ok (.iaload, 1) := by decide +kernel
theorem dL_law_341 : decode cL_law 341 = .ok (.aload_n 0, 1) := by decide +kernel
theorem dL_law_342 : decode cL_law 342 = .ok (.iload_n 3, 1) := by decide +kernel
theorem dL_law_343 : decode cL_law 343 = .ok (.iconst 5, 1) := by decide +kernel
theorem dL_law_344 : decode cL_law 344 = .ok (.iadd, 1) := by decide +kernel
theorem dL_law_345 : decode cL_law 345 = .ok (.iaload, 1) := by decide +kernel
theorem dL_law_346 : decode cL_law 346 = .ok (.aload_n 0, 1) := by decide +kernel
theorem dL_law_347 : decode cL_law 347 = .ok (.iload_n 3, 1) := by decide +kernel
theorem dL_law_348 : decode cL_law 348 = .ok (.bipush 6, 2) := by decide +kernel
theorem dL_law_350 : decode cL_law 350 = .ok (.iadd, 1) := by decide +kernel
theorem dL_law_351 : decode cL_law 351 = .ok (.iaload, 1) := by decide +kernel
theorem dL_law_352 : decode cL_law 352 = .ok (.invokevirtual 33, 3) := by decide +kernel
theorem dL_law_355 : decode cL_law 355 = .ok (.aload_n 2, 1) := by decide +kernel
theorem dL_law_356 : decode cL_law 356 = .ok (.aload_n 0, 1) := by decide +kernel
theorem dL_law_357 : decode cL_law 357 = .ok (.iload_n 3, 1) := by decide +kernel
theorem dL_law_358 : decode cL_law 358 = .ok (.iconst 1, 1) := by decide +kernel
theorem dL_law_359 : decode cL_law 359 = .ok (.iadd, 1) := by decide +kernel
theorem dL_law_360 : decode cL_law 360 = .ok (.iaload, 1) := by decide +kernel
theorem dL_law_361 : decode cL_law 361 = .ok (.aload_n 0, 1) := by decide +kernel
theorem dL_law_362 : decode cL_law 362 = .ok (.iload_n 3, 1) := by decide +kernel
theorem dL_law_363 : decode cL_law 363 = .ok (.iconst 2, 1) := by decide +kernel
theorem dL_law_364 : decode cL_law 364 = .ok (.iadd, 1) := by decide +kernel
theorem dL_law_365 : decode cL_law 365 = .ok (.iaload, 1) := by decide +kernel
theorem dL_law_366 : decode cL_law 366 = .ok (.aload_n 0, 1) := by decide +kernel
theorem dL_law_367 : decode cL_law 367 = .ok (.iload_n 3, 1) := by decide +kernel
theorem dL_law_368 : decode cL_law 368 = .ok (.iconst 3, 1) := by decide +kernel
theorem dL_law_369 : decode cL_law 369 = .ok (.iadd, 1) := by decide +kernel
theorem dL_law_370 : decode cL_law 370 = .ok (.iaload, 1) := by decide +kernel
theorem dL_law_371 : decode cL_law 371 = .ok (.aload_n 0, 1) := by decide +kernel
theorem dL_law_372 : decode cL_law 372 = .ok (.iload_n 3, 1) := by decide +kernel
theorem dL_law_373 : decode cL_law 373 = .ok (.iconst 4, 1) := by decide +kernel
theorem dL_law_374 : decode cL_law 374 = .ok (.iadd, 1) := by decide +kernel
theorem dL_law_375 : decode cL_law 375 = .ok (.iaload, 1) := by decide +kernel
theorem dL_law_376 : decode cL_law 376 = .ok (.aload_n 0, 1) := by decide +kernel
theorem dL_law_377 : decode cL_law 377 = .ok (.iload_n 3, 1) := by decide +kernel
theorem dL_law_378 : decode cL_law 378 = .ok (.iconst 5, 1) := by decide +kernel
theorem dL_law_379 : decode cL_law 379 = .ok (.iadd, 1) := by decide +kernel
theorem dL_law_380 : decode cL_law 380 = .ok (.iaload, 1) := by decide +kernel
theorem dL_law_381 : decode cL_law 381 = .ok (.aload_n 0, 1) := by decide +kernel
theorem dL_law_382 : decode cL_law 382 = .ok (.iload_n 3, 1) := by decide +kernel
theorem dL_law_383 : decode cL_law 383 = .ok (.bipush 6, 2) := by decide +kernel
theorem dL_law_385 : decode cL_law 385 = .ok (.iadd, 1) := by decide +kernel
theorem dL_law_386 : decode cL_law 386 = .ok (.iaload, 1) := by decide +kernel
theorem dL_law_387 : decode cL_law 387 = .ok (.invokevirtual 37, 3) := by decide +kernel
theorem dL_law_390 : decode cL_law 390 = .ok (.if_icmp .eq 638, 3) := by decide +kernel
theorem dL_law_393 : decode cL_law 393 = .ok (.iconst 0, 1) := by decide +kernel
theorem dL_law_394 : decode cL_law 394 = .ok (.ireturn, 1) := by decide +kernel
theorem dL_law_395 : decode cL_law 395 = .ok (.aload_n 1, 1) := by decide +kernel
theorem dL_law_396 : decode cL_law 396 = .ok (.aload_n 0, 1) := by decide +kernel
theorem dL_law_397 : decode cL_law 397 = .ok (.iload_n 3, 1) := by decide +kernel
theorem dL_law_398 : decode cL_law 398 = .ok (.iconst 1, 1) := by decide +kernel
theorem dL_law_399 : decode cL_law 399 = .ok (.iadd, 1) := by decide +kernel
theorem dL_law_400 : decode cL_law 400 = .ok (.iaload, 1) := by decide +kernel
theorem dL_law_401 : decode cL_law 401 = .ok (.aload_n 0, 1) := by decide +kernel
theorem dL_law_402 : decode cL_law 402 = .ok (.iload_n 3, 1) := by decide +kernel
theorem dL_law_403 : decode cL_law 403 = .ok (.iconst 2, 1) := by decide +kernel
theorem dL_law_404 : decode cL_law 404 = .ok (.iadd, 1) := by decide +kernel
theorem dL_law_405 : decode cL_law 405 = .ok (.iaload, 1) := by decide +kernel
theorem dL_law_406 : decode cL_law 406 = .ok (.aload_n 0, 1) := by decide +kernel
theorem dL_law_407 : decode cL_law 407 = .ok (.iload_n 3, 1) := by decide +kernel
theorem dL_law_408 : decode cL_law 408 = .ok (.iconst 3, 1) := by decide +kernel
theorem dL_law_409 : decode cL_law 409 = .ok (.iadd, 1) := by decide +kernel
theorem dL_law_410 : decode cL_law 410 = .ok (.iaload, 1) := by decide +kernel
theorem dL_law_411 : decode cL_law 411 = .ok (.aload_n 0, 1) := by decide +kernel
theorem dL_law_412 : decode cL_law 412 = .ok (.iload_n 3, 1) := by decide +kernel
theorem dL_law_413 : decode cL_law 413 = .ok (.iconst 4, 1) := by decide +kernel
theorem dL_law_414 : decode cL_law 414 = .ok (.iadd, 1) := by decide +kernel
theorem dL_law_415 : decode cL_law 415 = .ok (.iaload, 1) := by decide +kernel
theorem dL_law_416 : decode cL_law 416 = .ok (.invokevirtual 38, 3) := by decide +kernel
theorem dL_law_419 : decode cL_law 419 = .ok (.aload_n 2, 1) := by decide +kernel
theorem dL_law_420 : decode cL_law 420 = .ok (.aload_n 0, 1) := by decide +kernel
theorem dL_law_421 : decode cL_law 421 = .ok (.iload_n 3, 1) := by decide +kernel
theorem dL_law_422 : decode cL_law 422 = .ok (.iconst 1, 1) := by decide +kernel
theorem dL_law_423 : decode cL_law 423 = .ok (.iadd, 1) := by decide +kernel
theorem dL_law_424 : decode cL_law 424 = .ok (.iaload, 1) := by decide +kernel
theorem dL_law_425 : decode cL_law 425 = .ok (.aload_n 0, 1) := by decide +kernel
theorem dL_law_426 : decode cL_law 426 = .ok (.iload_n 3, 1) := by decide +kernel
theorem dL_law_427 : decode cL_law 427 = .ok (.iconst 2, 1) := by decide +kernel
theorem dL_law_428 : decode cL_law 428 = .ok (.iadd, 1) := by decide +kernel
theorem dL_law_429 : decode cL_law 429 = .ok (.iaload, 1) := by decide +kernel
theorem dL_law_430 : decode cL_law 430 = .ok (.aload_n 0, 1) := by decide +kernel
theorem dL_law_431 : decode cL_law 431 = .ok (.iload_n 3, 1) := by decide +kernel
theorem dL_law_432 : decode cL_law 432 = .ok (.iconst 3, 1) := by decide +kernel
theorem dL_law_433 : decode cL_law 433 = .ok (.iadd, 1) := by decide +kernel
theorem dL_law_434 : decode cL_law 434 = .ok (.iaload, 1) := by decide +kernel
theorem dL_law_435 : decode cL_law 435 = .ok (.aload_n 0, 1) := by decide +kernel
theorem dL_law_436 : decode cL_law 436 = .ok (.iload_n 3, 1) := by decide +kernel
theorem dL_law_437 : decode cL_law 437 = .ok (.iconst 4, 1) := by decide +kernel
theorem dL_law_438 : decode cL_law 438 = .ok (.iadd, 1) := by decide +kernel
theorem dL_law_439 : decode cL_law 439 = .ok (.iaload, 1) := by decide +kernel
theorem dL_law_440 : decode cL_law 440 = .ok (.invokevirtual 42, 3) := by decide +kernel
theorem dL_law_443 : decode cL_law 443 = .ok (.if_icmp .eq 585, 3) := by decide +kernel
theorem dL_law_446 : decode cL_law 446 = .ok (.iconst 0, 1) := by decide +kernel
theorem dL_law_447 : decode cL_law 447 = .ok (.ireturn, 1) := by decide +kernel
theorem dL_law_448 : decode cL_law 448 = .ok (.aload_n 1, 1) := by decide +kernel
theorem dL_law_449 : decode cL_law 449 = .ok (.aload_n 0, 1) := by decide +kernel
theorem dL_law_450 : decode cL_law 450 = .ok (.iload_n 3, 1) := by decide +kernel
theorem dL_law_451 : decode cL_law 451 = .ok (.iconst 1, 1) := by decide +kernel
theorem dL_law_452 : decode cL_law 452 = .ok (.iadd, 1) := by decide +kernel
theorem dL_law_453 : decode cL_law 453 = .ok (.iaload, 1) := by decide +kernel
theorem dL_law_454 : decode cL_law 454 = .ok (.aload_n 0, 1) := by decide +kernel
theorem dL_law_455 : decode cL_law 455 = .ok (.iload_n 3, 1) := by decide +kernel
theorem dL_law_456 : decode cL_law 456 = .ok (.iconst 2, 1) := by decide +kernel
theorem dL_law_457 : decode cL_law 457 = .ok (.iadd, 1) := by decide +kernel
theorem dL_law_458 : decode cL_law 458 = .ok (.iaload, 1) := by decide +kernel
theorem dL_law_459 : decode cL_law 459 = .ok (.aload_n 0, 1) := by decide +kernel
theorem dL_law_460 : decode cL_law 460 = .ok (.iload_n 3, 1) := by decide +kernel
theorem dL_law_461 : decode cL_law 461 = .ok (.iconst 3, 1) := by decide +kernel
theorem dL_law_462 : decode cL_law 462 = .ok (.iadd, 1) := by decide +kernel
theorem dL_law_463 : decode cL_law 463 = .ok (.iaload, 1) := by decide +kernel
theorem dL_law_464 : decode cL_law 464 = .ok (.invokevirtual 43, 3) := by decide +kernel
theorem dL_law_467 : decode cL_law 467 = .ok (.aload_n 2, 1) := by decide +kernel
theorem dL_law_468 : decode cL_law 468 = .ok (.aload_n 0, 1) := by decide +kernel
theorem dL_law_469 : decode cL_law 469 = .ok (.iload_n 3, 1) := by decide +kernel
theorem dL_law_470 : decode cL_law 470 = .ok (.iconst 1, 1) := by decide +kernel
theorem dL_law_471 : decode cL_law 471 = .ok (.iadd, 1) := by decide +kernel
theorem dL_law_472 : decode cL_law 472 = .ok (.iaload, 1) := by decide +kernel
theorem dL_law_473 : decode cL_law 473 = .ok (.aload_n 0, 1) := by decide +kernel
theorem dL_law_474 : decode cL_law 474 = .ok (.iload_n 3, 1) := by decide +kernel
theorem dL_law_475 : decode cL_law 475 = .ok (.iconst 2, 1) := by decide +kernel
theorem dL_law_476 : decode cL_law 476 = .ok (.iadd, 1) := by decide +kernel
theorem dL_law_477 : decode cL_law 477 = .ok (.iaload, 1) := by decide +kernel
theorem dL_law_478 : decode cL_law 478 = .ok (.aload_n 0, 1) := by decide +kernel
theorem dL_law_479 : decode cL_law 479 = .ok (.iload_n 3, 1) := by decide +kernel
theorem dL_law_480 : decode cL_law 480 = .ok (.iconst 3, 1) := by decide +kernel
theorem dL_law_481 : decode cL_law 481 = .ok (.iadd, 1) := by decide +kernel
theorem dL_law_482 : decode cL_law 482 = .ok (.iaload, 1) := by decide +kernel
theorem dL_law_483 : decode cL_law 483 = .ok (.invokevirtual 47, 3) := by decide +kernel
theorem dL_law_486 : decode cL_law 486 = .ok (.if_icmp .eq 542, 3) := by decide +kernel
theorem dL_law_489 : decode cL_law 489 = .ok (.iconst 0, 1) := by decide +kernel
theorem dL_law_490 : decode cL_law 490 = .ok (.ireturn, 1) := by decide +kernel
theorem dL_law_491 : decode cL_law 491 = .ok (.aload_n 1, 1) := by decide +kernel
theorem dL_law_492 : decode cL_law 492 = .ok (.aload_n 0, 1) := by decide +kernel
theorem dL_law_493 : decode cL_law 493 = .ok (.iload_n 3, 1) := by decide +kernel
theorem dL_law_494 : decode cL_law 494 = .ok (.iconst 1, 1) := by decide +kernel
theorem dL_law_495 : decode cL_law 495 = .ok (.iadd, 1) := by decide +kernel
theorem dL_law_496 : decode cL_law 496 = .ok (.iaload, 1) := by decide +kernel
theorem dL_law_497 : decode cL_law 497 = .ok (.aload_n 0, 1) := by decide +kernel
theorem dL_law_498 : decode cL_law 498 = .ok (.iload_n 3, 1) := by decide +kernel
theorem dL_law_499 : decode cL_law 499 = .ok (.iconst 2, 1) := by decide +kernel
theorem dL_law_500 : decode cL_law 500 = .ok (.iadd, 1) := by decide +kernel
theorem dL_law_501 : decode cL_law 501 = .ok (.iaload, 1) := by decide +kernel
theorem dL_law_502 : decode cL_law 502 = .ok (.aload_n 0, 1) := by decide +kernel
theorem dL_law_503 : decode cL_law 503 = .ok (.iload_n 3, 1) := by decide +kernel
theorem dL_law_504 : decode cL_law 504 = .ok (.iconst 3, 1) := by decide +kernel
theorem dL_law_505 : decode cL_law 505 = .ok (.iadd, 1) := by decide +kernel
theorem dL_law_506 : decode cL_law 506 = .ok (.iaload, 1) := by decide +kernel
theorem dL_law_507 : decode cL_law 507 = .ok (.aload_n 0, 1) := by decide +kernel
theorem dL_law_508 : decode cL_law 508 = .ok (.iload_n 3, 1) := by decide +kernel
theorem dL_law_509 : decode cL_law 509 = .ok (.iconst 4, 1) := by decide +kernel
theorem dL_law_510 : decode cL_law 510 = .ok (.iadd, 1) := by decide +kernel
theorem dL_law_511 : decode cL_law 511 = .ok (.iaload, 1) := by decide +kernel
theorem dL_law_512 : decode cL_law 512 = .ok (.aload_n 0, 1) := by decide +kernel
theorem dL_law_513 : decode cL_law 513 = .ok (.iload_n 3, 1) := by decide +kernel
theorem dL_law_514 : decode cL_law 514 = .ok (.iconst 5, 1) := by decide +kernel
theorem dL_law_515 : decode cL_law 515 = .ok (.iadd, 1) := by decide +kernel
theorem dL_law_516 : decode cL_law 516 = .ok (.iaload, 1) := by decide +kernel
theorem dL_law_517 : decode cL_law 517 = .ok (.aload_n 0, 1) := by decide +kernel
theorem dL_law_518 : decode cL_law 518 = .ok (.iload_n 3, 1) := by decide +kernel
theorem dL_law_519 : decode cL_law 519 = .ok (.bipush 6, 2) := by decide +kernel
theorem dL_law_521 : decode cL_law 521 = .ok (.iadd, 1) := by decide +kernel
theorem dL_law_522 : decode cL_law 522 = .ok (.iaload, 1) := by decide +kernel
theorem dL_law_523 : decode cL_law 523 = .ok (.invokevirtual 48, 3) := by decide +kernel
theorem dL_law_526 : decode cL_law 526 = .ok (.aload_n 2, 1) := by decide +kernel
theorem dL_law_527 : decode cL_law 527 = .ok (.aload_n 0, 1) := by decide +kernel
theorem dL_law_528 : decode cL_law 528 = .ok (.iload_n 3, 1) := by decide +kernel
theorem dL_law_529 : decode cL_law 529 = .ok (.iconst 1, 1) := by decide +kernel
theorem dL_law_530 : decode cL_law 530 = .ok (.iadd, 1) := by decide +kernel
theorem dL_law_531 : decode cL_law 531 = .ok (.iaload, 1) := by decide +kernel
theorem dL_law_532 : decode cL_law 532 = .ok (.aload_n 0, 1) := by decide +kernel
theorem dL_law_533 : decode cL_law 533 = .ok (.iload_n 3, 1) := by decide +kernel
theorem dL_law_534 : decode cL_law 534 = .ok (.iconst 2, 1) := by decide +kernel
theorem dL_law_535 : decode cL_law 535 = .ok (.iadd, 1) := by decide +kernel
theorem dL_law_536 : decode cL_law 536 = .ok (.iaload, 1) := by decide +kernel
theorem dL_law_537 : decode cL_law 537 = .ok (.aload_n 0, 1) := by decide +kernel
theorem dL_law_538 : decode cL_law 538 = .ok (.iload_n 3, 1) := by decide +kernel
theorem dL_law_539 : decode cL_law 539 = .ok (.iconst 3, 1) := by decide +kernel
theorem dL_law_540 : decode cL_law 540 = .ok (.iadd, 1) := by decide +kernel
theorem dL_law_541 : decode cL_law 541 = .ok (.iaload, 1) := by decide +kernel
theorem dL_law_542 : decode cL_law 542 = .ok (.aload_n 0, 1) := by decide +kernel
theorem dL_law_543 : decode cL_law 543 = .ok (.iload_n 3, 1) := by decide +kernel
theorem dL_law_544 : decode cL_law 544 = .ok (.iconst 4, 1) := by decide +kernel
theorem dL_law_545 : decode cL_law 545 = .ok (.iadd, 1) := by decide +kernel
theorem dL_law_546 : decode cL_law 546 = .ok (.iaload, 1) := by decide +kernel
theorem dL_law_547 : decode cL_law 547 = .ok (.aload_n 0, 1) := by decide +kernel
theorem dL_law_548 : decode cL_law 548 = .ok (.iload_n 3, 1) := by decide +kernel
theorem dL_law_549 : decode cL_law 549 = .ok (.iconst 5, 1) := by decide +kernel
theorem dL_law_550 : decode cL_law 550 = .ok (.iadd, 1) := by decide +kernel
theorem dL_law_551 : decode cL_law 551 = .ok (.iaload, 1) := by decide +kernel
theorem dL_law_552 : decode cL_law 552 = .ok (.aload_n 0, 1) := by decide +kernel
theorem dL_law_553 : decode cL_law 553 = .ok (.iload_n 3, 1) := by decide +kernel
theorem dL_law_554 : decode cL_law 554 = .ok (.bipush 6, 2) := by decide +kernel
theorem dL_law_556 : decode cL_law 556 = .ok (.iadd, 1) := by decide +kernel
theorem dL_law_557 : decode cL_law 557 = .ok (.iaload, 1) := by decide +kernel
theorem dL_law_558 : decode cL_law 558 = .ok (.invokevirtual 51, 3) := by decide +kernel
theorem dL_law_561 : decode cL_law 561 = .ok (.if_icmp .eq 467, 3) := by decide +kernel
theorem dL_law_564 : decode cL_law 564 = .ok (.iconst 0, 1) := by decide +kernel
theorem dL_law_565 : decode cL_law 565 = .ok (.ireturn, 1) := by decide +kernel
theorem dL_law_566 : decode cL_law 566 = .ok (.aload_n 1, 1) := by decide +kernel
theorem dL_law_567 : decode cL_law 567 = .ok (.aload_n 0, 1) := by decide +kernel
theorem dL_law_568 : decode cL_law 568 = .ok (.iload_n 3, 1) := by decide +kernel
theorem dL_law_569 : decode cL_law 569 = .ok (.iconst 1, 1) := by decide +kernel
theorem dL_law_570 : decode cL_law 570 = .ok (.iadd, 1) := by decide +kernel
theorem dL_law_571 : decode cL_law 571 = .ok (.iaload, 1) := by decide +kernel
theorem dL_law_572 : decode cL_law 572 = .ok (.aload_n 0, 1) := by decide +kernel
theorem dL_law_573 : decode cL_law 573 = .ok (.iload_n 3, 1) := by decide +kernel
theorem dL_law_574 : decode cL_law 574 = .ok (.iconst 2, 1) := by decide +kernel
theorem dL_law_575 : decode cL_law 575 = .ok (.iadd, 1) := by decide +kernel
theorem dL_law_576 : decode cL_law 576 = .ok (.iaload, 1) := by decide +kernel
theorem dL_law_577 : decode cL_law 577 = .ok (.aload_n 0, 1) := by decide +kernel
theorem dL_law_578 : decode cL_law 578 = .ok (.iload_n 3, 1) := by decide +kernel
theorem dL_law_579 : decode cL_law 579 = .ok (.iconst 3, 1) := by decide +kernel
theorem dL_law_580 : decode cL_law 580 = .ok (.iadd, 1) := by decide +kernel
theorem dL_law_581 : decode cL_law 581 = .ok (.iaload, 1) := by decide +kernel
theorem dL_law_582 : decode cL_law 582 = .ok (.aload_n 0, 1) := by decide +kernel
theorem dL_law_583 : decode cL_law 583 = .ok (.iload_n 3, 1) := by decide +kernel
theorem dL_law_584 : decode cL_law 584 = .ok (.iconst 4, 1) := by decide +kernel
theorem dL_law_585 : decode cL_law 585 = .ok (.iadd, 1) := by decide +kernel
theorem dL_law_586 : decode cL_law 586 = .ok (.iaload, 1) := by decide +kernel
theorem dL_law_587 : decode cL_law 587 = .ok (.invokevirtual 52, 3) := by decide +kernel
theorem dL_law_590 : decode cL_law 590 = .ok (.aload_n 2, 1) := by decide +kernel
theorem dL_law_591 : decode cL_law 591 = .ok (.aload_n 0, 1) := by decide +kernel
theorem dL_law_592 : decode cL_law 592 = .ok (.iload_n 3, 1) := by decide +kernel
theorem dL_law_593 : decode cL_law 593 = .ok (.iconst 1, 1) := by decide +kernel
theorem dL_law_594 : decode cL_law 594 = .ok (.iadd, 1) := by decide +kernel
theorem dL_law_595 : decode cL_law 595 = .ok (.iaload, 1) := by decide +kernel
theorem dL_law_596 : decode cL_law 596 = .ok (.aload_n 0, 1) := by decide +kernel
theorem dL_law_597 : decode cL_law 597 = .ok (.iload_n 3, 1) := by decide +kernel
theorem dL_law_598 : decode cL_law 598 = .ok (.iconst 2, 1) := by decide +kernel
theorem dL_law_599 : decode cL_law 599 = .ok (.iadd, 1) := by decide +kernel
theorem dL_law_600 : decode cL_law 600 = .ok (.iaload, 1) := by decide +kernel
theorem dL_law_601 : decode cL_law 601 = .ok (.aload_n 0, 1) := by decide +kernel
theorem dL_law_602 : decode cL_law 602 = .ok (.iload_n 3, 1) := by decide +kernel
theorem dL_law_603 : decode cL_law 603 = .ok (.iconst 3, 1) := by decide +kernel
theorem dL_law_604 : decode cL_law 604 = .ok (.iadd, 1) := by decide +kernel
theorem dL_law_605 : decode cL_law 605 = .ok (.iaload, 1) := by decide +kernel
theorem dL_law_606 : decode cL_law 606 = .ok (.aload_n 0, 1) := by decide +kernel
theorem dL_law_607 : decode cL_law 607 = .ok (.iload_n 3, 1) := by decide +kernel
theorem dL_law_608 : decode cL_law 608 = .ok (.iconst 4, 1) := by decide +kernel
theorem dL_law_609 : decode cL_law 609 = .ok (.iadd, 1) := by decide +kernel
theorem dL_law_610 : decode cL_law 610 = .ok (.iaload, 1) := by decide +kernel
theorem dL_law_611 : decode cL_law 611 = .ok (.invokevirtual 56, 3) := by decide +kernel
theorem dL_law_614 : decode cL_law 614 = .ok (.if_icmp .eq 414, 3) := by decide +kernel
theorem dL_law_617 : decode cL_law 617 = .ok (.iconst 0, 1) := by decide +kernel
theorem dL_law_618 : decode cL_law 618 = .ok (.ireturn, 1) := by decide +kernel
theorem dL_law_619 : decode cL_law 619 = .ok (.aload_n 1, 1) := by decide +kernel
theorem dL_law_620 : decode cL_law 620 = .ok (.aload_n 0, 1) := by decide +kernel
theorem dL_law_621 : decode cL_law 621 = .ok (.iload_n 3, 1) := by decide +kernel
theorem dL_law_622 : decode cL_law 622 = .ok (.iconst 1, 1) := by decide +kernel
theorem dL_law_623 : decode cL_law 623 = .ok (.iadd, 1) := by decide +kernel
theorem dL_law_624 : decode cL_law 624 = .ok (.iaload, 1) := by decide +kernel
theorem dL_law_625 : decode cL_law 625 = .ok (.invokevirtual 57, 3) := by decide +kernel
theorem dL_law_628 : decode cL_law 628 = .ok (.aload_n 2, 1) := by decide +kernel
theorem dL_law_629 : decode cL_law 629 = .ok (.aload_n 0, 1) := by decide +kernel
theorem dL_law_630 : decode cL_law 630 = .ok (.iload_n 3, 1) := by decide +kernel
theorem dL_law_631 : decode cL_law 631 = .ok (.iconst 1, 1) := by decide +kernel
theorem dL_law_632 : decode cL_law 632 = .ok (.iadd, 1) := by decide +kernel
theorem dL_law_633 : decode cL_law 633 = .ok (.iaload, 1) := by decide +kernel
theorem dL_law_634 : decode cL_law 634 = .ok (.invokevirtual 61, 3) := by decide +kernel
theorem dL_law_637 : decode cL_law 637 = .ok (.if_icmp .eq 391, 3) := by decide +kernel
theorem dL_law_640 : decode cL_law 640 = .ok (.iconst 0, 1) := by decide +kernel
theorem dL_law_641 : decode cL_law 641 = .ok (.ireturn, 1) := by decide +kernel
theorem dL_law_642 : decode cL_law 642 = .ok (.aload_n 1, 1) := by decide +kernel
theorem dL_law_643 : decode cL_law 643 = .ok (.aload_n 0, 1) := by decide +kernel
theorem dL_law_644 : decode cL_law 644 = .ok (.iload_n 3, 1) := by decide +kernel
theorem dL_law_645 : decode cL_law 645 = .ok (.iconst 1, 1) := by decide +kernel
theorem dL_law_646 : decode cL_law 646 = .ok (.iadd, 1) := by decide +kernel
theorem dL_law_647 : decode cL_law 647 = .ok (.iaload, 1) := by decide +kernel
theorem dL_law_648 : decode cL_law 648 = .ok (.aload_n 0, 1) := by decide +kernel
theorem dL_law_649 : decode cL_law 649 = .ok (.iload_n 3, 1) := by decide +kernel
theorem dL_law_650 : decode cL_law 650 = .ok (.iconst 2, 1) := by decide +kernel
theorem dL_law_651 : decode cL_law 651 = .ok (.iadd, 1) := by decide +kernel
theorem dL_law_652 : decode cL_law 652 = .ok (.iaload, 1) := by decide +kernel
theorem dL_law_653 : decode cL_law 653 = .ok (.invokevirtual 62, 3) := by decide +kernel
theorem dL_law_656 : decode cL_law 656 = .ok (.aload_n 2, 1) := by decide +kernel
theorem dL_law_657 : decode cL_law 657 = .ok (.aload_n 0, 1) := by decide +kernel
theorem dL_law_658 : decode cL_law 658 = .ok (.iload_n 3, 1) := by decide +kernel
theorem dL_law_659 : decode cL_law 659 = .ok (.iconst 1, 1) := by decide +kernel
theorem dL_law_660 : decode cL_law 660 = .ok (.iadd, 1) := by decide +kernel
theorem dL_law_661 : decode cL_law 661 = .ok (.iaload, 1) := by decide +kernel
theorem dL_law_662 : decode cL_law 662 = .ok (.aload_n 0, 1) := by decide +kernel
theorem dL_law_663 : decode cL_law 663 = .ok (.iload_n 3, 1) := by decide +kernel
theorem dL_law_664 : decode cL_law 664 = .ok (.iconst 2, 1) := by decide +kernel
theorem dL_law_665 : decode cL_law 665 = .ok (.iadd, 1) := by decide +kernel
theorem dL_law_666 : decode cL_law 666 = .ok (.iaload, 1) := by decide +kernel
theorem dL_law_667 : decode cL_law 667 = .ok (.invokevirtual 66, 3) := by decide +kernel
theorem dL_law_670 : decode cL_law 670 = .ok (.if_icmp .eq 358, 3) := by decide +kernel
theorem dL_law_673 : decode cL_law 673 = .ok (.iconst 0, 1) := by decide +kernel
theorem dL_law_674 : decode cL_law 674 = .ok (.ireturn, 1) := by decide +kernel
theorem dL_law_675 : decode cL_law 675 = .ok (.aload_n 1, 1) := by decide +kernel
theorem dL_law_676 : decode cL_law 676 = .ok (.aload_n 0, 1) := by decide +kernel
theorem dL_law_677 : decode cL_law 677 = .ok (.iload_n 3, 1) := by decide +kernel
theorem dL_law_678 : decode cL_law 678 = .ok (.iconst 1, 1) := by decide +kernel
theorem dL_law_679 : decode cL_law 679 = .ok (.iadd, 1) := by decide +kernel
theorem dL_law_680 : decode cL_law 680 = .ok (.iaload, 1) := by decide +kernel
theorem dL_law_681 : decode cL_law 681 = .ok (.aload_n 0, 1) := by decide +kernel
theorem dL_law_682 : decode cL_law 682 = .ok (.iload_n 3, 1) := by decide +kernel
theorem dL_law_683 : decode cL_law 683 = .ok (.iconst 2, 1) := by decide +kernel
theorem dL_law_684 : decode cL_law 684 = .ok (.iadd, 1) := by decide +kernel
theorem dL_law_685 : decode cL_law 685 = .ok (.iaload, 1) := by decide +kernel
theorem dL_law_686 : decode cL_law 686 = .ok (.aload_n 0, 1) := by decide +kernel
theorem dL_law_687 : decode cL_law 687 = .ok (.iload_n 3, 1) := by decide +kernel
theorem dL_law_688 : decode cL_law 688 = .ok (.iconst 3, 1) := by decide +kernel
theorem dL_law_689 : decode cL_law 689 = .ok (.iadd, 1) := by decide +kernel
theorem dL_law_690 : decode cL_law 690 = .ok (.iaload, 1) := by decide +kernel
theorem dL_law_691 : decode cL_law 691 = .ok (.invokevirtual 67, 3) := by decide +kernel
theorem dL_law_694 : decode cL_law 694 = .ok (.aload_n 2, 1) := by decide +kernel
theorem dL_law_695 : decode cL_law 695 = .ok (.aload_n 0, 1) := by decide +kernel
theorem dL_law_696 : decode cL_law 696 = .ok (.iload_n 3, 1) := by decide +kernel
theorem dL_law_697 : decode cL_law 697 = .ok (.iconst 1, 1) := by decide +kernel
theorem dL_law_698 : decode cL_law 698 = .ok (.iadd, 1) := by decide +kernel
theorem dL_law_699 : decode cL_law 699 = .ok (.iaload, 1) := by decide +kernel
theorem dL_law_700 : decode cL_law 700 = .ok (.aload_n 0, 1) := by decide +kernel
theorem dL_law_701 : decode cL_law 701 = .ok (.iload_n 3, 1) := by decide +kernel
theorem dL_law_702 : decode cL_law 702 = .ok (.iconst 2, 1) := by decide +kernel
theorem dL_law_703 : decode cL_law 703 = .ok (.iadd, 1) := by decide +kernel
theorem dL_law_704 : decode cL_law 704 = .ok (.iaload, 1) := by decide +kernel
theorem dL_law_705 : decode cL_law 705 = .ok (.aload_n 0, 1) := by decide +kernel
theorem dL_law_706 : decode cL_law 706 = .ok (.iload_n 3, 1) := by decide +kernel
theorem dL_law_707 : decode cL_law 707 = .ok (.iconst 3, 1) := by decide +kernel
theorem dL_law_708 : decode cL_law 708 = .ok (.iadd, 1) := by decide +kernel
theorem dL_law_709 : decode cL_law 709 = .ok (.iaload, 1) := by decide +kernel
theorem dL_law_710 : decode cL_law 710 = .ok (.invokevirtual 70, 3) := by decide +kernel
theorem dL_law_713 : decode cL_law 713 = .ok (.if_icmp .eq 315, 3) := by decide +kernel
theorem dL_law_716 : decode cL_law 716 = .ok (.iconst 0, 1) := by decide +kernel
theorem dL_law_717 : decode cL_law 717 = .ok (.ireturn, 1) := by decide +kernel
theorem dL_law_718 : decode cL_law 718 = .ok (.aload_n 1, 1) := by decide +kernel
theorem dL_law_719 : decode cL_law 719 = .ok (.aload_n 0, 1) := by decide +kernel
theorem dL_law_720 : decode cL_law 720 = .ok (.iload_n 3, 1) := by decide +kernel
theorem dL_law_721 : decode cL_law 721 = .ok (.iconst 1, 1) := by decide +kernel
theorem dL_law_722 : decode cL_law 722 = .ok (.iadd, 1) := by decide +kernel
theorem dL_law_723 : decode cL_law 723 = .ok (.iaload, 1) := by decide +kernel
theorem dL_law_724 : decode cL_law 724 = .ok (.aload_n 0, 1) := by decide +kernel
theorem dL_law_725 : decode cL_law 725 = .ok (.iload_n 3, 1) := by decide +kernel
theorem dL_law_726 : decode cL_law 726 = .ok (.iconst 2, 1) := by decide +kernel
theorem dL_law_727 : decode cL_law 727 = .ok (.iadd, 1) := by decide +kernel
theorem dL_law_728 : decode cL_law 728 = .ok (.iaload, 1) := by decide +kernel
theorem dL_law_729 : decode cL_law 729 = .ok (.aload_n 0, 1) := by decide +kernel
theorem dL_law_730 : decode cL_law 730 = .ok (.iload_n 3, 1) := by decide +kernel
theorem dL_law_731 : decode cL_law 731 = .ok (.iconst 3, 1) := by decide +kernel
theorem dL_law_732 : decode cL_law 732 = .ok (.iadd, 1) := by decide +kernel
theorem dL_law_733 : decode cL_law 733 = .ok (.iaload, 1) := by decide +kernel
theorem dL_law_734 : decode cL_law 734 = .ok (.aload_n 0, 1) := by decide +kernel
theorem dL_law_735 : decode cL_law 735 = .ok (.iload_n 3, 1) := by decide +kernel
theorem dL_law_736 : decode cL_law 736 = .ok (.iconst 4, 1) := by decide +kernel
theorem dL_law_737 : decode cL_law 737 = .ok (.iadd, 1) := by decide +kernel
theorem dL_law_738 : decode cL_law 738 = .ok (.iaload, 1) := by decide +kernel
theorem dL_law_739 : decode cL_law 739 = .ok (.ifCond .eq 7, 3) := by decide +kernel
theorem dL_law_742 : decode cL_law 742 = .ok (.iconst 1, 1) := by decide +kernel
theorem dL_law_743 : decode cL_law 743 = .ok (.goto 4, 3) := by decide +kernel
theorem dL_law_746 : decode cL_law 746 = .ok (.iconst 0, 1) := by decide +kernel
theorem dL_law_747 : decode cL_law 747 = .ok (.invokevirtual 71, 3) := by decide +kernel
theorem dL_law_750 : decode cL_law 750 = .ok (.aload_n 2, 1) := by decide +kernel
theorem dL_law_751 : decode cL_law 751 = .ok (.aload_n 0, 1) := by decide +kernel
theorem dL_law_752 : decode cL_law 752 = .ok (.iload_n 3, 1) := by decide +kernel
theorem dL_law_753 : decode cL_law 753 = .ok (.iconst 1, 1) := by decide +kernel
theorem dL_law_754 : decode cL_law 754 = .ok (.iadd, 1) := by decide +kernel
theorem dL_law_755 : decode cL_law 755 = .ok (.iaload, 1) := by decide +kernel
theorem dL_law_756 : decode cL_law 756 = .ok (.aload_n 0, 1) := by decide +kernel
theorem dL_law_757 : decode cL_law 757 = .ok (.iload_n 3, 1) := by decide +kernel
theorem dL_law_758 : decode cL_law 758 = .ok (.iconst 2, 1) := by decide +kernel
theorem dL_law_759 : decode cL_law 759 = .ok (.iadd, 1) := by decide +kernel
theorem dL_law_760 : decode cL_law 760 = .ok (.iaload, 1) := by decide +kernel
theorem dL_law_761 : decode cL_law 761 = .ok (.aload_n 0, 1) := by decide +kernel
theorem dL_law_762 : decode cL_law 762 = .ok (.iload_n 3, 1) := by decide +kernel
theorem dL_law_763 : decode cL_law 763 = .ok (.iconst 3, 1) := by decide +kernel
theorem dL_law_764 : decode cL_law 764 = .ok (.iadd, 1) := by decide +kernel
theorem dL_law_765 : decode cL_law 765 = .ok (.iaload, 1) := by decide +kernel
theorem dL_law_766 : decode cL_law 766 = .ok (.aload_n 0, 1) := by decide +kernel
theorem dL_law_767 : decode cL_law 767 = .ok (.iload_n 3, 1) := by decide +kernel
theorem dL_law_768 : decode cL_law 768 = .ok (.iconst 4, 1) := by decide +kernel
theorem dL_law_769 : decode cL_law 769 = .ok (.iadd, 1) := by decide +kernel
theorem dL_law_770 : decode cL_law 770 = .ok (.iaload, 1) := by decide +kernel
theorem dL_law_771 : decode cL_law 771 = .ok (.ifCond .eq 7, 3) := by decide +kernel
theorem dL_law_774 : decode cL_law 774 = .ok (.iconst 1, 1) := by decide +kernel
theorem dL_law_775 : decode cL_law 775 = .ok (.goto 4, 3) := by decide +kernel
theorem dL_law_778 : decode cL_law 778 = .ok (.iconst 0, 1) := by decide +kernel
theorem dL_law_779 : decode cL_law 779 = .ok (.invokevirtual 75, 3) := by decide +kernel
theorem dL_law_782 : decode cL_law 782 = .ok (.if_icmp .eq 246, 3) := by decide +kernel
theorem dL_law_785 : decode cL_law 785 = .ok (.iconst 0, 1) := by decide +kernel
theorem dL_law_786 : decode cL_law 786 = .ok (.ireturn, 1) := by decide +kernel
theorem dL_law_787 : decode cL_law 787 = .ok (.aload_n 1, 1) := by decide +kernel
theorem dL_law_788 : decode cL_law 788 = .ok (.aload_n 0, 1) := by decide +kernel
theorem dL_law_789 : decode cL_law 789 = .ok (.iload_n 3, 1) := by decide +kernel
theorem dL_law_790 : decode cL_law 790 = .ok (.iconst 1, 1) := by decide +kernel
theorem dL_law_791 : decode cL_law 791 = .ok (.iadd, 1) := by decide +kernel
theorem dL_law_792 : decode cL_law 792 = .ok (.iaload, 1) := by decide +kernel
theorem dL_law_793 : decode cL_law 793 = .ok (.aload_n 0, 1) := by decide +kernel
theorem dL_law_794 : decode cL_law 794 = .ok (.iload_n 3, 1) := by decide +kernel
theorem dL_law_795 : decode cL_law 795 = .ok (.iconst 2, 1) := by decide +kernel
theorem dL_law_796 : decode cL_law 796 = .ok (.iadd, 1) := by decide +kernel
theorem dL_law_797 : decode cL_law 797 = .ok (.iaload, 1) := by decide +kernel
theorem dL_law_798 : decode cL_law 798 = .ok (.aload_n 0, 1) := by decide +kernel
theorem dL_law_799 : decode cL_law 799 = .ok (.iload_n 3, 1) := by decide +kernel
theorem dL_law_800 : decode cL_law 800 = .ok (.iconst 3, 1) := by decide +kernel
theorem dL_law_801 : decode cL_law 801 = .ok (.iadd, 1) := by decide +kernel
theorem dL_law_802 : decode cL_law 802 = .ok (.iaload, 1) := by decide +kernel
theorem dL_law_803 : decode cL_law 803 = .ok (.invokevirtual 76, 3) := by decide +kernel
theorem dL_law_806 : decode cL_law 806 = .ok (.aload_n 2, 1) := by decide +kernel
theorem dL_law_807 : decode cL_law 807 = .ok (.aload_n 0, 1) := by decide +kernel
theorem dL_law_808 : decode cL_law 808 = .ok (.iload_n 3, 1) := by decide +kernel
theorem dL_law_809 : decode cL_law 809 = .ok (.iconst 1, 1) := by decide +kernel
theorem dL_law_810 : decode cL_law 810 = .ok (.iadd, 1) := by decide +kernel
theorem dL_law_811 : decode cL_law 811 = .ok (.iaload, 1) := by decide +kernel
theorem dL_law_812 : decode cL_law 812 = .ok (.aload_n 0, 1) := by decide +kernel
theorem dL_law_813 : decode cL_law 813 = .ok (.iload_n 3, 1) := by decide +kernel
theorem dL_law_814 : decode cL_law 814 = .ok (.iconst 2, 1) := by decide +kernel
theorem dL_law_815 : decode cL_law 815 = .ok (.iadd, 1) := by decide +kernel
theorem dL_law_816 : decode cL_law 816 = .ok (.iaload, 1) := by decide +kernel
theorem dL_law_817 : decode cL_law 817 = .ok (.aload_n 0, 1) := by decide +kernel
theorem dL_law_818 : decode cL_law 818 = .ok (.iload_n 3, 1) := by decide +kernel
theorem dL_law_819 : decode cL_law 819 = .ok (.iconst 3, 1) := by decide +kernel
theorem dL_law_820 : decode cL_law 820 = .ok (.iadd, 1) := by decide +kernel
theorem dL_law_821 : decode cL_law 821 = .ok (.iaload, 1) := by decide +kernel
theorem dL_law_822 : decode cL_law 822 = .ok (.invokevirtual 79, 3) := by decide +kernel
theorem dL_law_825 : decode cL_law 825 = .ok (.if_icmp .eq 203, 3) := by decide +kernel
theorem dL_law_828 : decode cL_law 828 = .ok (.iconst 0, 1) := by decide +kernel
theorem dL_law_829 : decode cL_law 829 = .ok (.ireturn, 1) := by decide +kernel
theorem dL_law_830 : decode cL_law 830 = .ok (.aload_n 1, 1) := by decide +kernel
theorem dL_law_831 : decode cL_law 831 = .ok (.aload_n 0, 1) := by decide +kernel
theorem dL_law_832 : decode cL_law 832 = .ok (.iload_n 3, 1) := by decide +kernel
theorem dL_law_833 : decode cL_law 833 = .ok (.iconst 1, 1) := by decide +kernel
theorem dL_law_834 : decode cL_law 834 = .ok (.iadd, 1) := by decide +kernel
theorem dL_law_835 : decode cL_law 835 = .ok (.iaload, 1) := by decide +kernel
theorem dL_law_836 : decode cL_law 836 = .ok (.aload_n 0, 1) := by decide +kernel
theorem dL_law_837 : decode cL_law 837 = .ok (.iload_n 3, 1) := by decide +kernel
theorem dL_law_838 : decode cL_law 838 = .ok (.iconst 2, 1) := by decide +kernel
theorem dL_law_839 : decode cL_law 839 = .ok (.iadd, 1) := by decide +kernel
theorem dL_law_840 : decode cL_law 840 = .ok (.iaload, 1) := by decide +kernel
theorem dL_law_841 : decode cL_law 841 = .ok (.aload_n 0, 1) := by decide +kernel
theorem dL_law_842 : decode cL_law 842 = .ok (.iload_n 3, 1) := by decide +kernel
theorem dL_law_843 : decode cL_law 843 = .ok (.iconst 3, 1) := by decide +kernel
theorem dL_law_844 : decode cL_law 844 = .ok (.iadd, 1) := by decide +kernel
theorem dL_law_845 : decode cL_law 845 = .ok (.iaload, 1) := by decide +kernel
theorem dL_law_846 : decode cL_law 846 = .ok (.aload_n 0, 1) := by decide +kernel
theorem dL_law_847 : decode cL_law 847 = .ok (.iload_n 3, 1) := by decide +kernel
theorem dL_law_848 : decode cL_law 848 = .ok (.iconst 4, 1) := by decide +kernel
theorem dL_law_849 : decode cL_law 849 = .ok (.iadd, 1) := by decide +kernel
theorem dL_law_850 : decode cL_law 850 = .ok (.iaload, 1) := by decide +kernel
theorem dL_law_851 : decode cL_law 851 = .ok (.aload_n 0, 1) := by decide +kernel
theorem dL_law_852 : decode cL_law 852 = .ok (.iload_n 3, 1) := by decide +kernel
theorem dL_law_853 : decode cL_law 853 = .ok (.iconst 5, 1) := by decide +kernel
theorem dL_law_854 : decode cL_law 854 = .ok (.iadd, 1) := by decide +kernel
theorem dL_law_855 : decode cL_law 855 = .ok (.iaload, 1) := by decide +kernel
theorem dL_law_856 : decode cL_law 856 = .ok (.invokevirtual 80, 3) := by decide +kernel
theorem dL_law_859 : decode cL_law 859 = .ok (.aload_n 2, 1) := by decide +kernel
theorem dL_law_860 : decode cL_law 860 = .ok (.aload_n 0, 1) := by decide +kernel
theorem dL_law_861 : decode cL_law 861 = .ok (.iload_n 3, 1) := by decide +kernel
theorem dL_law_862 : decode cL_law 862 = .ok (.iconst 1, 1) := by decide +kernel
theorem dL_law_863 : decode cL_law 863 = .ok (.iadd, 1) := by decide +kernel
theorem dL_law_864 : decode cL_law 864 = .ok (.iaload, 1) := by decide +kernel
theorem dL_law_865 : decode cL_law 865 = .ok (.aload_n 0, 1) := by decide +kernel
theorem dL_law_866 : decode cL_law 866 = .ok (.iload_n 3, 1) := by decide +kernel
theorem dL_law_867 : decode cL_law 867 = .ok (.iconst 2, 1) := by decide +kernel
theorem dL_law_868 : decode cL_law 868 = .ok (.iadd, 1) := by decide +kernel
theorem dL_law_869 : decode cL_law 869 = .ok (.iaload, 1) := by decide +kernel
theorem dL_law_870 : decode cL_law 870 = .ok (.aload_n 0, 1) := by decide +kernel
theorem dL_law_871 : decode cL_law 871 = .ok (.iload_n 3, 1) := by decide +kernel
theorem dL_law_872 : decode cL_law 872 = .ok (.iconst 3, 1) := by decide +kernel
theorem dL_law_873 : decode cL_law 873 = .ok (.iadd, 1) := by decide +kernel
theorem dL_law_874 : decode cL_law 874 = .ok (.iaload, 1) := by decide +kernel
theorem dL_law_875 : decode cL_law 875 = .ok (.aload_n 0, 1) := by decide +kernel
theorem dL_law_876 : decode cL_law 876 = .ok (.iload_n 3, 1) := by decide +kernel
theorem dL_law_877 : decode cL_law 877 = .ok (.iconst 4, 1) := by decide +kernel
theorem dL_law_878 : decode cL_law 878 = .ok (.iadd, 1) := by decide +kernel
theorem dL_law_879 : decode cL_law 879 = .ok (.iaload, 1) := by decide +kernel
theorem dL_law_880 : decode cL_law 880 = .ok (.aload_n 0, 1) := by decide +kernel
theorem dL_law_881 : decode cL_law 881 = .ok (.iload_n 3, 1) := by decide +kernel
theorem dL_law_882 : decode cL_law 882 = .ok (.iconst 5, 1) := by decide +kernel
theorem dL_law_883 : decode cL_law 883 = .ok (.iadd, 1) := by decide +kernel
theorem dL_law_884 : decode cL_law 884 = .ok (.iaload, 1) := by decide +kernel
theorem dL_law_885 : decode cL_law 885 = .ok (.invokevirtual 83, 3) := by decide +kernel
theorem dL_law_888 : decode cL_law 888 = .ok (.if_icmp .eq 140, 3) := by decide +kernel
theorem dL_law_891 : decode cL_law 891 = .ok (.iconst 0, 1) := by decide +kernel
theorem dL_law_892 : decode cL_law 892 = .ok (.ireturn, 1) := by decide +kernel
theorem dL_law_893 : decode cL_law 893 = .ok (.aload_n 1, 1) := by decide +kernel
theorem dL_law_894 : decode cL_law 894 = .ok (.aload_n 0, 1) := by decide +kernel
theorem dL_law_895 : decode cL_law 895 = .ok (.iload_n 3, 1) := by decide +kernel
theorem dL_law_896 : decode cL_law 896 = .ok (.iconst 1, 1) := by decide +kernel
theorem dL_law_897 : decode cL_law 897 = .ok (.iadd, 1) := by decide +kernel
theorem dL_law_898 : decode cL_law 898 = .ok (.iaload, 1) := by decide +kernel
theorem dL_law_899 : decode cL_law 899 = .ok (.aload_n 0, 1) := by decide +kernel
theorem dL_law_900 : decode cL_law 900 = .ok (.iload_n 3, 1) := by decide +kernel
theorem dL_law_901 : decode cL_law 901 = .ok (.iconst 2, 1) := by decide +kernel
theorem dL_law_902 : decode cL_law 902 = .ok (.iadd, 1) := by decide +kernel
theorem dL_law_903 : decode cL_law 903 = .ok (.iaload, 1) := by decide +kernel
theorem dL_law_904 : decode cL_law 904 = .ok (.aload_n 0, 1) := by decide +kernel
theorem dL_law_905 : decode cL_law 905 = .ok (.iload_n 3, 1) := by decide +kernel
theorem dL_law_906 : decode cL_law 906 = .ok (.iconst 3, 1) := by decide +kernel
theorem dL_law_907 : decode cL_law 907 = .ok (.iadd, 1) := by decide +kernel
theorem dL_law_908 : decode cL_law 908 = .ok (.iaload, 1) := by decide +kernel
theorem dL_law_909 : decode cL_law 909 = .ok (.invokevirtual 84, 3) := by decide +kernel
theorem dL_law_912 : decode cL_law 912 = .ok (.aload_n 2, 1) := by decide +kernel
theorem dL_law_913 : decode cL_law 913 = .ok (.aload_n 0, 1) := by decide +kernel
theorem dL_law_914 : decode cL_law 914 = .ok (.iload_n 3, 1) := by decide +kernel
theorem dL_law_915 : decode cL_law 915 = .ok (.iconst 1, 1) := by decide +kernel
theorem dL_law_916 : decode cL_law 916 = .ok (.iadd, 1) := by decide +kernel
theorem dL_law_917 : decode cL_law 917 = .ok (.iaload, 1) := by decide +kernel
theorem dL_law_918 : decode cL_law 918 = .ok (.aload_n 0, 1) := by decide +kernel
theorem dL_law_919 : decode cL_law 919 = .ok (.iload_n 3, 1) := by decide +kernel
theorem dL_law_920 : decode cL_law 920 = .ok (.iconst 2, 1) := by decide +kernel
theorem dL_law_921 : decode cL_law 921 = .ok (.iadd, 1) := by decide +kernel
theorem dL_law_922 : decode cL_law 922 = .ok (.iaload, 1) := by decide +kernel
theorem dL_law_923 : decode cL_law 923 = .ok (.aload_n 0, 1) := by decide +kernel
theorem dL_law_924 : decode cL_law 924 = .ok (.iload_n 3, 1) := by decide +kernel
theorem dL_law_925 : decode cL_law 925 = .ok (.iconst 3, 1) := by decide +kernel
theorem dL_law_926 : decode cL_law 926 = .ok (.iadd, 1) := by decide +kernel
theorem dL_law_927 : decode cL_law 927 = .ok (.iaload, 1) := by decide +kernel
theorem dL_law_928 : decode cL_law 928 = .ok (.invokevirtual 87, 3) := by decide +kernel
theorem dL_law_931 : decode cL_law 931 = .ok (.if_icmp .eq 97, 3) := by decide +kernel
theorem dL_law_934 : decode cL_law 934 = .ok (.iconst 0, 1) := by decide +kernel
theorem dL_law_935 : decode cL_law 935 = .ok (.ireturn, 1) := by decide +kernel
theorem dL_law_936 : decode cL_law 936 = .ok (.aload_n 1, 1) := by decide +kernel
theorem dL_law_937 : decode cL_law 937 = .ok (.aload_n 0, 1) := by decide +kernel
theorem dL_law_938 : decode cL_law 938 = .ok (.iload_n 3, 1) := by decide +kernel
theorem dL_law_939 : decode cL_law 939 = .ok (.iconst 1, 1) := by decide +kernel
theorem dL_law_940 : decode cL_law 940 = .ok (.iadd, 1) := by decide +kernel
theorem dL_law_941 : decode cL_law 941 = .ok (.iaload, 1) := by decide +kernel
theorem dL_law_942 : decode cL_law 942 = .ok (.aload_n 0, 1) := by decide +kernel
theorem dL_law_943 : decode cL_law 943 = .ok (.iload_n 3, 1) := by decide +kernel
theorem dL_law_944 : decode cL_law 944 = .ok (.iconst 2, 1) := by decide +kernel
theorem dL_law_945 : decode cL_law 945 = .ok (.iadd, 1) := by decide +kernel
theorem dL_law_946 : decode cL_law 946 = .ok (.iaload, 1) := by decide +kernel
theorem dL_law_947 : decode cL_law 947 = .ok (.invokevirtual 88, 3) := by decide +kernel
theorem dL_law_950 : decode cL_law 950 = .ok (.aload_n 2, 1) := by decide +kernel
theorem dL_law_951 : decode cL_law 951 = .ok (.aload_n 0, 1) := by decide +kernel
theorem dL_law_952 : decode cL_law 952 = .ok (.iload_n 3, 1) := by decide +kernel
theorem dL_law_953 : decode cL_law 953 = .ok (.iconst 1, 1) := by decide +kernel
theorem dL_law_954 : decode cL_law 954 = .ok (.iadd, 1) := by decide +kernel
theorem dL_law_955 : decode cL_law 955 = .ok (.iaload, 1) := by decide +kernel
theorem dL_law_956 : decode cL_law 956 = .ok (.aload_n 0, 1) := by decide +kernel
theorem dL_law_957 : decode cL_law 957 = .ok (.iload_n 3, 1) := by decide +kernel
theorem dL_law_958 : decode cL_law 958 = .ok (.iconst 2, 1) := by decide +kernel
theorem dL_law_959 : decode cL_law 959 = .ok (.iadd, 1) := by decide +kernel
theorem dL_law_960 : decode cL_law 960 = .ok (.iaload, 1) := by decide +kernel
theorem dL_law_961 : decode cL_law 961 = .ok (.invokevirtual 91, 3) := by decide +kernel
theorem dL_law_964 : decode cL_law 964 = .ok (.if_icmp .eq 64, 3) := by decide +kernel
theorem dL_law_967 : decode cL_law 967 = .ok (.iconst 0, 1) := by decide +kernel
theorem dL_law_968 : decode cL_law 968 = .ok (.ireturn, 1) := by decide +kernel
theorem dL_law_969 : decode cL_law 969 = .ok (.aload_n 1, 1) := by decide +kernel
theorem dL_law_970 : decode cL_law 970 = .ok (.invokevirtual 92, 3) := by decide +kernel
theorem dL_law_973 : decode cL_law 973 = .ok (.aload_n 2, 1) := by decide +kernel
theorem dL_law_974 : decode cL_law 974 = .ok (.invokevirtual 96, 3) := by decide +kernel
theorem dL_law_977 : decode cL_law 977 = .ok (.if_icmp .eq 51, 3) := by decide +kernel
theorem dL_law_980 : decode cL_law 980 = .ok (.iconst 0, 1) := by decide +kernel
theorem dL_law_981 : decode cL_law 981 = .ok (.ireturn, 1) := by decide +kernel
theorem dL_law_982 : decode cL_law 982 = .ok (.aload_n 1, 1) := by decide +kernel
theorem dL_law_983 : decode cL_law 983 = .ok (.aload_n 0, 1) := by decide +kernel
theorem dL_law_984 : decode cL_law 984 = .ok (.iload_n 3, 1) := by decide +kernel
theorem dL_law_985 : decode cL_law 985 = .ok (.iconst 1, 1) := by decide +kernel
theorem dL_law_986 : decode cL_law 986 = .ok (.iadd, 1) := by decide +kernel
theorem dL_law_987 : decode cL_law 987 = .ok (.iaload, 1) := by decide +kernel
theorem dL_law_988 : decode cL_law 988 = .ok (.invokevirtual 97, 3) := by decide +kernel
theorem dL_law_991 : decode cL_law 991 = .ok (.aload_n 2, 1) := by decide +kernel
theorem dL_law_992 : decode cL_law 992 = .ok (.aload_n 0, 1) := by decide +kernel
theorem dL_law_993 : decode cL_law 993 = .ok (.iload_n 3, 1) := by decide +kernel
theorem dL_law_994 : decode cL_law 994 = .ok (.iconst 1, 1) := by decide +kernel
theorem dL_law_995 : decode cL_law 995 = .ok (.iadd, 1) := by decide +kernel
theorem dL_law_996 : decode cL_law 996 = .ok (.iaload, 1) := by decide +kernel
theorem dL_law_997 : decode cL_law 997 = .ok (.invokevirtual 100, 3) := by decide +kernel
theorem dL_law_1000 : decode cL_law 1000 = .ok (.if_icmp .eq 28, 3) := by decide +kernel
theorem dL_law_1003 : decode cL_law 1003 = .ok (.iconst 0, 1) := by decide +kernel
theorem dL_law_1004 : decode cL_law 1004 = .ok (.ireturn, 1) := by decide +kernel
theorem dL_law_1005 : decode cL_law 1005 = .ok (.aload_n 1, 1) := by decide +kernel
theorem dL_law_1006 : decode cL_law 1006 = .ok (.aload_n 0, 1) := by decide +kernel
theorem dL_law_1007 : decode cL_law 1007 = .ok (.iload_n 3, 1) := by decide +kernel
theorem dL_law_1008 : decode cL_law 1008 = .ok (.iconst 1, 1) := by decide +kernel
theorem dL_law_1009 : decode cL_law 1009 = .ok (.iadd, 1) := by decide +kernel
theorem dL_law_1010 : decode cL_law 1010 = .ok (.iaload, 1) := by decide +kernel
theorem dL_law_1011 : decode cL_law 1011 = .ok (.invokevirtual 101, 3) := by decide +kernel
theorem dL_law_1014 : decode cL_law 1014 = .ok (.aload_n 2, 1) := by decide +kernel
theorem dL_law_1015 : decode cL_law 1015 = .ok (.aload_n 0, 1) := by decide +kernel
theorem dL_law_1016 : decode cL_law 1016 = .ok (.iload_n 3, 1) := by decide +kernel
theorem dL_law_1017 : decode cL_law 1017 = .ok (.iconst 1, 1) := by decide +kernel
theorem dL_law_1018 : decode cL_law 1018 = .ok (.iadd, 1) := by decide +kernel
theorem dL_law_1019 : decode cL_law 1019 = .ok (.iaload, 1) := by decide +kernel
theorem dL_law_1020 : decode cL_law 1020 = .ok (.invokevirtual 104, 3) := by decide +kernel
theorem dL_law_1023 : decode cL_law 1023 = .ok (.if_icmp .eq 5, 3) := by decide +kernel
theorem dL_law_1026 : decode cL_law 1026 = .ok (.iconst 0, 1) := by decide +kernel
theorem dL_law_1027 : decode cL_law 1027 = .ok (.ireturn, 1) := by decide +kernel
theorem dL_law_1028 : decode cL_law 1028 = .ok (.iinc 3 7, 3) := by decide +kernel
theorem dL_law_1031 : decode cL_law 1031 = .ok (.goto (-1013), 3) := by decide +kernel
theorem dL_law_1034 : decode cL_law 1034 = .ok (.iconst 1, 1) := by decide +kernel
theorem dL_law_1035 : decode cL_law 1035 = .ok (.ireturn, 1) := by decide +kernel
end
section
/-! The pure machine's words: memory by places, the world that it stands for, and a row for each instruction over it. -/
abbrev Mem : Type := (Nat → Nat → Int32) × (Nat → Nat → Int64)
def up2 {α : Type} (f : Nat → Nat → α) (a j : Nat) (v : α) : Nat → Nat → α := fun b i => if b = a ∧ i = j then v else f b i
def sI (μ : Mem) (a j : Nat) (v : Int32) : Mem := (up2 μ.1 a j v, μ.2)
def sJ (μ : Mem) (a j : Nat) (v : Int64) : Mem := (μ.1, up2 μ.2 a j v)
def cpI (μ : Mem) (a sp b dp n : Nat) : Mem := (fun x => if x = b then va_cpy (μ.1 a) (μ.1 b) sp dp n else μ.1 x, μ.2)
def inb (i : Int32) (n : Nat) : Bool := !(decide (i < 0) || decide (n ≤ i.toNatClampNeg))
theorem inb_in {i : Int32} {n : Nat} (h : inb i n = true) : vp_in i n := by
  unfold inb at h; unfold vp_in; simpa using h
theorem inb_of {i : Int32} {n : Nat} (h : vp_in i n) : inb i n = true := by
  unfold vp_in at h; unfold inb; simpa using h
def rI (μ : Mem) (n a : Nat) (i : Int32) : Option Int32 := if inb i n = true then some (μ.1 a i.toNatClampNeg) else none
def wI (μ : Mem) (n a : Nat) (i : Int32) (v : Int32) : Option Mem := if inb i n = true then some (sI μ a i.toNatClampNeg v) else none
def rJ (μ : Mem) (n a : Nat) (i : Int32) : Option Int64 := if inb i n = true then some (μ.2 a i.toNatClampNeg) else none
def wJ (μ : Mem) (n a : Nat) (i : Int32) (v : Int64) : Option Mem := if inb i n = true then some (sJ μ a i.toNatClampNeg v) else none
def rR (n : Nat) (i : Int32) : Option Nat := if inb i n = true then some i.toNatClampNeg else none
def cpA (μ : Mem) (n0 a : Nat) (sp : Int32) (n1 b : Nat) (dp n : Int32) : Option Mem := if ¬ sp < 0 ∧ ¬ dp < 0 ∧ ¬ n < 0 ∧ sp.toNatClampNeg + n.toNatClampNeg ≤ n0 ∧ dp.toNatClampNeg + n.toNatClampNeg ≤ n1 then some (cpI μ a sp.toNatClampNeg b dp.toNatClampNeg n.toNatClampNeg) else none
def iMax (x y : Int32) : Int32 := if x < y then y else x
def iMin (x y : Int32) : Int32 := if y < x then y else x
def iAbs (x : Int32) : Int32 := if 0 ≤ x then x else 0 - x
def iUsh (x y : Int32) : Int32 := (x.toUInt32 >>> (y.toUInt32 &&& Int32.toUInt32 31)).toInt32
def lCmp (x y : Int64) : Int32 := if x < y then -1 else if x = y then 0 else 1
theorem ob {α β : Type} {o : Option α} {f : α → Option β} {r : β} (h : o.bind f = some r) : ∃ v, o = some v ∧ f v = some r := by
  cases o with
  | none => cases h
  | some v => exact ⟨v, rfl, h⟩
-- layout: how many places, the kind of each, an array's length, where references lead
abbrev Ly : Type := Nat × (Nat → Nat) × (Nat → Nat) × (Nat → Nat → Nat)
abbrev Ev : Type := (Nat → Nat) × va_G × (Nat → ClassId) × Ly
abbrev evA (V : Ev) : Nat → Nat := V.1
abbrev evD (V : Ev) : va_G := V.2.1
abbrev evC (V : Ev) : Nat → ClassId := V.2.2.1
abbrev evN (V : Ev) : Nat := V.2.2.2.1
abbrev evK (V : Ev) : Nat → Nat := V.2.2.2.2.1
abbrev evL (V : Ev) : Nat → Nat := V.2.2.2.2.2.1
abbrev evR (V : Ev) : Nat → Nat → Nat := V.2.2.2.2.2.2
def nfL : List Nat := vwCl.map (fun q => q.2.2)
def nf (k : Nat) : Nat := nfL.getD k 0
def isRefD (d : String) : Bool := !(d == "I" || d == "Z")
def rbL : List (List Bool) := vwCl.map (fun q => (List.range q.2.2).map (fun j => isRefD (q.2.1 j).2.2.1))
def rb (k j : Nat) : Bool := (rbL.getD k []).getD j false
def encF (V : Ev) (μ : Mem) (a j : Nat) : Value := if rb (evK V a) j = true then .ref (evA V (evR V a j)) else .int (μ.1 a j)
def enc (V : Ev) (μ : Mem) (a : Nat) : va_E :=
  if evK V a < 11 then .inr (evK V a, (List.range (nf (evK V a))).map (encF V μ a))
  else if evK V a = 11 then .inl (evC V 11, evL V a, .inl (μ.1 a))
  else if evK V a = 12 then .inl (evC V 12, evL V a, .inr (.inl (μ.2 a)))
  else .inl (evC V (evK V a), evL V a, .inr (.inr (.inr (.inr (fun i => some (evA V (evR V a i)))))))
def wl (V : Ev) (μ : Mem) : va_W := (List.range (evN V)).map (fun a => (evA V a, enc V μ a))
theorem wl_get {V : Ev} {μ : Mem} {a : Nat} (h : a < evN V) : (wl V μ)[a]? = some (evA V a, enc V μ a) := by
  unfold wl; rw [List.getElem?_map, List.getElem?_range h]; rfl
theorem wl_set {V : Ev} {μ μ2 : Mem} {a : Nat} {e : va_E} (h : a < evN V) (he : enc V μ2 a = e) (ho : ∀ b, b ≠ a → enc V μ2 b = enc V μ b) : (wl V μ).set a (evA V a, e) = wl V μ2 := by
  apply List.ext_getElem?
  intro i
  have hlen : a < (wl V μ).length := by unfold wl; simpa using h
  by_cases hi : i = a
  · subst hi
    rw [List.getElem?_set_self hlen, wl_get h, he]
  · rw [List.getElem?_set_ne (Ne.symm hi)]
    unfold wl
    rw [List.getElem?_map, List.getElem?_map]
    by_cases hn : i < evN V
    · rw [List.getElem?_range hn]; simp only [Option.map_some]; rw [ho i hi]
    · rw [List.getElem?_eq_none (by simpa using hn)]; rfl
theorem enc_obj {V : Ev} {μ : Mem} {a k : Nat} (h : evK V a = k) (hk : k < 11) : enc V μ a = .inr (k, (List.range (nf k)).map (encF V μ a)) := by
  subst h; unfold enc; rw [if_pos hk]
theorem enc_ai {V : Ev} {μ : Mem} {a n : Nat} (h : evK V a = 11) (hn : evL V a = n) : enc V μ a = .inl (evC V 11, n, .inl (μ.1 a)) := by
  subst hn; unfold enc; rw [h]; rfl
theorem enc_aj {V : Ev} {μ : Mem} {a n : Nat} (h : evK V a = 12) (hn : evL V a = n) : enc V μ a = .inl (evC V 12, n, .inr (.inl (μ.2 a))) := by
  subst hn; unfold enc; rw [h]; rfl
theorem enc_ar {V : Ev} {μ : Mem} {a k n : Nat} (h : evK V a = k) (hk : 12 < k) (hn : evL V a = n) : enc V μ a = .inl (evC V k, n, .inr (.inr (.inr (.inr (fun i => some (evA V (evR V a i))))))) := by
  subst hn; subst h; unfold enc; rw [if_neg (by omega), if_neg (by omega), if_neg (by omega)]
theorem up2_ne {α : Type} {f : Nat → Nat → α} {a b j : Nat} {v : α} (h : b ≠ a) : up2 f a j v b = f b := by
  funext i; unfold up2; rw [if_neg (fun q => h q.1)]
theorem enc_sI_ne {V : Ev} {μ : Mem} {a b j : Nat} {v : Int32} (h : b ≠ a) : enc V (sI μ a j v) b = enc V μ b := by
  have e1 : (sI μ a j v).1 b = μ.1 b := up2_ne h
  have e3 : encF V (sI μ a j v) b = encF V μ b := by funext i; unfold encF; rw [e1]
  unfold enc; rw [e3, e1]; rfl
theorem enc_sJ_ne {V : Ev} {μ : Mem} {a b j : Nat} {v : Int64} (h : b ≠ a) : enc V (sJ μ a j v) b = enc V μ b := by
  have e1 : (sJ μ a j v).2 b = μ.2 b := up2_ne h
  have e3 : encF V (sJ μ a j v) b = encF V μ b := rfl
  unfold enc; rw [e3, e1]; rfl
theorem map_set {α : Type} {f g : Nat → α} {n j : Nat} {v : α} (hj : g j = v) (ho : ∀ i, i ≠ j → g i = f i) : ((List.range n).map f).set j v = (List.range n).map g := by
  apply List.ext_getElem?
  intro i
  by_cases hi : i = j
  · subst hi
    by_cases hn : i < n
    · rw [List.getElem?_set_self (by simpa using hn), List.getElem?_map, List.getElem?_range hn]; simp [hj]
    · rw [List.getElem?_eq_none (by simpa using hn), List.getElem?_eq_none (by simpa using hn)]
  · rw [List.getElem?_set_ne (Ne.symm hi), List.getElem?_map, List.getElem?_map]
    by_cases hn : i < n
    · rw [List.getElem?_range hn]; simp only [Option.map_some]; rw [ho i hi]
    · rw [List.getElem?_eq_none (by simpa using hn)]; rfl
theorem enc_sI_obj {V : Ev} {μ : Mem} {a j k : Nat} {v : Int32} (h : evK V a = k) (hk : k < 11) (hr : rb k j = false) : enc V (sI μ a j v) a = .inr (k, ((List.range (nf k)).map (encF V μ a)).set j (.int v)) := by
  rw [enc_obj h hk]
  subst h
  rw [map_set (g := encF V (sI μ a j v) a)]
  · unfold encF sI up2; rw [hr]; simp
  · intro i hi; unfold encF sI up2; simp [hi]
theorem enc_sI_ai {V : Ev} {μ : Mem} {a j n : Nat} {v : Int32} (h : evK V a = 11) (hn : evL V a = n) : enc V (sI μ a j v) a = .inl (evC V 11, n, .inl (upd (μ.1 a) j v)) := by
  rw [enc_ai h hn]
  have : (sI μ a j v).1 a = upd (μ.1 a) j v := by funext i; simp [sI, up2, upd]
  rw [this]
theorem enc_sJ_aj {V : Ev} {μ : Mem} {a j n : Nat} {v : Int64} (h : evK V a = 12) (hn : evL V a = n) : enc V (sJ μ a j v) a = .inl (evC V 12, n, .inr (.inl (vp_updL (μ.2 a) j v))) := by
  rw [enc_aj h hn]
  have : (sJ μ a j v).2 a = vp_updL (μ.2 a) j v := by funext i; simp [sJ, up2, vp_updL]
  rw [this]
theorem enc_cpI_ne {V : Ev} {μ : Mem} {a sp b dp n x : Nat} (h : x ≠ b) : enc V (cpI μ a sp b dp n) x = enc V μ x := by
  have e1 : (cpI μ a sp b dp n).1 x = μ.1 x := by unfold cpI; simp [h]
  have e3 : encF V (cpI μ a sp b dp n) x = encF V μ x := by funext i; unfold encF; rw [e1]
  unfold enc; rw [e3, e1]; rfl
theorem enc_cpI_ai {V : Ev} {μ : Mem} {a sp b dp n m : Nat} (h : evK V b = 11) (hn : evL V b = m) : enc V (cpI μ a sp b dp n) b = .inl (evC V 11, m, .inl (va_cpy (μ.1 a) (μ.1 b) sp dp n)) := by
  rw [enc_ai h hn]
  have : (cpI μ a sp b dp n).1 b = va_cpy (μ.1 a) (μ.1 b) sp dp n := by unfold cpI; simp
  rw [this]
end
section
def TT : List Cond := lw_tbl.filter goodWord
theorem TTm {w : Cond} (h : w ∈ lw_tbl) (g : goodWord w = true) : w ∈ TT := List.mem_filter.mpr ⟨h, g⟩
theorem TTin {ws : List Cond} (h : ws.all (fun w => decide (w ∈ lw_tbl) && goodWord w) = true) : ∀ w ∈ ws, w ∈ TT := fun w hw => by
  have h1 := List.all_eq_true.mp h w hw
  simp only [Bool.and_eq_true, decide_eq_true_eq] at h1
  exact TTm h1.1 h1.2
/-- the links of a nest mate's private methods -/
def nestL : List (String × Nat × MethodName) := [(RX1, 22, yX9_isFrom), (RX3, 38, yX9_isFrom), (RX6, 58, yX9_isFrom), (RX7, 19, yX9_isFrom), (RX8, 32, yX9_isFrom), (RX9, 9, yX7_init), (RX0, 11, yX1_init), (RX4, 28, yX3_init), (RX6, 11, yX1_init), (RX8, 25, yX2_init), (RX8, 31, yX0_init)]
def NW (U : State) : Prop := ∀ q ∈ nestL, va_Nw (.methodLinkNest q.1 q.2.1 q.2.2 RX9) U
theorem NW.warm {s U : State} (hW : s.WarmedH U.vm) (h : NW s) : NW U := fun q hq => va_Nw.warmM hW (h q hq)
theorem NW.same {s U : State} (hW : s.vm = U.vm) (h : NW s) : NW U := fun q hq => va_Nw.same rfl hW (h q hq)
def rm (d : Nat) : Room := { frames := d, cells := 0, slots := 0, locals := 40 * d }
def tysV (V : Ev) : List (ClassId × FieldType) := [(evC V 11, .int), (evC V 12, .long), (evC V 13, .object RX0), (evC V 14, .object RX3), (evC V 15, .object RX4)]
abbrev Cx : Type := Program × Launch × Env × Room × State × MethodId × Array Value × List Frame × Method × Code × Nat × Ev × (Nat → Prop) × (State → Prop)
abbrev xp (X : Cx) : Program := X.1
abbrev xl (X : Cx) : Launch := X.2.1
abbrev xe (X : Cx) : Env := X.2.2.1
abbrev xR (X : Cx) : Room := X.2.2.2.1
abbrev xs (X : Cx) : State := X.2.2.2.2.1
abbrev xm (X : Cx) : MethodId := X.2.2.2.2.2.1
abbrev xa (X : Cx) : Array Value := X.2.2.2.2.2.2.1
abbrev xb (X : Cx) : List Frame := X.2.2.2.2.2.2.2.1
abbrev xme (X : Cx) : Method := X.2.2.2.2.2.2.2.2.1
abbrev xc (X : Cx) : Code := X.2.2.2.2.2.2.2.2.2.1
abbrev xn (X : Cx) : Nat := X.2.2.2.2.2.2.2.2.2.2.1
abbrev xV (X : Cx) : Ev := X.2.2.2.2.2.2.2.2.2.2.2.1
abbrev xA (X : Cx) : Nat → Prop := X.2.2.2.2.2.2.2.2.2.2.2.2.1
abbrev xQ (X : Cx) : State → Prop := X.2.2.2.2.2.2.2.2.2.2.2.2.2
/-- from this frame, with this memory behind it, the machine comes to Q -/
def Gd (X : Cx) (pc : Nat) (lv : List (Nat × Value)) (st : List Value) (μ : Mem) : Prop :=
  ∀ (H : Heap) (locs : List Loc) (ls : Array Slot), va_P (evD (xV X)) vwCl (wl (xV X) μ) H → va_D (xA X) (wl (xV X) μ) → va_S (xA X) (xs X).heap H locs → lv_has ls (xn X) lv → W (xp X) (xl X) (xe X) (xR X) (xs X) (xm X) (xa X) (xb X) (xme X) (xc X) H locs 0 0 (xQ X) (F0 (xm X) pc ls st)
/-- what stands fast in a walk -/
def Fx (X : Cx) (cc : ByteArray) (own : String) (d : Nat) : Prop :=
  (xp X).tables.exec = Jvm.exec ∧ (xc X).code = cc ∧ (xc X).maxLocals = xn X ∧ (xs X).vm.findClass own = some (xm X).cls ∧ (∀ w ∈ TT, w.before (xa X) (xs X) = true) ∧ va_K (evD (xV X)) vwCl (tysV (xV X)) (xs X) ∧ (∀ q, (xs X).heap.size ≤ q → xA X q) ∧ (∀ a, evK (xV X) a < 16 → a < evN (xV X)) ∧ (∀ a, a < evN (xV X) → xA X (evA (xV X) a)) ∧ xR X = rm d ∧ (xme X).locks = false ∧ NW (xs X)
section
variable {X : Cx} {cc : ByteArray} {own : String} {d pc : Nat} {lv lv' : List (Nat × Value)} {st : List Value} {μ : Mem}
theorem so_sub (ks : List Nat) (hl : lv_pick lv ks = lv') (h : Gd X pc lv' st μ) : Gd X pc lv st μ := fun H locs ls hP hD hS hv => h H locs ls hP hD hS (lv_sub hv ks hl)
theorem so_iconst (hX : Fx X cc own d) {n : Int} {v : Int32} (dg : decode cc pc = .ok (.iconst n, 1)) (hv1 : Int32.ofInt n = v) (h : Gd X (pc + 1) lv (.int v :: st) μ) : Gd X pc lv (st) μ := fun H locs ls hP hD hS hv => lv_iconst hX.1 hX.2.1 dg hv1 (h H locs ls hP hD hS hv)
theorem so_bipush (hX : Fx X cc own d) {n : Int} {v : Int32} (dg : decode cc pc = .ok (.bipush n, 2)) (hv1 : (Int8.ofInt n).toInt32 = v) (h : Gd X (pc + 2) lv (.int v :: st) μ) : Gd X pc lv (st) μ := fun H locs ls hP hD hS hv => lv_bipush hX.1 hX.2.1 dg hv1 (h H locs ls hP hD hS hv)
theorem so_sipush (hX : Fx X cc own d) {n : Int} {v : Int32} (dg : decode cc pc = .ok (.sipush n, 3)) (hv1 : (Int16.ofInt n).toInt32 = v) (h : Gd X (pc + 3) lv (.int v :: st) μ) : Gd X pc lv (st) μ := fun H locs ls hP hD hS hv => lv_sipush hX.1 hX.2.1 dg hv1 (h H locs ls hP hD hS hv)
theorem so_lconst (hX : Fx X cc own d) {n : Fin 2} {v : Int64} (dg : decode cc pc = .ok (.lconst n, 1)) (hv1 : Int64.ofNat (n : Nat) = v) (h : Gd X (pc + 1) lv (.long v :: st) μ) : Gd X pc lv (st) μ := fun H locs ls hP hD hS hv => lv_lconst hX.1 hX.2.1 dg hv1 (h H locs ls hP hD hS hv)
theorem so_null (hX : Fx X cc own d)  (dg : decode cc pc = .ok (.aconst_null, 1))  (h : Gd X (pc + 1) lv (.null :: st) μ) : Gd X pc lv (st) μ := fun H locs ls hP hD hS hv => lv_null hX.1 hX.2.1 dg  (h H locs ls hP hD hS hv)
theorem so_iload_n (hX : Fx X cc own d) {k : Fin 4} {x : Int32} (dg : decode cc pc = .ok (.iload_n k, 1)) (q : Nat) (hq : lv[q]? = some ((k : Nat), .int x)) (h : Gd X (pc + 1) lv (.int x :: st) μ) : Gd X pc lv (st) μ := fun H locs ls hP hD hS hv => lv_iload_n hX.1 hX.2.1 dg rfl (lv_at hv q hq) (h H locs ls hP hD hS hv)
theorem so_iload (hX : Fx X cc own d) {i : Nat} {x : Int32} (dg : decode cc pc = .ok (.iload i, 2)) (q : Nat) (hq : lv[q]? = some (i, .int x)) (h : Gd X (pc + 2) lv (.int x :: st) μ) : Gd X pc lv (st) μ := fun H locs ls hP hD hS hv => lv_iload hX.1 hX.2.1 dg (lv_at hv q hq) (h H locs ls hP hD hS hv)
theorem so_istore (hX : Fx X cc own d) {i : Nat} {x : Int32} (dg : decode cc pc = .ok (.istore i, 2)) (lv2 : List (Nat × Value)) (hn : i < xn X) (hl : (i, Value.int x) :: lv.filter (fun q => !(q.1 == i) && !(q.1 + 1 == i && q.2.category == 2)) = lv2) (h : Gd X (pc + 2) lv2 st μ) : Gd X pc lv (.int x :: st) μ := fun H locs ls hP hD hS hv => lv_istore hX.1 hX.2.1 dg hv hn hl (fun ls2 hv2 => h H locs ls2 hP hD hS hv2)
theorem so_istore_n (hX : Fx X cc own d) {k : Fin 4} {x : Int32} (dg : decode cc pc = .ok (.istore_n k, 1)) (lv2 : List (Nat × Value)) (hn : (k : Nat) < xn X) (hl : ((k : Nat), Value.int x) :: lv.filter (fun q => !(q.1 == (k : Nat)) && !(q.1 + 1 == (k : Nat) && q.2.category == 2)) = lv2) (h : Gd X (pc + 1) lv2 st μ) : Gd X pc lv (.int x :: st) μ := fun H locs ls hP hD hS hv => lv_istore_n hX.1 hX.2.1 dg rfl hv hn hl (fun ls2 hv2 => h H locs ls2 hP hD hS hv2)
theorem so_lload_n (hX : Fx X cc own d) {k : Fin 4} {x : Int64} (dg : decode cc pc = .ok (.lload_n k, 1)) (q : Nat) (hq : lv[q]? = some ((k : Nat), .long x)) (h : Gd X (pc + 1) lv (.long x :: st) μ) : Gd X pc lv (st) μ := fun H locs ls hP hD hS hv => lv_lload_n hX.1 hX.2.1 dg rfl (lv_at hv q hq) (h H locs ls hP hD hS hv)
theorem so_lload (hX : Fx X cc own d) {i : Nat} {x : Int64} (dg : decode cc pc = .ok (.lload i, 2)) (q : Nat) (hq : lv[q]? = some (i, .long x)) (h : Gd X (pc + 2) lv (.long x :: st) μ) : Gd X pc lv (st) μ := fun H locs ls hP hD hS hv => lv_lload hX.1 hX.2.1 dg (lv_at hv q hq) (h H locs ls hP hD hS hv)
theorem so_lstore (hX : Fx X cc own d) {i : Nat} {x : Int64} (dg : decode cc pc = .ok (.lstore i, 2)) (lv2 : List (Nat × Value)) (hn : i + 1 < xn X) (hl : (i, Value.long x) :: lv.filter (fun q => !(q.1 == i) && (!(q.1 == i + 1) && !(q.1 + 1 == i && q.2.category == 2))) = lv2) (h : Gd X (pc + 2) lv2 st μ) : Gd X pc lv (.long x :: st) μ := fun H locs ls hP hD hS hv => lv_lstore hX.1 hX.2.1 dg hv hn hl (fun ls2 hv2 => h H locs ls2 hP hD hS hv2)
theorem so_lstore_n (hX : Fx X cc own d) {k : Fin 4} {x : Int64} (dg : decode cc pc = .ok (.lstore_n k, 1)) (lv2 : List (Nat × Value)) (hn : (k : Nat) + 1 < xn X) (hl : ((k : Nat), Value.long x) :: lv.filter (fun q => !(q.1 == (k : Nat)) && (!(q.1 == (k : Nat) + 1) && !(q.1 + 1 == (k : Nat) && q.2.category == 2))) = lv2) (h : Gd X (pc + 1) lv2 st μ) : Gd X pc lv (.long x :: st) μ := fun H locs ls hP hD hS hv => lv_lstore_n hX.1 hX.2.1 dg rfl hv hn hl (fun ls2 hv2 => h H locs ls2 hP hD hS hv2)
theorem so_aload_n (hX : Fx X cc own d) {k : Fin 4} {x : Nat} (dg : decode cc pc = .ok (.aload_n k, 1)) (q : Nat) (hq : lv[q]? = some ((k : Nat), .ref x)) (h : Gd X (pc + 1) lv (.ref x :: st) μ) : Gd X pc lv (st) μ := fun H locs ls hP hD hS hv => lv_aload_n hX.1 hX.2.1 dg rfl (lv_at hv q hq) (h H locs ls hP hD hS hv)
theorem so_aload (hX : Fx X cc own d) {i : Nat} {x : Nat} (dg : decode cc pc = .ok (.aload i, 2)) (q : Nat) (hq : lv[q]? = some (i, .ref x)) (h : Gd X (pc + 2) lv (.ref x :: st) μ) : Gd X pc lv (st) μ := fun H locs ls hP hD hS hv => lv_aload hX.1 hX.2.1 dg (lv_at hv q hq) (h H locs ls hP hD hS hv)
theorem so_astore (hX : Fx X cc own d) {i : Nat} {x : Nat} (dg : decode cc pc = .ok (.astore i, 2)) (lv2 : List (Nat × Value)) (hn : i < xn X) (hl : (i, Value.ref x) :: lv.filter (fun q => !(q.1 == i) && !(q.1 + 1 == i && q.2.category == 2)) = lv2) (h : Gd X (pc + 2) lv2 st μ) : Gd X pc lv (.ref x :: st) μ := fun H locs ls hP hD hS hv => lv_astore hX.1 hX.2.1 dg hv hn hl (fun ls2 hv2 => h H locs ls2 hP hD hS hv2)
theorem so_astore_n (hX : Fx X cc own d) {k : Fin 4} {x : Nat} (dg : decode cc pc = .ok (.astore_n k, 1)) (lv2 : List (Nat × Value)) (hn : (k : Nat) < xn X) (hl : ((k : Nat), Value.ref x) :: lv.filter (fun q => !(q.1 == (k : Nat)) && !(q.1 + 1 == (k : Nat) && q.2.category == 2)) = lv2) (h : Gd X (pc + 1) lv2 st μ) : Gd X pc lv (.ref x :: st) μ := fun H locs ls hP hD hS hv => lv_astore_n hX.1 hX.2.1 dg rfl hv hn hl (fun ls2 hv2 => h H locs ls2 hP hD hS hv2)
theorem so_aload_nN (hX : Fx X cc own d) {k : Fin 4} (dg : decode cc pc = .ok (.aload_n k, 1)) (q : Nat) (hq : lv[q]? = some ((k : Nat), .null)) (h : Gd X (pc + 1) lv (.null :: st) μ) : Gd X pc lv (st) μ := fun H locs ls hP hD hS hv => lv_aload_nN hX.1 hX.2.1 dg rfl (lv_at hv q hq) (h H locs ls hP hD hS hv)
theorem so_aloadN (hX : Fx X cc own d) {i : Nat} (dg : decode cc pc = .ok (.aload i, 2)) (q : Nat) (hq : lv[q]? = some (i, .null)) (h : Gd X (pc + 2) lv (.null :: st) μ) : Gd X pc lv (st) μ := fun H locs ls hP hD hS hv => lv_aloadN hX.1 hX.2.1 dg (lv_at hv q hq) (h H locs ls hP hD hS hv)
theorem so_astoreN (hX : Fx X cc own d) {i : Nat} (dg : decode cc pc = .ok (.astore i, 2)) (lv2 : List (Nat × Value)) (hn : i < xn X) (hl : (i, Value.null) :: lv.filter (fun q => !(q.1 == i) && !(q.1 + 1 == i && q.2.category == 2)) = lv2) (h : Gd X (pc + 2) lv2 st μ) : Gd X pc lv (.null :: st) μ := fun H locs ls hP hD hS hv => lv_astoreN hX.1 hX.2.1 dg hv hn hl (fun ls2 hv2 => h H locs ls2 hP hD hS hv2)
theorem so_astore_nN (hX : Fx X cc own d) {k : Fin 4} (dg : decode cc pc = .ok (.astore_n k, 1)) (lv2 : List (Nat × Value)) (hn : (k : Nat) < xn X) (hl : ((k : Nat), Value.null) :: lv.filter (fun q => !(q.1 == (k : Nat)) && !(q.1 + 1 == (k : Nat) && q.2.category == 2)) = lv2) (h : Gd X (pc + 1) lv2 st μ) : Gd X pc lv (.null :: st) μ := fun H locs ls hP hD hS hv => lv_astore_nN hX.1 hX.2.1 dg rfl hv hn hl (fun ls2 hv2 => h H locs ls2 hP hD hS hv2)
theorem so_iinc (hX : Fx X cc own d) {i : Nat} {n : Int} {x : Int32} (dg : decode cc pc = .ok (.iinc i n, 3)) (q : Nat) (v : Int32) (lv2 : List (Nat × Value)) (hq : lv[q]? = some (i, .int x)) (hv1 : Int32.ofInt n = v) (hn : i < xn X) (hl : (i, Value.int (x + v)) :: lv.filter (fun q => !(q.1 == i) && !(q.1 + 1 == i && q.2.category == 2)) = lv2) (h : Gd X (pc + 3) lv2 st μ) : Gd X pc lv st μ := fun H locs ls hP hD hS hv => lv_iinc hX.1 hX.2.1 dg hv hq (by rw [hv1]) hn hl (fun ls2 hv2 => h H locs ls2 hP hD hS hv2)
theorem so_iadd (hX : Fx X cc own d) {x y : Int32} (dg : decode cc pc = .ok (.iadd, 1))  (h : Gd X (pc + 1) lv (.int (x + y) :: st) μ) : Gd X pc lv (.int y :: .int x :: st) μ := fun H locs ls hP hD hS hv => lv_iadd hX.1 hX.2.1 dg  (h H locs ls hP hD hS hv)
theorem so_isub (hX : Fx X cc own d) {x y : Int32} (dg : decode cc pc = .ok (.isub, 1))  (h : Gd X (pc + 1) lv (.int (x - y) :: st) μ) : Gd X pc lv (.int y :: .int x :: st) μ := fun H locs ls hP hD hS hv => lv_isub hX.1 hX.2.1 dg  (h H locs ls hP hD hS hv)
theorem so_imul (hX : Fx X cc own d) {x y : Int32} (dg : decode cc pc = .ok (.imul, 1))  (h : Gd X (pc + 1) lv (.int (x * y) :: st) μ) : Gd X pc lv (.int y :: .int x :: st) μ := fun H locs ls hP hD hS hv => lv_imul hX.1 hX.2.1 dg  (h H locs ls hP hD hS hv)
theorem so_iand (hX : Fx X cc own d) {x y : Int32} (dg : decode cc pc = .ok (.iand, 1))  (h : Gd X (pc + 1) lv (.int (x &&& y) :: st) μ) : Gd X pc lv (.int y :: .int x :: st) μ := fun H locs ls hP hD hS hv => lv_iand hX.1 hX.2.1 dg  (h H locs ls hP hD hS hv)
theorem so_ior (hX : Fx X cc own d) {x y : Int32} (dg : decode cc pc = .ok (.ior, 1))  (h : Gd X (pc + 1) lv (.int (x ||| y) :: st) μ) : Gd X pc lv (.int y :: .int x :: st) μ := fun H locs ls hP hD hS hv => lv_ior hX.1 hX.2.1 dg  (h H locs ls hP hD hS hv)
theorem so_ixor (hX : Fx X cc own d) {x y : Int32} (dg : decode cc pc = .ok (.ixor, 1))  (h : Gd X (pc + 1) lv (.int (x ^^^ y) :: st) μ) : Gd X pc lv (.int y :: .int x :: st) μ := fun H locs ls hP hD hS hv => lv_ixor hX.1 hX.2.1 dg  (h H locs ls hP hD hS hv)
theorem so_ishl (hX : Fx X cc own d) {x y : Int32} (dg : decode cc pc = .ok (.ishl, 1))  (h : Gd X (pc + 1) lv (.int (x <<< (y &&& 31)) :: st) μ) : Gd X pc lv (.int y :: .int x :: st) μ := fun H locs ls hP hD hS hv => lv_ishl hX.1 hX.2.1 dg  (h H locs ls hP hD hS hv)
theorem so_ishr (hX : Fx X cc own d) {x y : Int32} (dg : decode cc pc = .ok (.ishr, 1))  (h : Gd X (pc + 1) lv (.int (x >>> (y &&& 31)) :: st) μ) : Gd X pc lv (.int y :: .int x :: st) μ := fun H locs ls hP hD hS hv => lv_ishr hX.1 hX.2.1 dg  (h H locs ls hP hD hS hv)
theorem so_idiv (hX : Fx X cc own d) {x y : Int32} (dg : decode cc pc = .ok (.idiv, 1)) (hne : ¬ y = 0) (h : Gd X (pc + 1) lv (.int (x / y) :: st) μ) : Gd X pc lv (.int y :: .int x :: st) μ := fun H locs ls hP hD hS hv => lv_idiv hX.1 hX.2.1 dg hne (h H locs ls hP hD hS hv)
theorem so_irem (hX : Fx X cc own d) {x y : Int32} (dg : decode cc pc = .ok (.irem, 1)) (hne : ¬ y = 0) (h : Gd X (pc + 1) lv (.int (x - x / y * y) :: st) μ) : Gd X pc lv (.int y :: .int x :: st) μ := fun H locs ls hP hD hS hv => lv_irem hX.1 hX.2.1 dg hne (h H locs ls hP hD hS hv)
theorem so_ineg (hX : Fx X cc own d) {x : Int32} (dg : decode cc pc = .ok (.ineg, 1))  (h : Gd X (pc + 1) lv (.int (0 - x) :: st) μ) : Gd X pc lv (.int x :: st) μ := fun H locs ls hP hD hS hv => lv_ineg hX.1 hX.2.1 dg  (h H locs ls hP hD hS hv)
theorem so_iushr (hX : Fx X cc own d) {x y : Int32} (dg : decode cc pc = .ok (.iushr, 1))  (h : Gd X (pc + 1) lv (.int (iUsh x y) :: st) μ) : Gd X pc lv (.int y :: .int x :: st) μ := fun H locs ls hP hD hS hv => lv_iushr hX.1 hX.2.1 dg rfl (h H locs ls hP hD hS hv)
theorem so_ladd (hX : Fx X cc own d) {x y : Int64} (dg : decode cc pc = .ok (.ladd, 1))  (h : Gd X (pc + 1) lv (.long (x + y) :: st) μ) : Gd X pc lv (.long y :: .long x :: st) μ := fun H locs ls hP hD hS hv => lv_ladd hX.1 hX.2.1 dg  (h H locs ls hP hD hS hv)
theorem so_lsub (hX : Fx X cc own d) {x y : Int64} (dg : decode cc pc = .ok (.lsub, 1))  (h : Gd X (pc + 1) lv (.long (x - y) :: st) μ) : Gd X pc lv (.long y :: .long x :: st) μ := fun H locs ls hP hD hS hv => lv_lsub hX.1 hX.2.1 dg  (h H locs ls hP hD hS hv)
theorem so_lmul (hX : Fx X cc own d) {x y : Int64} (dg : decode cc pc = .ok (.lmul, 1))  (h : Gd X (pc + 1) lv (.long (x * y) :: st) μ) : Gd X pc lv (.long y :: .long x :: st) μ := fun H locs ls hP hD hS hv => lv_lmul hX.1 hX.2.1 dg  (h H locs ls hP hD hS hv)
theorem so_land (hX : Fx X cc own d) {x y : Int64} (dg : decode cc pc = .ok (.land, 1))  (h : Gd X (pc + 1) lv (.long (x &&& y) :: st) μ) : Gd X pc lv (.long y :: .long x :: st) μ := fun H locs ls hP hD hS hv => lv_land hX.1 hX.2.1 dg  (h H locs ls hP hD hS hv)
theorem so_lor (hX : Fx X cc own d) {x y : Int64} (dg : decode cc pc = .ok (.lor, 1))  (h : Gd X (pc + 1) lv (.long (x ||| y) :: st) μ) : Gd X pc lv (.long y :: .long x :: st) μ := fun H locs ls hP hD hS hv => lv_lor hX.1 hX.2.1 dg  (h H locs ls hP hD hS hv)
theorem so_lxor (hX : Fx X cc own d) {x y : Int64} (dg : decode cc pc = .ok (.lxor, 1))  (h : Gd X (pc + 1) lv (.long (x ^^^ y) :: st) μ) : Gd X pc lv (.long y :: .long x :: st) μ := fun H locs ls hP hD hS hv => lv_lxor hX.1 hX.2.1 dg  (h H locs ls hP hD hS hv)
theorem so_lshl (hX : Fx X cc own d) {x : Int64} {y : Int32} (dg : decode cc pc = .ok (.lshl, 1))  (h : Gd X (pc + 1) lv (.long (x <<< (y.toInt64 &&& 63)) :: st) μ) : Gd X pc lv (.int y :: .long x :: st) μ := fun H locs ls hP hD hS hv => lv_lshl hX.1 hX.2.1 dg rfl (h H locs ls hP hD hS hv)
theorem so_i2l (hX : Fx X cc own d) {x : Int32} (dg : decode cc pc = .ok (.i2l, 1))  (h : Gd X (pc + 1) lv (.long x.toInt64 :: st) μ) : Gd X pc lv (.int x :: st) μ := fun H locs ls hP hD hS hv => lv_i2l hX.1 hX.2.1 dg rfl (h H locs ls hP hD hS hv)
theorem so_l2i (hX : Fx X cc own d) {x : Int64} (dg : decode cc pc = .ok (.l2i, 1))  (h : Gd X (pc + 1) lv (.int x.toInt32 :: st) μ) : Gd X pc lv (.long x :: st) μ := fun H locs ls hP hD hS hv => lv_l2i hX.1 hX.2.1 dg rfl (h H locs ls hP hD hS hv)
theorem so_lcmp (hX : Fx X cc own d) {x y : Int64} (dg : decode cc pc = .ok (.lcmp, 1))  (h : Gd X (pc + 1) lv (.int (lg_cmp x y) :: st) μ) : Gd X pc lv (.long y :: .long x :: st) μ := fun H locs ls hP hD hS hv => W.lcmp hX.1 hX.2.1 dg  (h H locs ls hP hD hS hv)
theorem so_dup (hX : Fx X cc own d) {va : Value} (dg : decode cc pc = .ok (.dup, 1)) (hc : va.category = 1) (h : Gd X (pc + 1) lv (va :: va :: st) μ) : Gd X pc lv (va :: st) μ := fun H locs ls hP hD hS hv => lv_dup hX.1 hX.2.1 dg hc (h H locs ls hP hD hS hv)
theorem so_pop (hX : Fx X cc own d) {va : Value} (dg : decode cc pc = .ok (.pop, 1)) (hc : va.category = 1) (h : Gd X (pc + 1) lv (st) μ) : Gd X pc lv (va :: st) μ := fun H locs ls hP hD hS hv => lv_pop hX.1 hX.2.1 dg hc (h H locs ls hP hD hS hv)
theorem so_dup2 (hX : Fx X cc own d) {va vb : Value} (dg : decode cc pc = .ok (.dup2, 1)) (hc : va.category = 1) (hc2 : vb.category = 1) (h : Gd X (pc + 1) lv (va :: vb :: va :: vb :: st) μ) : Gd X pc lv (va :: vb :: st) μ := fun H locs ls hP hD hS hv => lv_dup2_11 hX.1 hX.2.1 dg hc hc2 (h H locs ls hP hD hS hv)
theorem so_if_eq (hX : Fx X cc own d) {x : Int32} {off : Int} (tgt : Nat) (dg : decode cc pc = .ok (.ifCond .eq off, 3)) (ht : (pc : Int) + off = (tgt : Int)) (kt : x = 0 → Gd X tgt lv st μ) (kf : ¬ (x = 0) → Gd X (pc + 3) lv st μ) : Gd X pc lv (.int x :: st) μ := fun H locs ls hP hD hS hv => lv_if_eq hX.1 hX.2.1 dg ht (fun z => kt z H locs ls hP hD hS hv) (fun z => kf z H locs ls hP hD hS hv)
theorem so_icmp_eq (hX : Fx X cc own d) {x y : Int32} {off : Int} (tgt : Nat) (dg : decode cc pc = .ok (.if_icmp .eq off, 3)) (ht : (pc : Int) + off = (tgt : Int)) (kt : x = y → Gd X tgt lv st μ) (kf : ¬ (x = y) → Gd X (pc + 3) lv st μ) : Gd X pc lv (.int y :: .int x :: st) μ := fun H locs ls hP hD hS hv => lv_icmp_eq hX.1 hX.2.1 dg ht (fun z => kt z H locs ls hP hD hS hv) (fun z => kf z H locs ls hP hD hS hv)
theorem so_if_ne (hX : Fx X cc own d) {x : Int32} {off : Int} (tgt : Nat) (dg : decode cc pc = .ok (.ifCond .ne off, 3)) (ht : (pc : Int) + off = (tgt : Int)) (kt : ¬ x = 0 → Gd X tgt lv st μ) (kf : x = 0 → Gd X (pc + 3) lv st μ) : Gd X pc lv (.int x :: st) μ := fun H locs ls hP hD hS hv => lv_if_ne hX.1 hX.2.1 dg ht (fun z => kt z H locs ls hP hD hS hv) (fun z => kf z H locs ls hP hD hS hv)
theorem so_icmp_ne (hX : Fx X cc own d) {x y : Int32} {off : Int} (tgt : Nat) (dg : decode cc pc = .ok (.if_icmp .ne off, 3)) (ht : (pc : Int) + off = (tgt : Int)) (kt : ¬ x = y → Gd X tgt lv st μ) (kf : x = y → Gd X (pc + 3) lv st μ) : Gd X pc lv (.int y :: .int x :: st) μ := fun H locs ls hP hD hS hv => lv_icmp_ne hX.1 hX.2.1 dg ht (fun z => kt z H locs ls hP hD hS hv) (fun z => kf z H locs ls hP hD hS hv)
theorem so_if_lt (hX : Fx X cc own d) {x : Int32} {off : Int} (tgt : Nat) (dg : decode cc pc = .ok (.ifCond .lt off, 3)) (ht : (pc : Int) + off = (tgt : Int)) (kt : x < 0 → Gd X tgt lv st μ) (kf : ¬ (x < 0) → Gd X (pc + 3) lv st μ) : Gd X pc lv (.int x :: st) μ := fun H locs ls hP hD hS hv => lv_if_lt hX.1 hX.2.1 dg ht (fun z => kt z H locs ls hP hD hS hv) (fun z => kf z H locs ls hP hD hS hv)
theorem so_icmp_lt (hX : Fx X cc own d) {x y : Int32} {off : Int} (tgt : Nat) (dg : decode cc pc = .ok (.if_icmp .lt off, 3)) (ht : (pc : Int) + off = (tgt : Int)) (kt : x < y → Gd X tgt lv st μ) (kf : ¬ (x < y) → Gd X (pc + 3) lv st μ) : Gd X pc lv (.int y :: .int x :: st) μ := fun H locs ls hP hD hS hv => lv_icmp_lt hX.1 hX.2.1 dg ht (fun z => kt z H locs ls hP hD hS hv) (fun z => kf z H locs ls hP hD hS hv)
theorem so_if_ge (hX : Fx X cc own d) {x : Int32} {off : Int} (tgt : Nat) (dg : decode cc pc = .ok (.ifCond .ge off, 3)) (ht : (pc : Int) + off = (tgt : Int)) (kt : 0 ≤ x → Gd X tgt lv st μ) (kf : ¬ (0 ≤ x) → Gd X (pc + 3) lv st μ) : Gd X pc lv (.int x :: st) μ := fun H locs ls hP hD hS hv => lv_if_ge hX.1 hX.2.1 dg ht (fun z => kt z H locs ls hP hD hS hv) (fun z => kf z H locs ls hP hD hS hv)
theorem so_icmp_ge (hX : Fx X cc own d) {x y : Int32} {off : Int} (tgt : Nat) (dg : decode cc pc = .ok (.if_icmp .ge off, 3)) (ht : (pc : Int) + off = (tgt : Int)) (kt : y ≤ x → Gd X tgt lv st μ) (kf : ¬ (y ≤ x) → Gd X (pc + 3) lv st μ) : Gd X pc lv (.int y :: .int x :: st) μ := fun H locs ls hP hD hS hv => lv_icmp_ge hX.1 hX.2.1 dg ht (fun z => kt z H locs ls hP hD hS hv) (fun z => kf z H locs ls hP hD hS hv)
theorem so_if_gt (hX : Fx X cc own d) {x : Int32} {off : Int} (tgt : Nat) (dg : decode cc pc = .ok (.ifCond .gt off, 3)) (ht : (pc : Int) + off = (tgt : Int)) (kt : 0 < x → Gd X tgt lv st μ) (kf : ¬ (0 < x) → Gd X (pc + 3) lv st μ) : Gd X pc lv (.int x :: st) μ := fun H locs ls hP hD hS hv => lv_if_gt hX.1 hX.2.1 dg ht (fun z => kt z H locs ls hP hD hS hv) (fun z => kf z H locs ls hP hD hS hv)
theorem so_icmp_gt (hX : Fx X cc own d) {x y : Int32} {off : Int} (tgt : Nat) (dg : decode cc pc = .ok (.if_icmp .gt off, 3)) (ht : (pc : Int) + off = (tgt : Int)) (kt : y < x → Gd X tgt lv st μ) (kf : ¬ (y < x) → Gd X (pc + 3) lv st μ) : Gd X pc lv (.int y :: .int x :: st) μ := fun H locs ls hP hD hS hv => lv_icmp_gt hX.1 hX.2.1 dg ht (fun z => kt z H locs ls hP hD hS hv) (fun z => kf z H locs ls hP hD hS hv)
theorem so_if_le (hX : Fx X cc own d) {x : Int32} {off : Int} (tgt : Nat) (dg : decode cc pc = .ok (.ifCond .le off, 3)) (ht : (pc : Int) + off = (tgt : Int)) (kt : x ≤ 0 → Gd X tgt lv st μ) (kf : ¬ (x ≤ 0) → Gd X (pc + 3) lv st μ) : Gd X pc lv (.int x :: st) μ := fun H locs ls hP hD hS hv => lv_if_le hX.1 hX.2.1 dg ht (fun z => kt z H locs ls hP hD hS hv) (fun z => kf z H locs ls hP hD hS hv)
theorem so_icmp_le (hX : Fx X cc own d) {x y : Int32} {off : Int} (tgt : Nat) (dg : decode cc pc = .ok (.if_icmp .le off, 3)) (ht : (pc : Int) + off = (tgt : Int)) (kt : x ≤ y → Gd X tgt lv st μ) (kf : ¬ (x ≤ y) → Gd X (pc + 3) lv st μ) : Gd X pc lv (.int y :: .int x :: st) μ := fun H locs ls hP hD hS hv => lv_icmp_le hX.1 hX.2.1 dg ht (fun z => kt z H locs ls hP hD hS hv) (fun z => kf z H locs ls hP hD hS hv)
theorem so_goto (hX : Fx X cc own d) {off : Int} (tgt : Nat) (dg : decode cc pc = .ok (.goto off, 3)) (ht : (pc : Int) + off = (tgt : Int)) (h : Gd X tgt lv st μ) : Gd X pc lv st μ := fun H locs ls hP hD hS hv => lv_goto hX.1 hX.2.1 dg ht (h H locs ls hP hD hS hv)
theorem so_ifnull (hX : Fx X cc own d) {x : Nat} {off : Int} (dg : decode cc pc = .ok (.ifnull off, 3)) (h : Gd X (pc + 3) lv st μ) : Gd X pc lv (.ref x :: st) μ := fun H locs ls hP hD hS hv => lv_ifnull hX.1 hX.2.1 dg (h H locs ls hP hD hS hv)
theorem so_ifnullN (hX : Fx X cc own d) {off : Int} (tgt : Nat) (dg : decode cc pc = .ok (.ifnull off, 3)) (ht : (pc : Int) + off = (tgt : Int)) (h : Gd X tgt lv st μ) : Gd X pc lv (.null :: st) μ := fun H locs ls hP hD hS hv => lv_ifnullN hX.1 hX.2.1 dg ht (h H locs ls hP hD hS hv)
theorem so_ifnonnull (hX : Fx X cc own d) {x : Nat} {off : Int} (tgt : Nat) (dg : decode cc pc = .ok (.ifnonnull off, 3)) (ht : (pc : Int) + off = (tgt : Int)) (h : Gd X tgt lv st μ) : Gd X pc lv (.ref x :: st) μ := fun H locs ls hP hD hS hv => lv_ifnonnull hX.1 hX.2.1 dg ht (h H locs ls hP hD hS hv)
theorem so_ifnonnullN (hX : Fx X cc own d) {off : Int} (dg : decode cc pc = .ok (.ifnonnull off, 3)) (h : Gd X (pc + 3) lv st μ) : Gd X pc lv (.null :: st) μ := fun H locs ls hP hD hS hv => lv_ifnonnullN hX.1 hX.2.1 dg (h H locs ls hP hD hS hv)
theorem so_tabIn (hX : Fx X cc own d) {dflt lo hi : Int} {offs : Array Int} {len : Nat} {x : Int32} {off : Int} (tgt : Nat) (dg : decode cc pc = .ok (.tableswitch dflt lo hi offs, len)) (h1 : ¬ x.toInt < lo) (h2 : ¬ hi < x.toInt) (ho : offs[(x.toInt - lo).toNat]? = some off) (ht : (pc : Int) + off = (tgt : Int)) (h : Gd X tgt lv st μ) : Gd X pc lv (.int x :: st) μ := fun H locs ls hP hD hS hv => lv_tableIn hX.1 hX.2.1 dg h1 h2 ho ht (h H locs ls hP hD hS hv)
theorem so_tabOut (hX : Fx X cc own d) {dflt lo hi : Int} {offs : Array Int} {len : Nat} {x : Int32} (tgt : Nat) (dg : decode cc pc = .ok (.tableswitch dflt lo hi offs, len)) (h1 : x.toInt < lo ∨ hi < x.toInt) (ht : (pc : Int) + dflt = (tgt : Int)) (h : Gd X tgt lv st μ) : Gd X pc lv (.int x :: st) μ := fun H locs ls hP hD hS hv => lv_tableOut hX.1 hX.2.1 dg h1 ht (h H locs ls hP hD hS hv)
/-- field j of class ci, by the pool's place index in own's file -/
def Fl (own : String) (index ci j : Nat) : Prop := ∃ (C : String) (T : u_T) (N : Nat), vwCl[ci]? = some (C, T, N) ∧ j < N ∧ (∀ w ∈ u_ws C T N, w ∈ TT) ∧ Cond.fieldLink own index (T j).1 (T j).2.1 (T j).2.2.1 ∈ TT
/-- field j of class ci may be written anywhere: not final, an int or a boolean -/
def Fw (ci j : Nat) (ty : FieldType) : Prop := ∃ (C : String) (T : u_T) (N : Nat) (ty0 : Nat → FieldType), vwCl[ci]? = some (C, T, N) ∧ (∀ k, k < N → parseFieldDescriptor (T k).2.2.1 = some (ty0 k)) ∧ (∀ a, a < N → ∀ b, b < N → a ≠ b → (T a).2.1 ≠ (T b).2.1) ∧ (T j).2.2.2 = false ∧ parseFieldDescriptor (T j).2.2.1 = some ty
theorem so_getI (hX : Fx X cc own d) {a index ci j : Nat} (dg : decode cc pc = .ok (.getfield index, 3)) (hf : Fl own index ci j) (hk : evK (xV X) a = ci) (hci : ci < 11) (hr : rb ci j = false) (hj : j < nf ci) (h : Gd X (pc + 3) lv (.int (μ.1 a j) :: st) μ) : Gd X pc lv (.ref (evA (xV X) a) :: st) μ := by
  intro H locs ls hP hD hS hv
  obtain ⟨C, T, N, h1, h2, h3, h4⟩ := hf
  have ha : a < evN (xV X) := hX.2.2.2.2.2.2.2.1 a (by omega)
  refine va_get (D := evD (xV X)) (ci := ci) (v := .int (μ.1 a j)) (C := C) (T := T) (N := N) hX.1 hX.2.1 hX.2.2.2.2.1 h3 hX.2.2.2.1 hX.2.2.2.2.2.1 hP a ((wl_get ha).trans (by rw [enc_obj hk hci])) h1 j h2 (hX.2.2.2.2.1 _ h4) (fun _ h9 => h9) ?_ dg (h H locs ls hP hD hS hv)
  rw [List.getElem?_map, List.getElem?_range hj]
  simp only [Option.map_some, encF, hk, hr]; rfl
theorem so_getR (hX : Fx X cc own d) {a index ci j : Nat} (b : Nat) (dg : decode cc pc = .ok (.getfield index, 3)) (hf : Fl own index ci j) (hk : evK (xV X) a = ci) (hci : ci < 11) (hr : rb ci j = true) (hj : j < nf ci) (hb : evR (xV X) a j = b) (h : Gd X (pc + 3) lv (.ref (evA (xV X) b) :: st) μ) : Gd X pc lv (.ref (evA (xV X) a) :: st) μ := by
  intro H locs ls hP hD hS hv
  obtain ⟨C, T, N, h1, h2, h3, h4⟩ := hf
  have ha : a < evN (xV X) := hX.2.2.2.2.2.2.2.1 a (by omega)
  refine va_get (D := evD (xV X)) (ci := ci) (v := .ref (evA (xV X) b)) (C := C) (T := T) (N := N) hX.1 hX.2.1 hX.2.2.2.2.1 h3 hX.2.2.2.1 hX.2.2.2.2.2.1 hP a ((wl_get ha).trans (by rw [enc_obj hk hci])) h1 j h2 (hX.2.2.2.2.1 _ h4) (fun _ h9 => h9) ?_ dg (h H locs ls hP hD hS hv)
  rw [List.getElem?_map, List.getElem?_range hj]
  simp only [Option.map_some, encF, hk, hr, hb]; rfl
theorem so_put (hX : Fx X cc own d) {a index ci j : Nat} {x : Int32} {ty : FieldType} (dg : decode cc pc = .ok (.putfield index, 3)) (hf : Fl own index ci j) (hw : Fw ci j ty) (hk : evK (xV X) a = ci) (hci : ci < 11) (hr : rb ci j = false) (hj : j < nf ci) (hn1 : narrow ty (.int x) = .int x) (hn2 : fits ty (.int x) = true) (h : Gd X (pc + 3) lv st (sI μ a j x)) : Gd X pc lv (.int x :: .ref (evA (xV X) a) :: st) μ := by
  intro H locs ls hP hD hS hv
  obtain ⟨C, T, N, h1, h2, h3, h4⟩ := hf
  obtain ⟨C2, T2, N2, ty0, g1, g2, g3, g4, g5⟩ := hw
  rw [h1] at g1; cases g1
  have ha : a < evN (xV X) := hX.2.2.2.2.2.2.2.1 a (by omega)
  refine va_put (D := evD (xV X)) (ci := ci) (v := .int x) (ty := ty) (C := C) (T := T) (N := N) hX.1 hX.2.1 hX.2.2.2.2.1 h3 ty0 g2 g3 hX.2.2.2.1 hX.2.2.2.2.2.1 hP hD hS a ((wl_get ha).trans (by rw [enc_obj hk hci])) h1 j h2 (hX.2.2.2.2.1 _ h4) (fun _ h9 => h9) g4 g5 hn1 hn2 (by simpa using hj) dg (fun H1 locs1 hP1 hD1 hS1 => ?_)
  rw [wl_set (μ2 := sI μ a j x) ha (enc_sI_obj hk hci hr) (fun b hb => enc_sI_ne hb)] at hP1 hD1
  exact h H1 locs1 ls hP1 hD1 hS1 hv
theorem so_iald (hX : Fx X cc own d) {a n : Nat} {i v : Int32} (dg : decode cc pc = .ok (.iaload, 1)) (hk : evK (xV X) a = 11) (hn : evL (xV X) a = n) (hr : rI μ n a i = some v) (h : Gd X (pc + 1) lv (.int v :: st) μ) : Gd X pc lv (.int i :: .ref (evA (xV X) a) :: st) μ := by
  intro H locs ls hP hD hS hv
  have ha : a < evN (xV X) := hX.2.2.2.2.2.2.2.1 a (by omega)
  unfold rI at hr
  by_cases hi : inb i n = true
  · rw [if_pos hi] at hr; cases hr
    exact va_iald hX.1 hX.2.1 hX.2.2.2.2.2.1 hP a 0 ((wl_get ha).trans (by rw [enc_ai hk hn])) rfl (inb_in hi) dg (h H locs ls hP hD hS hv)
  · rw [if_neg hi] at hr; cases hr
theorem so_lald (hX : Fx X cc own d) {a n : Nat} {i : Int32} {v : Int64} (dg : decode cc pc = .ok (.laload, 1)) (hk : evK (xV X) a = 12) (hn : evL (xV X) a = n) (hr : rJ μ n a i = some v) (h : Gd X (pc + 1) lv (.long v :: st) μ) : Gd X pc lv (.int i :: .ref (evA (xV X) a) :: st) μ := by
  intro H locs ls hP hD hS hv
  have ha : a < evN (xV X) := hX.2.2.2.2.2.2.2.1 a (by omega)
  unfold rJ at hr
  by_cases hi : inb i n = true
  · rw [if_pos hi] at hr; cases hr
    exact va_lald hX.1 hX.2.1 hX.2.2.2.2.2.1 hP a 1 ((wl_get ha).trans (by rw [enc_aj hk hn])) rfl (inb_in hi) dg (h H locs ls hP hD hS hv)
  · rw [if_neg hi] at hr; cases hr
theorem so_iast (hX : Fx X cc own d) {a n : Nat} {i x : Int32} {μ2 : Mem} (dg : decode cc pc = .ok (.iastore, 1)) (hk : evK (xV X) a = 11) (hn : evL (xV X) a = n) (hr : wI μ n a i x = some μ2) (h : Gd X (pc + 1) lv st μ2) : Gd X pc lv (.int x :: .int i :: .ref (evA (xV X) a) :: st) μ := by
  intro H locs ls hP hD hS hv
  have ha : a < evN (xV X) := hX.2.2.2.2.2.2.2.1 a (by omega)
  unfold wI at hr
  by_cases hi : inb i n = true
  · rw [if_pos hi] at hr; cases hr
    refine va_iast hX.1 hX.2.1 hX.2.2.2.2.2.1 hP hD hS a 0 ((wl_get ha).trans (by rw [enc_ai hk hn])) rfl (inb_in hi) dg (fun H1 locs1 hP1 hD1 hS1 => ?_)
    rw [wl_set (μ2 := sI μ a i.toNatClampNeg x) ha (enc_sI_ai hk hn) (fun b hb => enc_sI_ne hb)] at hP1 hD1
    exact h H1 locs1 ls hP1 hD1 hS1 hv
  · rw [if_neg hi] at hr; cases hr
theorem so_last (hX : Fx X cc own d) {a n : Nat} {i : Int32} {x : Int64} {μ2 : Mem} (dg : decode cc pc = .ok (.lastore, 1)) (hk : evK (xV X) a = 12) (hn : evL (xV X) a = n) (hr : wJ μ n a i x = some μ2) (h : Gd X (pc + 1) lv st μ2) : Gd X pc lv (.long x :: .int i :: .ref (evA (xV X) a) :: st) μ := by
  intro H locs ls hP hD hS hv
  have ha : a < evN (xV X) := hX.2.2.2.2.2.2.2.1 a (by omega)
  unfold wJ at hr
  by_cases hi : inb i n = true
  · rw [if_pos hi] at hr; cases hr
    refine va_last hX.1 hX.2.1 hX.2.2.2.2.2.1 hP hD hS a 1 ((wl_get ha).trans (by rw [enc_aj hk hn])) rfl (inb_in hi) dg (fun H1 locs1 hP1 hD1 hS1 => ?_)
    rw [wl_set (μ2 := sJ μ a i.toNatClampNeg x) ha (enc_sJ_aj hk hn) (fun b hb => enc_sJ_ne hb)] at hP1 hD1
    exact h H1 locs1 ls hP1 hD1 hS1 hv
  · rw [if_neg hi] at hr; cases hr
theorem so_aald (hX : Fx X cc own d) {a n k t0 j b : Nat} {C : String} {i : Int32} (dg : decode cc pc = .ok (.aaload, 1)) (hk : evK (xV X) a = k) (hk1 : 12 < k) (hk2 : k < 16) (hn : evL (xV X) a = n) (ht : (tysV (xV X))[t0]? = some (evC (xV X) k, .object C)) (hr : rR n i = some j) (hb : evR (xV X) a j = b) (h : Gd X (pc + 1) lv (.ref (evA (xV X) b) :: st) μ) : Gd X pc lv (.int i :: .ref (evA (xV X) a) :: st) μ := by
  intro H locs ls hP hD hS hv
  have ha : a < evN (xV X) := hX.2.2.2.2.2.2.2.1 a (by omega)
  unfold rR at hr
  by_cases hi : inb i n = true
  · rw [if_pos hi] at hr; cases hr; subst hb
    exact va_aldq (f := fun i => some (evA (xV X) (evR (xV X) a i))) hX.1 hX.2.1 hX.2.2.2.2.2.1 hP a t0 ((wl_get ha).trans (by rw [enc_ar hk hk1 hn])) ht (inb_in hi) dg (h H locs ls hP hD hS hv)
  · rw [if_neg hi] at hr; cases hr
theorem so_alenI (hX : Fx X cc own d) {a n : Nat} (dg : decode cc pc = .ok (.arraylength, 1)) (hk : evK (xV X) a = 11) (hn : evL (xV X) a = n) (h : Gd X (pc + 1) lv (.int (nI n) :: st) μ) : Gd X pc lv (.ref (evA (xV X) a) :: st) μ := by
  intro H locs ls hP hD hS hv
  have ha : a < evN (xV X) := hX.2.2.2.2.2.2.2.1 a (by omega)
  exact va_alen (x := (n, .inl (μ.1 a))) hX.1 hX.2.1 hX.2.2.2.2.2.1 hP a 0 ((wl_get ha).trans (by rw [enc_ai hk hn])) rfl rfl dg (h H locs ls hP hD hS hv)
theorem so_alenJ (hX : Fx X cc own d) {a n : Nat} (dg : decode cc pc = .ok (.arraylength, 1)) (hk : evK (xV X) a = 12) (hn : evL (xV X) a = n) (h : Gd X (pc + 1) lv (.int (nI n) :: st) μ) : Gd X pc lv (.ref (evA (xV X) a) :: st) μ := by
  intro H locs ls hP hD hS hv
  have ha : a < evN (xV X) := hX.2.2.2.2.2.2.2.1 a (by omega)
  exact va_alen (x := (n, .inr (.inl (μ.2 a)))) hX.1 hX.2.1 hX.2.2.2.2.2.1 hP a 1 ((wl_get ha).trans (by rw [enc_aj hk hn])) rfl rfl dg (h H locs ls hP hD hS hv)
end
end
section
/-! calls, returns, a method's start -/
def AA (V : Ev) (sz : Nat) : Nat → Prop := fun q => (∃ a, a < evN V ∧ q = evA V a) ∨ sz ≤ q
def vr (V : Ev) (o : Option Nat) : Value := match o with
  | none => .null
  | some k => .ref (evA V k)
theorem wl_D {V : Ev} {μ μ2 : Mem} {A : Nat → Prop} (h : va_D A (wl V μ)) : va_D A (wl V μ2) := by
  have key : ∀ (k : Nat) (q : Nat × va_E), (wl V μ2)[k]? = some q → ∃ q0 : Nat × va_E, (wl V μ)[k]? = some q0 ∧ q0.1 = q.1 := by
    intro k q hk
    by_cases hn : k < evN V
    · rw [wl_get hn] at hk; cases hk; exact ⟨_, wl_get hn, rfl⟩
    · unfold wl at hk; rw [List.getElem?_eq_none (by simpa using hn)] at hk; cases hk
  refine ⟨fun i j x y hi hj hxy => ?_, fun k q hk => ?_⟩
  · obtain ⟨x0, h1, h2⟩ := key i x hi
    obtain ⟨y0, h3, h4⟩ := key j y hj
    exact h.1 i j x0 y0 h1 h3 (h2.trans (hxy.trans h4.symm))
  · obtain ⟨q0, h1, h2⟩ := key k q hk
    rw [← h2]; exact h.2 k q0 h1
def Pct (V : Ev) (μ : Mem) (sz : Nat) : State → Prop := fun U => U.heap.size = sz ∧ va_P (evD V) vwCl (wl V μ) U.heap ∧ va_K (evD V) vwCl (tysV V) U ∧ va_D (fun _ => True) (wl V μ) ∧ NW U
def Qct (V : Ev) (sz : Nat) (μ2 : Mem) (rv : Option Value) : Array Value → State → Outcome → State → Prop := fun _ st oc t => oc = .returned rv ∧ va_P (evD V) vwCl (wl V μ2) t.heap ∧ va_F (AA V sz) st t
/-- a method's contract over memories: from μ, with these arguments, it returns rv and leaves μ2 -/
def CT (l : Launch) (V : Ev) (y : MethodName) (bytes : ByteArray) (maxL : Nat) (ret : Option FieldType) (d : Nat) (av : List Value) (μ μ2 : Mem) (rv : Option Value) : Prop :=
  ∀ sz, Met l y (Cond.code y bytes maxL ret :: TT) (rm d) (va_Pc av (Pct V μ sz)) (Qct V sz μ2 rv) 0 0 (AA V sz)
theorem TT_good : ∀ w ∈ TT, (w.onTables && w.keeps) = true ∨ ∃ ty, w = .arrayClass ty := fun w h => good_of_word (List.mem_filter.mp h).2
theorem gi_code {y : MethodName} {bytes : ByteArray} {maxL : Nat} {ret : Option FieldType} (h : Cond.code y bytes maxL ret ∈ TT) : GoodIn TT (Cond.code y bytes maxL ret :: TT) := fun w hw => by
  rcases List.mem_cons.mp hw with rfl | hw
  · exact ⟨h, TT_good _ h⟩
  · exact ⟨hw, TT_good _ hw⟩
/-- the words of a method of an object, of a static one -/
def Mw (y : MethodName) (bytes : ByteArray) (maxL : Nat) (ret : Option FieldType) (n : Nat) : Prop := Cond.initialized y.cls ∈ TT ∧ Cond.code y bytes maxL ret ∈ TT ∧ (y.cls ≠ "java/lang/invoke/MethodHandle" ∧ y.cls ≠ "java/lang/invoke/VarHandle" ∧ (parseMethodDescriptor y.desc).map (fun d => d.parameters.length) = some n)
def MwV (y : MethodName) : Prop := Cond.instanceMethod y ∈ TT ∧ Cond.selects y.cls y y ∈ TT
section
variable {X : Cx} {cc : ByteArray} {own : String} {d pc : Nat} {lv lv' : List (Nat × Value)} {st st0 rest As : List Value} {μ μ2 : Mem} {rv : Option Value}
theorem so_call (hX : Fx X cc own d) (a : Array Value) (hr : ∀ (H : Heap) (locs : List Loc) (ls : Array Slot), va_P (evD (xV X)) vwCl (wl (xV X) μ) H → va_D (xA X) (wl (xV X) μ) → lv_has ls (xn X) lv → va_Run (xp X) (xl X) (xe X) (xR X) (xs X) (xm X) (xa X) (xb X) (xme X) (xc X) H locs 0 0 0 0 (F0 (xm X) pc ls st0) rest (Qct (xV X) H.size μ2 rv a) (AA (xV X) H.size)) (h : Gd X (pc + 3) lv (rv.toList ++ rest) μ2) : Gd X pc lv st0 μ := by
  intro H locs ls hP hD hS hv T hT X1
  obtain ⟨v, st₀, t, T', L, h0, X2, hL, e1, e2, ⟨hv1, hP2, hz, hk⟩, st⟩ := hr H locs ls hP hD hv T hT X1
  cases hv1
  rw [h0] at hz hk
  have hAA : ∀ q, AA (xV X) H.size q → xA X q := by
    intro q hq
    rcases hq with ⟨a, ha, rfl⟩ | hq
    · exact hX.2.2.2.2.2.2.2.2.1 a ha
    · exact hX.2.2.2.2.2.2.1 q (Nat.le_trans hS.1 hq)
  obtain ⟨t2, a1, b1⟩ := h T'.heap (locs ++ L) ls (by rw [e1]; exact hP2) (wl_D hD) ⟨Nat.le_trans hS.1 (by rw [e1]; exact hz), fun q h1 h2 => by rw [e1, hk q (Nat.lt_of_lt_of_le h1 hS.1) (fun z => h2 (hAA q z))]; exact hS.2.1 q h1 h2, fun q hq => by
      rcases List.mem_append.mp hq with h | h
      · exact hS.2.2 q h
      · exact hAA _ (hL q h)⟩ hv T' rfl X2
  exact ⟨t2, st t2 a1, b1⟩
theorem pct_blind {V : Ev} {sz : Nat} {av : List Value} : FrameBlind (va_Pc av (Pct V μ sz)) := fun a U g mk q => by
  obtain ⟨q0, q1, qP, qK, qD, qN⟩ := q
  exact ⟨q0, q1, qP, va_K.moved (u := U) (U := U.calling g mk a) (Vm.Alike.refl U.vm) qK, qD, NW.same rfl qN⟩
theorem pct_at (hX : Fx X cc own d) {H : Heap} {av : List Value} (hP : va_P (evD (xV X)) vwCl (wl (xV X) μ) H) (hD : va_D (xA X) (wl (xV X) μ)) : ∀ U : State, U.heap = H → (xs X).WarmedH U.vm → va_Pc av (Pct (xV X) μ H.size) av.toArray U := fun U hU hW => ⟨rfl, by rw [hU], by rw [hU]; exact hP, va_K.moved hW.alike hX.2.2.2.2.2.1, hD.weaken (fun _ _ _ _ => trivial), NW.warm hW hX.2.2.2.2.2.2.2.2.2.2.2⟩
theorem so_callV (hX : Fx X cc own d) {b ci index n maxL dc : Nat} {y : MethodName} {bytes : ByteArray} {ret : Option FieldType} {q : vw_C} (dg : decode cc pc = .ok (.invokevirtual index, 3)) (hM : CT (xl X) (xV X) y bytes maxL ret dc (.ref (evA (xV X) b) :: As) μ μ2 rv) (hw : Mw y bytes maxL ret n) (hw2 : MwV y) (hl : Cond.methodLink own index y ∈ TT) (hk : evK (xV X) b = ci) (hci : ci < 11) (hq : vwCl[ci]? = some q) (hq1 : q.1 = y.cls) (hst : st0 = As.reverse ++ .ref (evA (xV X) b) :: rest) (hn : As.length = n) (hd : dc + 1 ≤ d) (hm : maxL ≤ 21) (hs : (rest.map fun v => v.category).sum ≤ 8) (h : Gd X (pc + 3) lv (rv.toList ++ rest) μ2) : Gd X pc lv st0 μ := by
  refine so_call hX (Value.ref (evA (xV X) b) :: As).toArray (fun H locs ls hP hD hv => ?_) h
  have hts := hX.2.2.2.2.1
  have hR := hX.2.2.2.2.2.2.2.2.2.1
  have ha : b < evN (xV X) := hX.2.2.2.2.2.2.2.1 b (by omega)
  obtain ⟨g1, g2, g3⟩ := hw
  refine va_runV (As := As) (rest := rest) (n := n) ⟨hX.1, hX.2.1, hX.2.2.1, hX.2.2.2.1, hts⟩ (hM H.size) ⟨callB_of n hts (gi_code g2) rfl rfl rfl (hts _ g1) (hts _ hl) g3 ?_, hts _ hw2.1, hts _ hw2.2⟩ ⟨pct_blind, ?_, pct_at hX hP hD⟩ rfl hn hv.1 hst (lv_room hs) dg ⟨by rw [hR]; exact Nat.zero_le _, by rw [hR]; exact Nat.zero_le _⟩
  · rw [hR]; unfold rm; exact ⟨hd, by show 8 + (maxL + 11) + 40 * dc ≤ 40 * d; omega⟩
  · rw [← hq1]
    exact va_recv hX.2.2.2.2.2.1 hP (ci := ci) (q0 := b) hq ((wl_get ha).trans (by rw [enc_obj hk hci]))
theorem so_callS (hX : Fx X cc own d) {index n maxL dc : Nat} {y : MethodName} {bytes : ByteArray} {ret : Option FieldType} (dg : decode cc pc = .ok (.invokestatic index, 3)) (hM : CT (xl X) (xV X) y bytes maxL ret dc As μ μ2 rv) (hw : Mw y bytes maxL ret n) (hw2 : Cond.static y ∈ TT) (hl : Cond.methodLink own index y ∈ TT) (hst : st0 = As.reverse ++ rest) (hn : As.length = n) (hd : dc + 1 ≤ d) (hm : maxL ≤ 21) (hs : (rest.map fun v => v.category).sum ≤ 8) (h : Gd X (pc + 3) lv (rv.toList ++ rest) μ2) : Gd X pc lv st0 μ := by
  refine so_call hX As.toArray (fun H locs ls hP hD hv => ?_) h
  have hts := hX.2.2.2.2.1
  have hR := hX.2.2.2.2.2.2.2.2.2.1
  obtain ⟨g1, g2, g3⟩ := hw
  refine va_runS (As := As) (rest := rest) (n := n) ⟨hX.1, hX.2.1, hX.2.2.1, hX.2.2.2.1, hts⟩ (hM H.size) ⟨callB_of n hts (gi_code g2) rfl rfl rfl (hts _ g1) (hts _ hl) g3 ?_, hts _ hw2⟩ ⟨pct_blind, pct_at hX hP hD⟩ rfl hn hv.1 hst (lv_room hs) dg ⟨by rw [hR]; exact Nat.zero_le _, by rw [hR]; exact Nat.zero_le _⟩
  rw [hR]; unfold rm; exact ⟨hd, by show 8 + (maxL + 11) + 40 * dc ≤ 40 * d; omega⟩
theorem so_callSN (hX : Fx X cc own d) {index n maxL dc : Nat} {y : MethodName} {bytes : ByteArray} {ret : Option FieldType} (dg : decode cc pc = .ok (.invokestatic index, 3)) (hM : CT (xl X) (xV X) y bytes maxL ret dc As μ μ2 rv) (hw : Mw y bytes maxL ret n) (hw2 : Cond.static y ∈ TT) (hl : (own, index, y) ∈ nestL) (hst : st0 = As.reverse ++ rest) (hn : As.length = n) (hd : dc + 1 ≤ d) (hm : maxL ≤ 21) (hs : (rest.map fun v => v.category).sum ≤ 8) (h : Gd X (pc + 3) lv (rv.toList ++ rest) μ2) : Gd X pc lv st0 μ := by
  refine so_call hX As.toArray (fun H locs ls hP hD hv => ?_) h
  have hts := hX.2.2.2.2.1
  have hR := hX.2.2.2.2.2.2.2.2.2.1
  obtain ⟨g1, g2, g3⟩ := hw
  refine va_runSN (host := RX9) (As := As) (rest := rest) (n := n) ⟨hX.1, hX.2.1, hX.2.2.1, hX.2.2.2.1, hts⟩ (hM H.size) ⟨va_cnB n hts (gi_code g2) rfl rfl rfl ?_ (hts _ g1) g3 ?_, hts _ hw2, trivial⟩ ⟨pct_blind, pct_at hX hP hD⟩ rfl hn hv.1 hst (lv_room hs) dg ⟨by rw [hR]; exact Nat.zero_le _, by rw [hR]; exact Nat.zero_le _⟩
  · exact hX.2.2.2.2.2.2.2.2.2.2.2 _ hl
  · rw [hR]; unfold rm; exact ⟨hd, by show 8 + (maxL + 11) + 40 * dc ≤ 40 * d; omega⟩
/-- what the walk's end must be -/
def Rt (X : Cx) (ret : Option FieldType) (μ2 : Mem) (rv : Option Value) : Prop := (xme X).sig.returnType = ret ∧ xA X = AA (xV X) (xs X).heap.size ∧ xQ X = MQ (xb X) (Qct (xV X) (xs X).heap.size μ2 rv) (xa X) (xs X) 0 0 (AA (xV X) (xs X).heap.size)
theorem rt_end {ret : Option FieldType} (hR : Rt X ret μ2 rv) {H : Heap} {locs : List Loc} (hP : va_P (evD (xV X)) vwCl (wl (xV X) μ2) H) (hS : va_S (xA X) (xs X).heap H locs) : ∀ t : State, t.heap = H → (xs X).WarmedH t.vm → Qct (xV X) (xs X).heap.size μ2 rv (xa X) (xs X) (.returned rv) t := fun t ht _ => by
  rw [hR.2.1] at hS
  exact ⟨rfl, by rw [ht]; exact hP, hS.F ht⟩
theorem so_iret (hX : Fx X cc own d) {v : Int32} {ty : FieldType} (hR : Rt X (some ty) μ (some (.int v))) (hn : narrow ty (.int v) = .int v) (dg : decode cc pc = .ok (.ireturn, 1)) : Gd X pc lv [.int v] μ := by
  intro H locs ls hP hD hS hv
  rw [hR.2.2]
  exact W.zret (hlocks := hX.2.2.2.2.2.2.2.2.2.2.1) hX.1 hX.2.1 hR.1 hn (rt_end hR hP hS) (by rw [hR.2.1] at hS; exact hS.2.2) dg
theorem so_lret (hX : Fx X cc own d) {v : Int64} (hR : Rt X (some .long) μ (some (.long v))) (dg : decode cc pc = .ok (.lreturn, 1)) : Gd X pc lv [.long v] μ := by
  intro H locs ls hP hD hS hv
  rw [hR.2.2]
  exact W.lret (hlocks := hX.2.2.2.2.2.2.2.2.2.2.1) hX.1 hX.2.1 hR.1 (rt_end hR hP hS) (by rw [hR.2.1] at hS; exact hS.2.2) dg
theorem so_vret (hX : Fx X cc own d) (hR : Rt X none μ none) (dg : decode cc pc = .ok (.return_, 1)) : Gd X pc lv [] μ := by
  intro H locs ls hP hD hS hv
  rw [hR.2.2]
  exact W.vret (hlocks := hX.2.2.2.2.2.2.2.2.2.2.1) hX.1 hX.2.1 hR.1 (rt_end hR hP hS) (by rw [hR.2.1] at hS; exact hS.2.2) dg
theorem so_aret (hX : Fx X cc own d) {C : String} {o : Option Nat} {v : Value} (hR : Rt X (some (.object C)) μ (some (vr (xV X) o))) (ho : vr (xV X) o = v) (dg : decode cc pc = .ok (.areturn, 1)) : Gd X pc lv [v] μ := by
  subst ho
  intro H locs ls hP hD hS hv
  rw [hR.2.2]
  exact W.aret (hlocks := hX.2.2.2.2.2.2.2.2.2.2.1) hX.1 hX.2.1 hR.1 (Or.inl ⟨C, rfl⟩) (by cases o with | none => exact Or.inl rfl | some k => exact Or.inr ⟨_, rfl⟩) (rt_end hR hP hS) (by rw [hR.2.1] at hS; exact hS.2.2) dg
theorem so_mmax (hX : Fx X cc own d) {index : Nat} {x y : Int32} (dg : decode cc pc = .ok (.invokestatic index, 3)) (hl : Cond.methodLink own index Lib.Math.max.name ∈ TT) (hd : 1 ≤ d) (hs : (st.map fun v => v.category).sum ≤ 8) (h : Gd X (pc + 3) lv (.int (iMax x y) :: st) μ) : Gd X pc lv (.int y :: .int x :: st) μ := by
  intro H locs ls hP hD hS hv
  have hts := hX.2.2.2.2.1
  have hR := hX.2.2.2.2.2.2.2.2.2.1
  exact va_mmax hX.1 hX.2.1 (hX.2.2.1.trans hv.1.symm) hX.2.2.2.1 (hts _ hl) (hts _ (by decide +kernel)) (hts _ (by decide +kernel)) (hts _ (by decide +kernel)) (by rw [hR]; exact hd) (by rw [hR]; show _ ≤ 40 * d; omega) (Nat.zero_le _) (Nat.zero_le _) dg (h H locs ls hP hD hS hv)
theorem so_mabs (hX : Fx X cc own d) {index : Nat} {x : Int32} (dg : decode cc pc = .ok (.invokestatic index, 3)) (hl : Cond.methodLink own index Lib.Math.abs.name ∈ TT) (hd : 1 ≤ d) (hs : (st.map fun v => v.category).sum ≤ 8) (h : Gd X (pc + 3) lv (.int (iAbs x) :: st) μ) : Gd X pc lv (.int x :: st) μ := by
  intro H locs ls hP hD hS hv
  have hts := hX.2.2.2.2.1
  have hR := hX.2.2.2.2.2.2.2.2.2.1
  exact va_mabs hX.1 hX.2.1 (hX.2.2.1.trans hv.1.symm) hX.2.2.2.1 (hts _ hl) (hts _ (by decide +kernel)) (hts _ (by decide +kernel)) (hts _ (by decide +kernel)) (by rw [hR]; exact hd) (by rw [hR]; show _ ≤ 40 * d; omega) (Nat.zero_le _) (Nat.zero_le _) dg (h H locs ls hP hD hS hv)
theorem so_mmin (hX : Fx X cc own d) {index : Nat} {x y : Int32} (dg : decode cc pc = .ok (.invokestatic index, 3)) (hl : Cond.methodLink own index Lib.Math.min.name ∈ TT) (hd : 1 ≤ d) (hs : (st.map fun v => v.category).sum ≤ 8) (h : Gd X (pc + 3) lv (.int (iMin x y) :: st) μ) : Gd X pc lv (.int y :: .int x :: st) μ := by
  intro H locs ls hP hD hS hv
  have hts := hX.2.2.2.2.1
  have hR := hX.2.2.2.2.2.2.2.2.2.1
  exact va_mmin hX.1 hX.2.1 (hX.2.2.1.trans hv.1.symm) hX.2.2.2.1 (hts _ hl) (hts _ (by decide +kernel)) (hts _ (by decide +kernel)) (hts _ (by decide +kernel)) (by rw [hR]; exact hd) (by rw [hR]; show _ ≤ 40 * d; omega) (Nat.zero_le _) (Nat.zero_le _) dg (h H locs ls hP hD hS hv)
theorem so_copy (hX : Fx X cc own d) {index a b n0 n1 : Nat} {sp dp n : Int32} (dg : decode cc pc = .ok (.invokestatic index, 3)) (hl : Cond.methodLink own index arraycopyName ∈ TT) (hka : evK (xV X) a = 11) (hna : evL (xV X) a = n0) (hkb : evK (xV X) b = 11) (hnb : evL (xV X) b = n1) (hd : 1 ≤ d) (hs : (st.map fun v => v.category).sum ≤ 8) (hc : cpA μ n0 a sp n1 b dp n = some μ2) (h : Gd X (pc + 3) lv st μ2) : Gd X pc lv (.int n :: .int dp :: .ref (evA (xV X) b) :: .int sp :: .ref (evA (xV X) a) :: st) μ := by
  intro H locs ls hP hD hS hv
  have hts := hX.2.2.2.2.1
  have hR := hX.2.2.2.2.2.2.2.2.2.1
  have ha : a < evN (xV X) := hX.2.2.2.2.2.2.2.1 a (by omega)
  have hb : b < evN (xV X) := hX.2.2.2.2.2.2.2.1 b (by omega)
  have hnf : nativeFrameWords "java/lang/System" "arraycopy" 5 + 11 ≤ 32 := by decide +kernel
  unfold cpA at hc
  split at hc
  · rename_i hh
    obtain ⟨h1, h2, h3, h4, h5⟩ := hh
    cases hc
    refine va_copyi hX.1 hX.2.1 (hX.2.2.1.trans hv.1.symm) hX.2.2.2.1 (hts _ hl) (hts _ (by decide +kernel)) (hts _ (by decide +kernel)) (hts _ (by decide +kernel)) hX.2.2.2.2.2.1 hP hD hS a b 0 0 ((wl_get ha).trans (by rw [enc_ai hka hna])) ((wl_get hb).trans (by rw [enc_ai hkb hnb])) rfl rfl rfl h1 h2 h3 h4 h5 (fun _ _ => rfl) (by rw [hR]; exact hd) (by rw [hR]; show _ ≤ 40 * d; omega) dg (fun H1 locs1 hP1 hD1 hS1 => ?_)
    rw [wl_set (μ2 := cpI μ a sp.toNatClampNeg b dp.toNatClampNeg n.toNatClampNeg) hb (enc_cpI_ai hkb hnb) (fun x hx => enc_cpI_ne hx)] at hP1 hD1
    exact h H1 locs1 ls hP1 hD1 hS1 hv
  · cases hc
end
/-- a method's start: the walk of its body gives its contract -/
theorem so_met {l : Launch} {V : Ev} {y : MethodName} {bytes : ByteArray} {maxL d : Nat} {ret : Option FieldType} {av : List Value} {μ μ2 : Mem} {rv : Option Value} (lv0 : List (Nat × Value)) (hy : plainName y.cls = true) (hlen : (lg_sl av).length ≤ maxL) (hV : ∀ a, evK V a < 16 → a < evN V) (hlv : lv_args 0 av = lv0)
    (body : ∀ X : Cx, xl X = l → xV X = V → xn X = maxL → Fx X bytes y.cls d → Rt X ret μ2 rv → Gd X 0 lv0 [] μ) : CT l V y bytes maxL ret d av μ μ2 rv := by
  intro sz
  refine Met.ofW (cc := bytes) (maxL := maxL) (ret := ret) hy rfl ?_
  intro p e s m args below meth c s₁ B hml hv
  obtain ⟨rfl, hsz, hP, hK, hD0, hN⟩ := hv
  have hts := atoms_spec (ws := Cond.code y bytes maxL ret :: TT) B.pre
  have hown : s.vm.findClass y.cls = some m.cls := findClass_of_methodNamed B.named
  subst hsz
  have hl := lv_entry av (n := maxL) hlen
  rw [lg_entry_eq]
  have hD : va_D (AA V s.heap.size) (wl V μ) := hD0.weaken (fun k q hk _ => by
    by_cases hn : k < evN V
    · rw [wl_get hn] at hk; cases hk; exact Or.inl ⟨k, hn, rfl⟩
    · unfold wl at hk; rw [List.getElem?_eq_none (by simpa using hn)] at hk; cases hk)
  rw [hlv] at hl
  exact body (p, l, e, rm d, s, m, av.toArray, below, meth, c, maxL, V, AA V s.heap.size, MQ below (Qct V s.heap.size μ2 rv) av.toArray s 0 0 (AA V s.heap.size)) rfl rfl rfl ⟨B.exec, B.bytes, hml, hown, fun w hw => hts w (List.mem_cons_of_mem _ hw), hK, fun q h => Or.inr h, hV, fun a ha => Or.inl ⟨a, ha, rfl⟩, rfl, B.notSynchronized, hN⟩ ⟨B.returns, rfl, rfl⟩ s.heap [] _ hP hD va_S.rf hl
end
section
/-! layouts of the two worlds, words of the tables, and rows in the form that the program prints -/
def kdCL : List Nat := [9, 7, 11, 6, 1, 11, 8, 15, 13, 2, 11, 4, 11, 14, 12, 12, 3, 3, 3, 3, 3, 3, 3, 3, 3, 3, 4, 11, 14, 12, 12, 3, 3, 3, 3, 3, 3, 3, 3, 3, 3, 4, 11, 14, 12, 12, 3, 3, 3, 3, 3, 3, 3, 3, 3, 3, 0, 1, 11, 11, 0, 1, 11, 11, 0, 1, 11, 11, 0, 1, 11, 11, 0, 1, 11, 11, 0, 1, 11, 11, 0, 1, 11, 11, 0, 1, 11, 11, 5, 11, 11, 11, 11]
def lnCL : List Nat := [0, 0, 400, 0, 0, 64, 0, 3, 8, 0, 10, 0, 12, 10, 720, 720, 0, 0, 0, 0, 0, 0, 0, 0, 0, 0, 0, 12, 10, 720, 720, 0, 0, 0, 0, 0, 0, 0, 0, 0, 0, 0, 12, 10, 720, 720, 0, 0, 0, 0, 0, 0, 0, 0, 0, 0, 0, 0, 64, 10, 0, 0, 64, 10, 0, 0, 64, 10, 0, 0, 64, 10, 0, 0, 64, 10, 0, 0, 64, 10, 0, 0, 64, 10, 0, 0, 64, 10, 0, 8, 3, 3, 3]
def kdC (a : Nat) : Nat := kdCL.getD a 99
def lnC (a : Nat) : Nat := lnCL.getD a 0
def rfC (a j : Nat) : Nat := if kdC a = 9 then [1, 3, 6, 88].getD j 0 else if kdC a = 7 then 2 else if kdC a = 6 then (if j = 0 then 4 else 1) else if kdC a = 1 then a + 1 else if kdC a = 8 then 7 + j else if kdC a = 15 then 11 + 15 * j else if kdC a = 13 then 56 + 4 * j else if kdC a = 14 then a + 3 + j else if kdC a = 2 then 10 else if kdC a = 4 then (if j = 5 then a + 1 else if j = 9 then a + 2 else if j = 10 then a + 3 else a + 4) else if kdC a = 0 then (if j = 0 then a + 1 else a + 3) else [89, 6, 90, 91, 92].getD j 0
def lyC : Ly := (93, kdC, lnC, rfC)
def kdML : List Nat := [10, 11, 11, 11, 11, 11, 11, 11, 11, 11, 11, 11, 11, 11, 11, 11, 11, 11, 11, 11, 11, 11, 11, 11, 11, 11, 11, 11, 11, 11, 11, 11, 11, 11, 11, 11, 11, 11, 11, 11, 11, 11, 11, 11, 11, 11, 11, 11, 11, 11, 11, 11]
def lnML : List Nat := [0, 3, 3, 3, 3, 3, 3, 3, 30, 30, 30, 30, 30, 30, 30, 30, 6000, 6000, 6000, 6000, 6000, 6000, 6000, 6000, 400, 64, 64, 8, 8, 512, 8, 8, 512, 8, 8, 6, 6, 6, 8, 8, 512, 8, 8, 8, 8, 8, 8, 8, 10, 8, 3, 3]
def kdM (a : Nat) : Nat := kdML.getD a 99
def lnM (a : Nat) : Nat := lnML.getD a 0
def rfML : List Nat := [1, 2, 3, 4, 5, 6, 7, 8, 9, 10, 11, 12, 13, 14, 15, 0, 16, 17, 18, 19, 20, 21, 22, 23, 24, 0, 0, 0, 0, 0, 0, 0, 0, 0, 25, 26, 27, 28, 29, 30, 31, 32, 33, 34, 0, 0, 35, 36, 37, 38, 39, 40, 41, 42, 43, 44, 45, 46, 47, 48, 0, 0, 0, 49, 50, 51, 0]
def rfM (_ j : Nat) : Nat := rfML.getD j 0
def lyM : Ly := (52, kdM, lnM, rfM)
theorem ekC {V : Ev} {a k : Nat} (hL : V.2.2.2 = lyC) (h : kdC a = k) : evK V a = k := by unfold evK; rw [hL]; exact h
theorem elC {V : Ev} {a k : Nat} (hL : V.2.2.2 = lyC) (h : lnC a = k) : evL V a = k := by unfold evL; rw [hL]; exact h
theorem erC {V : Ev} {a j k : Nat} (hL : V.2.2.2 = lyC) (h : rfC a j = k) : evR V a j = k := by unfold evR; rw [hL]; exact h
theorem kdC_lt (a : Nat) (h : kdC a < 16) : a < 93 := by
  by_cases ha : a < 93
  · exact ha
  · unfold kdC at h
    rw [List.getD_eq_getElem?_getD, List.getElem?_eq_none (Nat.le_trans (show kdCL.length ≤ 93 by decide) (Nat.le_of_not_lt ha))] at h
    exact absurd h (by decide)
theorem evCn {V : Ev} (hL : V.2.2.2 = lyC) : ∀ a, evK V a < 16 → a < evN V := by
  intro a h; unfold evK at h; unfold evN; rw [hL] at h ⊢; exact kdC_lt a h
theorem ekM {V : Ev} {a k : Nat} (hL : V.2.2.2 = lyM) (h : kdM a = k) : evK V a = k := by unfold evK; rw [hL]; exact h
theorem elM {V : Ev} {a k : Nat} (hL : V.2.2.2 = lyM) (h : lnM a = k) : evL V a = k := by unfold evL; rw [hL]; exact h
theorem erM {V : Ev} {a j k : Nat} (hL : V.2.2.2 = lyM) (h : rfM a j = k) : evR V a j = k := by unfold evR; rw [hL]; exact h
theorem kdM_lt (a : Nat) (h : kdM a < 16) : a < 52 := by
  by_cases ha : a < 52
  · exact ha
  · unfold kdM at h
    rw [List.getD_eq_getElem?_getD, List.getElem?_eq_none (Nat.le_trans (show kdML.length ≤ 52 by decide) (Nat.le_of_not_lt ha))] at h
    exact absurd h (by decide)
theorem evMn {V : Ev} (hL : V.2.2.2 = lyM) : ∀ a, evK V a < 16 → a < evN V := by
  intro a h; unfold evK at h; unfold evN; rw [hL] at h ⊢; exact kdM_lt a h
theorem kdC_log {a : Nat} (h : kdC a = 4) : a = 11 ∨ a = 26 ∨ a = 41 := by
  have hl := kdC_lt a (by omega)
  exact (show ∀ a, a < 93 → kdC a = 4 → a = 11 ∨ a = 26 ∨ a = 41 by decide +kernel) a hl h
theorem kdC_door {a : Nat} (h : kdC a = 0) : ∃ d, d < 8 ∧ a = 56 + 4 * d := by
  have hl := kdC_lt a (by omega)
  exact (show ∀ a, a < 93 → kdC a = 0 → ∃ d, d < 8 ∧ a = 56 + 4 * d by decide +kernel) a hl h
theorem kdC_draw {a : Nat} (h : kdC a = 1) : a = 4 ∨ ∃ d, d < 8 ∧ a = 57 + 4 * d := by
  have hl := kdC_lt a (by omega)
  exact (show ∀ a, a < 93 → kdC a = 1 → (a = 4 ∨ ∃ d, d < 8 ∧ a = 57 + 4 * d) by decide +kernel) a hl h
theorem kq_4_5 {a : Nat} (h : kdC a = 4) : kdC (a + 1) = 11 := (show ∀ a, a < 93 → kdC a = 4 → kdC (a + 1) = 11 by decide +kernel) a (kdC_lt a (by omega)) h
theorem rq_4_5 {a : Nat} (h : kdC a = 4) : rfC a 5 = a + 1 := by unfold rfC; rw [h]; rfl
theorem nq_4_5 {a : Nat} (h : kdC a = 4) : lnC (a + 1) = 12 := (show ∀ a, a < 93 → kdC a = 4 → lnC (a + 1) = 12 by decide +kernel) a (kdC_lt a (by omega)) h
theorem kq_4_9 {a : Nat} (h : kdC a = 4) : kdC (a + 2) = 14 := (show ∀ a, a < 93 → kdC a = 4 → kdC (a + 2) = 14 by decide +kernel) a (kdC_lt a (by omega)) h
theorem rq_4_9 {a : Nat} (h : kdC a = 4) : rfC a 9 = a + 2 := by unfold rfC; rw [h]; rfl
theorem nq_4_9 {a : Nat} (h : kdC a = 4) : lnC (a + 2) = 10 := (show ∀ a, a < 93 → kdC a = 4 → lnC (a + 2) = 10 by decide +kernel) a (kdC_lt a (by omega)) h
theorem kq_4_10 {a : Nat} (h : kdC a = 4) : kdC (a + 3) = 12 := (show ∀ a, a < 93 → kdC a = 4 → kdC (a + 3) = 12 by decide +kernel) a (kdC_lt a (by omega)) h
theorem rq_4_10 {a : Nat} (h : kdC a = 4) : rfC a 10 = a + 3 := by unfold rfC; rw [h]; rfl
theorem nq_4_10 {a : Nat} (h : kdC a = 4) : lnC (a + 3) = 720 := (show ∀ a, a < 93 → kdC a = 4 → lnC (a + 3) = 720 by decide +kernel) a (kdC_lt a (by omega)) h
theorem kq_4_11 {a : Nat} (h : kdC a = 4) : kdC (a + 4) = 12 := (show ∀ a, a < 93 → kdC a = 4 → kdC (a + 4) = 12 by decide +kernel) a (kdC_lt a (by omega)) h
theorem rq_4_11 {a : Nat} (h : kdC a = 4) : rfC a 11 = a + 4 := by unfold rfC; rw [h]; rfl
theorem nq_4_11 {a : Nat} (h : kdC a = 4) : lnC (a + 4) = 720 := (show ∀ a, a < 93 → kdC a = 4 → lnC (a + 4) = 720 by decide +kernel) a (kdC_lt a (by omega)) h
theorem kq_0_0 {a : Nat} (h : kdC a = 0) : kdC (a + 1) = 1 := (show ∀ a, a < 93 → kdC a = 0 → kdC (a + 1) = 1 by decide +kernel) a (kdC_lt a (by omega)) h
theorem rq_0_0 {a : Nat} (h : kdC a = 0) : rfC a 0 = a + 1 := by unfold rfC; rw [h]; rfl
theorem kq_0_1 {a : Nat} (h : kdC a = 0) : kdC (a + 3) = 11 := (show ∀ a, a < 93 → kdC a = 0 → kdC (a + 3) = 11 by decide +kernel) a (kdC_lt a (by omega)) h
theorem rq_0_1 {a : Nat} (h : kdC a = 0) : rfC a 1 = a + 3 := by unfold rfC; rw [h]; rfl
theorem nq_0_1 {a : Nat} (h : kdC a = 0) : lnC (a + 3) = 10 := (show ∀ a, a < 93 → kdC a = 0 → lnC (a + 3) = 10 by decide +kernel) a (kdC_lt a (by omega)) h
theorem kq_1_0 {a : Nat} (h : kdC a = 1) : kdC (a + 1) = 11 := (show ∀ a, a < 93 → kdC a = 1 → kdC (a + 1) = 11 by decide +kernel) a (kdC_lt a (by omega)) h
theorem rq_1_0 {a : Nat} (h : kdC a = 1) : rfC a 0 = a + 1 := by unfold rfC; rw [h]; rfl
theorem nq_1_0 {a : Nat} (h : kdC a = 1) : lnC (a + 1) = 64 := (show ∀ a, a < 93 → kdC a = 1 → lnC (a + 1) = 64 by decide +kernel) a (kdC_lt a (by omega)) h
theorem rR_lt {n : Nat} {i : Int32} {j : Nat} (h : rR n i = some j) : j < n := by
  unfold rR at h
  by_cases hi : inb i n = true
  · rw [if_pos hi] at h; cases h
    have := inb_in hi
    unfold vp_in at this
    omega
  · rw [if_neg hi] at h; cases h
theorem kE15 {j : Nat} (h : j < 3) : kdC (11 + 15 * j) = 4 := (show ∀ j, j < 3 → kdC (11 + 15 * j) = 4 by decide +kernel) j h
theorem kE13 {j : Nat} (h : j < 8) : kdC (56 + 4 * j) = 0 := (show ∀ j, j < 8 → kdC (56 + 4 * j) = 0 by decide +kernel) j h
theorem kE14 {a j : Nat} (ha : kdC a = 4) (h : j < 10) : kdC (a + 5 + j) = 3 := (show ∀ a, a < 93 → kdC a = 4 → ∀ j, j < 10 → kdC (a + 5 + j) = 3 by decide +kernel) a (kdC_lt a (by omega)) ha j h
theorem rE14 {a j : Nat} (ha : kdC a = 4) : rfC (a + 2) j = a + 5 + j := by unfold rfC; rw [kq_4_9 ha]; show a + 2 + 3 + j = a + 5 + j; omega
def FU : Nat := 8192
def bd {α β : Type} (o : Option (α × Mem)) (f : α → Mem → Option β) : Option β := o.bind (fun q => f q.1 q.2)
theorem obd {α β : Type} {o : Option (α × Mem)} {f : α → Mem → Option β} {r : β} (h : bd o f = some r) : ∃ v m, o = some (v, m) ∧ f v m = some r := by
  cases o with
  | none => cases h
  | some q => exact ⟨q.1, q.2, rfl, h⟩
def oc {β : Type} (o : Option Nat) (a : β) (f : Nat → β) : β := match o with
  | none => a
  | some k => f k
theorem oc_n {β : Type} {a r : β} {f : Nat → β} (h : oc none a f = r) : a = r := h
theorem oc_s {β : Type} {a r : β} {f : Nat → β} {k : Nat} (h : oc (some k) a f = r) : f k = r := h
theorem ip {c : Prop} [Decidable c] {α : Type} {A B r : α} (hc : c) (h : (if c then A else B) = r) : A = r := by rwa [if_pos hc] at h
theorem iq {c : Prop} [Decidable c] {α : Type} {A B r : α} (hc : ¬ c) (h : (if c then A else B) = r) : B = r := by rwa [if_neg hc] at h
def bz (r : Int32) (μ : Mem) : Option (Int32 × Mem) := if r = 0 ∨ r = 1 then some (r, μ) else none
def FlI (own : String) (index ci j : Nat) : Prop := Fl own index ci j ∧ ci < 11 ∧ rb ci j = false ∧ j < nf ci
def FlR (own : String) (index ci j : Nat) : Prop := Fl own index ci j ∧ ci < 11 ∧ rb ci j = true ∧ j < nf ci
section
variable {X : Cx} {cc : ByteArray} {own : String} {d pc : Nat} {lv lv' : List (Nat × Value)} {st : List Value} {μ μ2 : Mem}
theorem so_gI (hX : Fx X cc own d) {a index ci j : Nat} (dg : decode cc pc = .ok (.getfield index, 3)) (hf : FlI own index ci j) (hk : evK (xV X) a = ci) (h : Gd X (pc + 3) lv (.int (μ.1 a j) :: st) μ) : Gd X pc lv (.ref (evA (xV X) a) :: st) μ := so_getI hX dg hf.1 hk hf.2.1 hf.2.2.1 hf.2.2.2 h
theorem so_gR (hX : Fx X cc own d) {a index ci j : Nat} (b : Nat) (dg : decode cc pc = .ok (.getfield index, 3)) (hf : FlR own index ci j) (hk : evK (xV X) a = ci) (hb : evR (xV X) a j = b) (h : Gd X (pc + 3) lv (.ref (evA (xV X) b) :: st) μ) : Gd X pc lv (.ref (evA (xV X) a) :: st) μ := so_getR hX b dg hf.1 hk hf.2.1 hf.2.2.1 hf.2.2.2 hb h
theorem so_pI (hX : Fx X cc own d) {a index ci j : Nat} {x : Int32} {ty : FieldType} (dg : decode cc pc = .ok (.putfield index, 3)) (hf : FlI own index ci j) (hw : Fw ci j ty) (hk : evK (xV X) a = ci) (hn1 : narrow ty (.int x) = .int x) (hn2 : fits ty (.int x) = true) (h : Gd X (pc + 3) lv st (sI μ a j x)) : Gd X pc lv (.int x :: .ref (evA (xV X) a) :: st) μ := so_put hX dg hf.1 hw hk hf.2.1 hf.2.2.1 hf.2.2.2 hn1 hn2 h
theorem so_ldcw (hX : Fx X cc own d) {index : Nat} {v : Int32} (dg : decode cc pc = .ok (.ldc_w index, 3)) (hc : Cond.constant own index v ∈ TT) (h : Gd X (pc + 3) lv (.int v :: st) μ) : Gd X pc lv st μ := fun H locs ls hP hD hS hv => lv_ldcw hX.1 hX.2.1 hX.2.2.2.1 (hX.2.2.2.2.1 _ hc) dg (h H locs ls hP hD hS hv)
theorem so_iretH (hX : Fx X cc own d) {v r : Int32} {ty : FieldType} (hR : Rt X (some ty) μ2 (some (.int r))) (h : some (v, μ) = some (r, μ2)) (hn : narrow ty (.int v) = .int v) (dg : decode cc pc = .ok (.ireturn, 1)) : Gd X pc lv [.int v] μ := by cases h; exact so_iret hX hR hn dg
theorem so_zretH (hX : Fx X cc own d) {v r : Int32} (hR : Rt X (some .boolean) μ2 (some (.int r))) (h : bz v μ = some (r, μ2)) (dg : decode cc pc = .ok (.ireturn, 1)) : Gd X pc lv [.int v] μ := by
  unfold bz at h
  by_cases hz : v = 0 ∨ v = 1
  · rw [if_pos hz] at h; cases h
    exact so_iret hX hR (by rcases hz with rfl | rfl <;> decide) dg
  · rw [if_neg hz] at h; cases h
theorem so_lretH (hX : Fx X cc own d) {v r : Int64} (hR : Rt X (some .long) μ2 (some (.long r))) (h : some (v, μ) = some (r, μ2)) (dg : decode cc pc = .ok (.lreturn, 1)) : Gd X pc lv [.long v] μ := by cases h; exact so_lret hX hR dg
theorem so_vretH (hX : Fx X cc own d) (hR : Rt X none μ2 none) (h : some μ = some μ2) (dg : decode cc pc = .ok (.return_, 1)) : Gd X pc lv [] μ := by cases h; exact so_vret hX hR dg
theorem so_aretN (hX : Fx X cc own d) {C : String} {o : Option Nat} (hR : Rt X (some (.object C)) μ2 (some (vr (xV X) o))) (h : some (none, μ) = some (o, μ2)) (dg : decode cc pc = .ok (.areturn, 1)) : Gd X pc lv [.null] μ := by cases h; exact so_aret hX hR rfl dg
theorem so_aretS (hX : Fx X cc own d) {C : String} {o : Option Nat} {a : Nat} (hR : Rt X (some (.object C)) μ2 (some (vr (xV X) o))) (h : some (some a, μ) = some (o, μ2)) (dg : decode cc pc = .ok (.areturn, 1)) : Gd X pc lv [.ref (evA (xV X) a)] μ := by cases h; exact so_aret hX hR rfl dg
end
theorem ti_ne {x c : Int32} (h : ¬ x = c) : x.toInt ≠ c.toInt := fun q => h (Int32.toInt_inj.mp q)
theorem tabO6 {x : Int32} (h0 : ¬ x = (0 : Int32)) (h1 : ¬ x = (1 : Int32)) (h2 : ¬ x = (2 : Int32)) (h3 : ¬ x = (3 : Int32)) (h4 : ¬ x = (4 : Int32)) (h5 : ¬ x = (5 : Int32)) : x.toInt < 0 ∨ 5 < x.toInt := by
  have q0 : x.toInt ≠ 0 := ti_ne h0
  have q1 : x.toInt ≠ 1 := ti_ne h1
  have q2 : x.toInt ≠ 2 := ti_ne h2
  have q3 : x.toInt ≠ 3 := ti_ne h3
  have q4 : x.toInt ≠ 4 := ti_ne h4
  have q5 : x.toInt ≠ 5 := ti_ne h5
  omega
theorem tabO10 {x : Int32} (h0 : ¬ x = (0 : Int32)) (h1 : ¬ x = (1 : Int32)) (h2 : ¬ x = (2 : Int32)) (h3 : ¬ x = (3 : Int32)) (h4 : ¬ x = (4 : Int32)) (h5 : ¬ x = (5 : Int32)) (h6 : ¬ x = (6 : Int32)) (h7 : ¬ x = (7 : Int32)) (h8 : ¬ x = (8 : Int32)) (h9 : ¬ x = (9 : Int32)) : x.toInt < 0 ∨ 9 < x.toInt := by
  have q0 : x.toInt ≠ 0 := ti_ne h0
  have q1 : x.toInt ≠ 1 := ti_ne h1
  have q2 : x.toInt ≠ 2 := ti_ne h2
  have q3 : x.toInt ≠ 3 := ti_ne h3
  have q4 : x.toInt ≠ 4 := ti_ne h4
  have q5 : x.toInt ≠ 5 := ti_ne h5
  have q6 : x.toInt ≠ 6 := ti_ne h6
  have q7 : x.toInt ≠ 7 := ti_ne h7
  have q8 : x.toInt ≠ 8 := ti_ne h8
  have q9 : x.toInt ≠ 9 := ti_ne h9
  omega
theorem tabO20 {x : Int32} (h0 : ¬ x = (0 : Int32)) (h1 : ¬ x = (1 : Int32)) (h2 : ¬ x = (2 : Int32)) (h3 : ¬ x = (3 : Int32)) (h4 : ¬ x = (4 : Int32)) (h5 : ¬ x = (5 : Int32)) (h6 : ¬ x = (6 : Int32)) (h7 : ¬ x = (7 : Int32)) (h8 : ¬ x = (8 : Int32)) (h9 : ¬ x = (9 : Int32)) (h10 : ¬ x = (10 : Int32)) (h11 : ¬ x = (11 : Int32)) (h12 : ¬ x = (12 : Int32)) (h13 : ¬ x = (13 : Int32)) (h14 : ¬ x = (14 : Int32)) (h15 : ¬ x = (15 : Int32)) (h16 : ¬ x = (16 : Int32)) (h17 : ¬ x = (17 : Int32)) (h18 : ¬ x = (18 : Int32)) (h19 : ¬ x = (19 : Int32)) : x.toInt < 0 ∨ 19 < x.toInt := by
  have q0 : x.toInt ≠ 0 := ti_ne h0
  have q1 : x.toInt ≠ 1 := ti_ne h1
  have q2 : x.toInt ≠ 2 := ti_ne h2
  have q3 : x.toInt ≠ 3 := ti_ne h3
  have q4 : x.toInt ≠ 4 := ti_ne h4
  have q5 : x.toInt ≠ 5 := ti_ne h5
  have q6 : x.toInt ≠ 6 := ti_ne h6
  have q7 : x.toInt ≠ 7 := ti_ne h7
  have q8 : x.toInt ≠ 8 := ti_ne h8
  have q9 : x.toInt ≠ 9 := ti_ne h9
  have q10 : x.toInt ≠ 10 := ti_ne h10
  have q11 : x.toInt ≠ 11 := ti_ne h11
  have q12 : x.toInt ≠ 12 := ti_ne h12
  have q13 : x.toInt ≠ 13 := ti_ne h13
  have q14 : x.toInt ≠ 14 := ti_ne h14
  have q15 : x.toInt ≠ 15 := ti_ne h15
  have q16 : x.toInt ≠ 16 := ti_ne h16
  have q17 : x.toInt ≠ 17 := ti_ne h17
  have q18 : x.toInt ≠ 18 := ti_ne h18
  have q19 : x.toInt ≠ 19 := ti_ne h19
  omega
theorem t1m_1 {w : Cond} (h : w ∈ tables_1_1) : w ∈ tables_1 := List.mem_append_left _ h
theorem t1m_2 {w : Cond} (h : w ∈ tables_1_2) : w ∈ tables_1 := List.mem_append_right _ (List.mem_append_left _ h)
theorem t1m_3 {w : Cond} (h : w ∈ tables_1_3) : w ∈ tables_1 := List.mem_append_right _ (List.mem_append_right _ (List.mem_append_left _ h))
theorem t1m_4 {w : Cond} (h : w ∈ tables_1_4) : w ∈ tables_1 := List.mem_append_right _ (List.mem_append_right _ (List.mem_append_right _ (List.mem_append_left _ h)))
theorem t1m_5 {w : Cond} (h : w ∈ tables_1_5) : w ∈ tables_1 := List.mem_append_right _ (List.mem_append_right _ (List.mem_append_right _ (List.mem_append_right _ (h))))
end
section
theorem iw_X0 : ∀ w ∈ u_ws RX0 TX0 12, w ∈ TT := TTin (by decide +kernel)
theorem iw_X1 : ∀ w ∈ u_ws RX1 TX1 3, w ∈ TT := TTin (by decide +kernel)
theorem iw_X2 : ∀ w ∈ u_ws RX2 TX2 4, w ∈ TT := TTin (by decide +kernel)
theorem iw_X3 : ∀ w ∈ u_ws RX3 TX3 8, w ∈ TT := TTin (by decide +kernel)
theorem iw_X4 : ∀ w ∈ u_ws RX4 TX4 12, w ∈ TT := TTin (by decide +kernel)
theorem iw_X5 : ∀ w ∈ u_ws RX5 TX5 7, w ∈ TT := TTin (by decide +kernel)
theorem iw_X6 : ∀ w ∈ u_ws RX6 TX6 7, w ∈ TT := TTin (by decide +kernel)
theorem iw_X7 : ∀ w ∈ u_ws RX7 TX7 2, w ∈ TT := TTin (by decide +kernel)
theorem iw_X8 : ∀ w ∈ u_ws RX8 TX8 3, w ∈ TT := TTin (by decide +kernel)
theorem iw_X9 : ∀ w ∈ u_ws RX9 TX9 4, w ∈ TT := TTin (by decide +kernel)
theorem iw_X10 : ∀ w ∈ u_ws RX10 TX10 67, w ∈ TT := TTin (by decide +kernel)
theorem fl_X0_12 : FlR RX0 12 0 0 := ⟨⟨_, _, _, rfl, by decide, iw_X0, (TTm (List.mem_append_right _ (t1m_1 (List.mem_of_getElem? (i := 225) rfl))) rfl)⟩, by decide, by decide +kernel, by decide +kernel⟩
theorem fl_X0_18 : FlR RX0 18 0 1 := ⟨⟨_, _, _, rfl, by decide, iw_X0, (TTm (List.mem_append_right _ (t1m_1 (List.mem_of_getElem? (i := 228) rfl))) rfl)⟩, by decide, by decide +kernel, by decide +kernel⟩
theorem fl_X0_22 : FlI RX0 22 0 8 := ⟨⟨_, _, _, rfl, by decide, iw_X0, (TTm (List.mem_append_right _ (t1m_2 (List.mem_of_getElem? (i := 6) rfl))) rfl)⟩, by decide, by decide +kernel, by decide +kernel⟩
theorem fl_X0_26 : FlI RX0 26 0 9 := ⟨⟨_, _, _, rfl, by decide, iw_X0, (TTm (List.mem_append_right _ (t1m_2 (List.mem_of_getElem? (i := 9) rfl))) rfl)⟩, by decide, by decide +kernel, by decide +kernel⟩
theorem fl_X0_29 : FlI RX0 29 0 10 := ⟨⟨_, _, _, rfl, by decide, iw_X0, (TTm (List.mem_append_right _ (t1m_2 (List.mem_of_getElem? (i := 12) rfl))) rfl)⟩, by decide, by decide +kernel, by decide +kernel⟩
theorem fl_X0_32 : FlI RX0 32 0 11 := ⟨⟨_, _, _, rfl, by decide, iw_X0, (TTm (List.mem_append_right _ (t1m_2 (List.mem_of_getElem? (i := 15) rfl))) rfl)⟩, by decide, by decide +kernel, by decide +kernel⟩
theorem fl_X0_35 : FlI RX0 35 0 2 := ⟨⟨_, _, _, rfl, by decide, iw_X0, (TTm (List.mem_append_right _ (t1m_1 (List.mem_of_getElem? (i := 231) rfl))) rfl)⟩, by decide, by decide +kernel, by decide +kernel⟩
theorem fl_X0_43 : FlI RX0 43 0 3 := ⟨⟨_, _, _, rfl, by decide, iw_X0, (TTm (List.mem_append_right _ (t1m_1 (List.mem_of_getElem? (i := 234) rfl))) rfl)⟩, by decide, by decide +kernel, by decide +kernel⟩
theorem fl_X0_46 : FlI RX0 46 0 4 := ⟨⟨_, _, _, rfl, by decide, iw_X0, (TTm (List.mem_append_right _ (t1m_1 (List.mem_of_getElem? (i := 237) rfl))) rfl)⟩, by decide, by decide +kernel, by decide +kernel⟩
theorem fl_X0_49 : FlI RX0 49 0 5 := ⟨⟨_, _, _, rfl, by decide, iw_X0, (TTm (List.mem_append_right _ (t1m_1 (List.mem_of_getElem? (i := 239) rfl))) rfl)⟩, by decide, by decide +kernel, by decide +kernel⟩
theorem fl_X0_64 : FlI RX0 64 0 6 := ⟨⟨_, _, _, rfl, by decide, iw_X0, (TTm (List.mem_append_right _ (t1m_2 (List.mem_of_getElem? (i := 1) rfl))) rfl)⟩, by decide, by decide +kernel, by decide +kernel⟩
theorem fl_X0_67 : FlI RX0 67 0 7 := ⟨⟨_, _, _, rfl, by decide, iw_X0, (TTm (List.mem_append_right _ (t1m_2 (List.mem_of_getElem? (i := 3) rfl))) rfl)⟩, by decide, by decide +kernel, by decide +kernel⟩
theorem fl_X0_70 : FlI RX0 70 1 2 := ⟨⟨_, _, _, rfl, by decide, iw_X1, (TTm (List.mem_append_right _ (t1m_1 (List.mem_of_getElem? (i := 61) rfl))) rfl)⟩, by decide, by decide +kernel, by decide +kernel⟩
theorem fl_X0_71 : FlI RX0 71 1 1 := ⟨⟨_, _, _, rfl, by decide, iw_X1, (TTm (List.mem_append_right _ (t1m_1 (List.mem_of_getElem? (i := 56) rfl))) rfl)⟩, by decide, by decide +kernel, by decide +kernel⟩
theorem fl_X0_84 : FlI RX0 84 2 0 := ⟨⟨_, _, _, rfl, by decide, iw_X2, (TTm (List.mem_append_right _ (t1m_1 (List.mem_of_getElem? (i := 111) rfl))) rfl)⟩, by decide, by decide +kernel, by decide +kernel⟩
theorem fl_X0_87 : FlI RX0 87 2 1 := ⟨⟨_, _, _, rfl, by decide, iw_X2, (TTm (List.mem_append_right _ (t1m_1 (List.mem_of_getElem? (i := 114) rfl))) rfl)⟩, by decide, by decide +kernel, by decide +kernel⟩
theorem fl_X0_88 : FlI RX0 88 2 2 := ⟨⟨_, _, _, rfl, by decide, iw_X2, (TTm (List.mem_append_right _ (t1m_1 (List.mem_of_getElem? (i := 117) rfl))) rfl)⟩, by decide, by decide +kernel, by decide +kernel⟩
theorem fl_X1_11 : FlR RX1 11 1 0 := ⟨⟨_, _, _, rfl, by decide, iw_X1, (TTm (List.mem_append_right _ (t1m_1 (List.mem_of_getElem? (i := 52) rfl))) rfl)⟩, by decide, by decide +kernel, by decide +kernel⟩
theorem fl_X1_15 : FlI RX1 15 1 1 := ⟨⟨_, _, _, rfl, by decide, iw_X1, (TTm (List.mem_append_right _ (t1m_1 (List.mem_of_getElem? (i := 53) rfl))) rfl)⟩, by decide, by decide +kernel, by decide +kernel⟩
theorem fl_X1_19 : FlI RX1 19 1 2 := ⟨⟨_, _, _, rfl, by decide, iw_X1, (TTm (List.mem_append_right _ (t1m_1 (List.mem_of_getElem? (i := 58) rfl))) rfl)⟩, by decide, by decide +kernel, by decide +kernel⟩
theorem fl_X10_7 : FlR RX10 7 10 0 := ⟨⟨_, _, _, rfl, by decide, iw_X10, (TTm (List.mem_append_right _ (t1m_4 (List.mem_of_getElem? (i := 53) rfl))) rfl)⟩, by decide, by decide +kernel, by decide +kernel⟩
theorem fl_X10_13 : FlR RX10 13 10 1 := ⟨⟨_, _, _, rfl, by decide, iw_X10, (TTm (List.mem_append_right _ (t1m_4 (List.mem_of_getElem? (i := 54) rfl))) rfl)⟩, by decide, by decide +kernel, by decide +kernel⟩
theorem fl_X10_16 : FlR RX10 16 10 2 := ⟨⟨_, _, _, rfl, by decide, iw_X10, (TTm (List.mem_append_right _ (t1m_4 (List.mem_of_getElem? (i := 55) rfl))) rfl)⟩, by decide, by decide +kernel, by decide +kernel⟩
theorem fl_X10_19 : FlR RX10 19 10 3 := ⟨⟨_, _, _, rfl, by decide, iw_X10, (TTm (List.mem_append_right _ (t1m_4 (List.mem_of_getElem? (i := 56) rfl))) rfl)⟩, by decide, by decide +kernel, by decide +kernel⟩
theorem fl_X10_22 : FlR RX10 22 10 4 := ⟨⟨_, _, _, rfl, by decide, iw_X10, (TTm (List.mem_append_right _ (t1m_4 (List.mem_of_getElem? (i := 57) rfl))) rfl)⟩, by decide, by decide +kernel, by decide +kernel⟩
theorem fl_X10_25 : FlR RX10 25 10 5 := ⟨⟨_, _, _, rfl, by decide, iw_X10, (TTm (List.mem_append_right _ (t1m_4 (List.mem_of_getElem? (i := 58) rfl))) rfl)⟩, by decide, by decide +kernel, by decide +kernel⟩
theorem fl_X10_28 : FlR RX10 28 10 6 := ⟨⟨_, _, _, rfl, by decide, iw_X10, (TTm (List.mem_append_right _ (t1m_4 (List.mem_of_getElem? (i := 59) rfl))) rfl)⟩, by decide, by decide +kernel, by decide +kernel⟩
theorem fl_X10_31 : FlR RX10 31 10 7 := ⟨⟨_, _, _, rfl, by decide, iw_X10, (TTm (List.mem_append_right _ (t1m_4 (List.mem_of_getElem? (i := 60) rfl))) rfl)⟩, by decide, by decide +kernel, by decide +kernel⟩
theorem fl_X10_34 : FlR RX10 34 10 8 := ⟨⟨_, _, _, rfl, by decide, iw_X10, (TTm (List.mem_append_right _ (t1m_4 (List.mem_of_getElem? (i := 61) rfl))) rfl)⟩, by decide, by decide +kernel, by decide +kernel⟩
theorem fl_X10_37 : FlR RX10 37 10 9 := ⟨⟨_, _, _, rfl, by decide, iw_X10, (TTm (List.mem_append_right _ (t1m_4 (List.mem_of_getElem? (i := 62) rfl))) rfl)⟩, by decide, by decide +kernel, by decide +kernel⟩
theorem fl_X10_40 : FlR RX10 40 10 10 := ⟨⟨_, _, _, rfl, by decide, iw_X10, (TTm (List.mem_append_right _ (t1m_4 (List.mem_of_getElem? (i := 63) rfl))) rfl)⟩, by decide, by decide +kernel, by decide +kernel⟩
theorem fl_X10_43 : FlR RX10 43 10 11 := ⟨⟨_, _, _, rfl, by decide, iw_X10, (TTm (List.mem_append_right _ (t1m_4 (List.mem_of_getElem? (i := 64) rfl))) rfl)⟩, by decide, by decide +kernel, by decide +kernel⟩
theorem fl_X10_46 : FlR RX10 46 10 12 := ⟨⟨_, _, _, rfl, by decide, iw_X10, (TTm (List.mem_append_right _ (t1m_4 (List.mem_of_getElem? (i := 65) rfl))) rfl)⟩, by decide, by decide +kernel, by decide +kernel⟩
theorem fl_X10_49 : FlR RX10 49 10 13 := ⟨⟨_, _, _, rfl, by decide, iw_X10, (TTm (List.mem_append_right _ (t1m_4 (List.mem_of_getElem? (i := 66) rfl))) rfl)⟩, by decide, by decide +kernel, by decide +kernel⟩
theorem fl_X10_52 : FlR RX10 52 10 14 := ⟨⟨_, _, _, rfl, by decide, iw_X10, (TTm (List.mem_append_right _ (t1m_4 (List.mem_of_getElem? (i := 67) rfl))) rfl)⟩, by decide, by decide +kernel, by decide +kernel⟩
theorem fl_X10_55 : FlR RX10 55 10 16 := ⟨⟨_, _, _, rfl, by decide, iw_X10, (TTm (List.mem_append_right _ (t1m_4 (List.mem_of_getElem? (i := 69) rfl))) rfl)⟩, by decide, by decide +kernel, by decide +kernel⟩
theorem fl_X10_58 : FlR RX10 58 10 17 := ⟨⟨_, _, _, rfl, by decide, iw_X10, (TTm (List.mem_append_right _ (t1m_4 (List.mem_of_getElem? (i := 70) rfl))) rfl)⟩, by decide, by decide +kernel, by decide +kernel⟩
theorem fl_X10_61 : FlR RX10 61 10 18 := ⟨⟨_, _, _, rfl, by decide, iw_X10, (TTm (List.mem_append_right _ (t1m_4 (List.mem_of_getElem? (i := 71) rfl))) rfl)⟩, by decide, by decide +kernel, by decide +kernel⟩
theorem fl_X10_64 : FlR RX10 64 10 19 := ⟨⟨_, _, _, rfl, by decide, iw_X10, (TTm (List.mem_append_right _ (t1m_4 (List.mem_of_getElem? (i := 72) rfl))) rfl)⟩, by decide, by decide +kernel, by decide +kernel⟩
theorem fl_X10_67 : FlR RX10 67 10 20 := ⟨⟨_, _, _, rfl, by decide, iw_X10, (TTm (List.mem_append_right _ (t1m_4 (List.mem_of_getElem? (i := 73) rfl))) rfl)⟩, by decide, by decide +kernel, by decide +kernel⟩
theorem fl_X10_70 : FlR RX10 70 10 21 := ⟨⟨_, _, _, rfl, by decide, iw_X10, (TTm (List.mem_append_right _ (t1m_4 (List.mem_of_getElem? (i := 74) rfl))) rfl)⟩, by decide, by decide +kernel, by decide +kernel⟩
theorem fl_X10_73 : FlR RX10 73 10 22 := ⟨⟨_, _, _, rfl, by decide, iw_X10, (TTm (List.mem_append_right _ (t1m_4 (List.mem_of_getElem? (i := 75) rfl))) rfl)⟩, by decide, by decide +kernel, by decide +kernel⟩
theorem fl_X10_76 : FlR RX10 76 10 23 := ⟨⟨_, _, _, rfl, by decide, iw_X10, (TTm (List.mem_append_right _ (t1m_4 (List.mem_of_getElem? (i := 76) rfl))) rfl)⟩, by decide, by decide +kernel, by decide +kernel⟩
theorem fl_X10_79 : FlR RX10 79 10 24 := ⟨⟨_, _, _, rfl, by decide, iw_X10, (TTm (List.mem_append_right _ (t1m_4 (List.mem_of_getElem? (i := 77) rfl))) rfl)⟩, by decide, by decide +kernel, by decide +kernel⟩
theorem fl_X10_82 : FlI RX10 82 10 31 := ⟨⟨_, _, _, rfl, by decide, iw_X10, (TTm (List.mem_append_right _ (t1m_4 (List.mem_of_getElem? (i := 84) rfl))) rfl)⟩, by decide, by decide +kernel, by decide +kernel⟩
theorem fl_X10_86 : FlR RX10 86 10 34 := ⟨⟨_, _, _, rfl, by decide, iw_X10, (TTm (List.mem_append_right _ (t1m_4 (List.mem_of_getElem? (i := 87) rfl))) rfl)⟩, by decide, by decide +kernel, by decide +kernel⟩
theorem fl_X10_89 : FlR RX10 89 10 35 := ⟨⟨_, _, _, rfl, by decide, iw_X10, (TTm (List.mem_append_right _ (t1m_4 (List.mem_of_getElem? (i := 88) rfl))) rfl)⟩, by decide, by decide +kernel, by decide +kernel⟩
theorem fl_X10_92 : FlR RX10 92 10 36 := ⟨⟨_, _, _, rfl, by decide, iw_X10, (TTm (List.mem_append_right _ (t1m_4 (List.mem_of_getElem? (i := 89) rfl))) rfl)⟩, by decide, by decide +kernel, by decide +kernel⟩
theorem fl_X10_95 : FlR RX10 95 10 37 := ⟨⟨_, _, _, rfl, by decide, iw_X10, (TTm (List.mem_append_right _ (t1m_4 (List.mem_of_getElem? (i := 90) rfl))) rfl)⟩, by decide, by decide +kernel, by decide +kernel⟩
theorem fl_X10_98 : FlR RX10 98 10 38 := ⟨⟨_, _, _, rfl, by decide, iw_X10, (TTm (List.mem_append_right _ (t1m_4 (List.mem_of_getElem? (i := 91) rfl))) rfl)⟩, by decide, by decide +kernel, by decide +kernel⟩
theorem fl_X10_101 : FlR RX10 101 10 39 := ⟨⟨_, _, _, rfl, by decide, iw_X10, (TTm (List.mem_append_right _ (t1m_4 (List.mem_of_getElem? (i := 92) rfl))) rfl)⟩, by decide, by decide +kernel, by decide +kernel⟩
theorem fl_X10_104 : FlR RX10 104 10 40 := ⟨⟨_, _, _, rfl, by decide, iw_X10, (TTm (List.mem_append_right _ (t1m_4 (List.mem_of_getElem? (i := 93) rfl))) rfl)⟩, by decide, by decide +kernel, by decide +kernel⟩
theorem fl_X10_107 : FlR RX10 107 10 41 := ⟨⟨_, _, _, rfl, by decide, iw_X10, (TTm (List.mem_append_right _ (t1m_4 (List.mem_of_getElem? (i := 94) rfl))) rfl)⟩, by decide, by decide +kernel, by decide +kernel⟩
theorem fl_X10_110 : FlR RX10 110 10 42 := ⟨⟨_, _, _, rfl, by decide, iw_X10, (TTm (List.mem_append_right _ (t1m_4 (List.mem_of_getElem? (i := 95) rfl))) rfl)⟩, by decide, by decide +kernel, by decide +kernel⟩
theorem fl_X10_113 : FlR RX10 113 10 43 := ⟨⟨_, _, _, rfl, by decide, iw_X10, (TTm (List.mem_append_right _ (t1m_4 (List.mem_of_getElem? (i := 96) rfl))) rfl)⟩, by decide, by decide +kernel, by decide +kernel⟩
theorem fl_X10_116 : FlR RX10 116 10 46 := ⟨⟨_, _, _, rfl, by decide, iw_X10, (TTm (List.mem_append_right _ (t1m_4 (List.mem_of_getElem? (i := 99) rfl))) rfl)⟩, by decide, by decide +kernel, by decide +kernel⟩
theorem fl_X10_119 : FlR RX10 119 10 47 := ⟨⟨_, _, _, rfl, by decide, iw_X10, (TTm (List.mem_append_right _ (t1m_4 (List.mem_of_getElem? (i := 100) rfl))) rfl)⟩, by decide, by decide +kernel, by decide +kernel⟩
theorem fl_X10_122 : FlR RX10 122 10 48 := ⟨⟨_, _, _, rfl, by decide, iw_X10, (TTm (List.mem_append_right _ (t1m_4 (List.mem_of_getElem? (i := 101) rfl))) rfl)⟩, by decide, by decide +kernel, by decide +kernel⟩
theorem fl_X10_125 : FlR RX10 125 10 49 := ⟨⟨_, _, _, rfl, by decide, iw_X10, (TTm (List.mem_append_right _ (t1m_4 (List.mem_of_getElem? (i := 102) rfl))) rfl)⟩, by decide, by decide +kernel, by decide +kernel⟩
theorem fl_X10_128 : FlR RX10 128 10 50 := ⟨⟨_, _, _, rfl, by decide, iw_X10, (TTm (List.mem_append_right _ (t1m_4 (List.mem_of_getElem? (i := 103) rfl))) rfl)⟩, by decide, by decide +kernel, by decide +kernel⟩
theorem fl_X10_131 : FlR RX10 131 10 51 := ⟨⟨_, _, _, rfl, by decide, iw_X10, (TTm (List.mem_append_right _ (t1m_4 (List.mem_of_getElem? (i := 104) rfl))) rfl)⟩, by decide, by decide +kernel, by decide +kernel⟩
theorem fl_X10_134 : FlR RX10 134 10 52 := ⟨⟨_, _, _, rfl, by decide, iw_X10, (TTm (List.mem_append_right _ (t1m_4 (List.mem_of_getElem? (i := 105) rfl))) rfl)⟩, by decide, by decide +kernel, by decide +kernel⟩
theorem fl_X10_137 : FlR RX10 137 10 53 := ⟨⟨_, _, _, rfl, by decide, iw_X10, (TTm (List.mem_append_right _ (t1m_4 (List.mem_of_getElem? (i := 106) rfl))) rfl)⟩, by decide, by decide +kernel, by decide +kernel⟩
theorem fl_X10_140 : FlR RX10 140 10 54 := ⟨⟨_, _, _, rfl, by decide, iw_X10, (TTm (List.mem_append_right _ (t1m_4 (List.mem_of_getElem? (i := 107) rfl))) rfl)⟩, by decide, by decide +kernel, by decide +kernel⟩
theorem fl_X10_143 : FlR RX10 143 10 55 := ⟨⟨_, _, _, rfl, by decide, iw_X10, (TTm (List.mem_append_right _ (t1m_4 (List.mem_of_getElem? (i := 108) rfl))) rfl)⟩, by decide, by decide +kernel, by decide +kernel⟩
theorem fl_X10_146 : FlR RX10 146 10 56 := ⟨⟨_, _, _, rfl, by decide, iw_X10, (TTm (List.mem_append_right _ (t1m_4 (List.mem_of_getElem? (i := 109) rfl))) rfl)⟩, by decide, by decide +kernel, by decide +kernel⟩
theorem fl_X10_149 : FlR RX10 149 10 57 := ⟨⟨_, _, _, rfl, by decide, iw_X10, (TTm (List.mem_append_right _ (t1m_4 (List.mem_of_getElem? (i := 110) rfl))) rfl)⟩, by decide, by decide +kernel, by decide +kernel⟩
theorem fl_X10_152 : FlR RX10 152 10 58 := ⟨⟨_, _, _, rfl, by decide, iw_X10, (TTm (List.mem_append_right _ (t1m_4 (List.mem_of_getElem? (i := 111) rfl))) rfl)⟩, by decide, by decide +kernel, by decide +kernel⟩
theorem fl_X10_155 : FlR RX10 155 10 59 := ⟨⟨_, _, _, rfl, by decide, iw_X10, (TTm (List.mem_append_right _ (t1m_4 (List.mem_of_getElem? (i := 112) rfl))) rfl)⟩, by decide, by decide +kernel, by decide +kernel⟩
theorem fl_X10_158 : FlR RX10 158 10 63 := ⟨⟨_, _, _, rfl, by decide, iw_X10, (TTm (List.mem_append_right _ (t1m_4 (List.mem_of_getElem? (i := 116) rfl))) rfl)⟩, by decide, by decide +kernel, by decide +kernel⟩
theorem fl_X10_161 : FlR RX10 161 10 64 := ⟨⟨_, _, _, rfl, by decide, iw_X10, (TTm (List.mem_append_right _ (t1m_4 (List.mem_of_getElem? (i := 117) rfl))) rfl)⟩, by decide, by decide +kernel, by decide +kernel⟩
theorem fl_X10_164 : FlR RX10 164 10 65 := ⟨⟨_, _, _, rfl, by decide, iw_X10, (TTm (List.mem_append_right _ (t1m_4 (List.mem_of_getElem? (i := 118) rfl))) rfl)⟩, by decide, by decide +kernel, by decide +kernel⟩
theorem fl_X10_171 : FlI RX10 171 10 15 := ⟨⟨_, _, _, rfl, by decide, iw_X10, (TTm (List.mem_append_right _ (t1m_4 (List.mem_of_getElem? (i := 68) rfl))) rfl)⟩, by decide, by decide +kernel, by decide +kernel⟩
theorem fl_X10_209 : FlI RX10 209 10 25 := ⟨⟨_, _, _, rfl, by decide, iw_X10, (TTm (List.mem_append_right _ (t1m_4 (List.mem_of_getElem? (i := 78) rfl))) rfl)⟩, by decide, by decide +kernel, by decide +kernel⟩
theorem fl_X10_212 : FlI RX10 212 10 28 := ⟨⟨_, _, _, rfl, by decide, iw_X10, (TTm (List.mem_append_right _ (t1m_4 (List.mem_of_getElem? (i := 81) rfl))) rfl)⟩, by decide, by decide +kernel, by decide +kernel⟩
theorem fl_X10_215 : FlI RX10 215 10 29 := ⟨⟨_, _, _, rfl, by decide, iw_X10, (TTm (List.mem_append_right _ (t1m_4 (List.mem_of_getElem? (i := 82) rfl))) rfl)⟩, by decide, by decide +kernel, by decide +kernel⟩
theorem fl_X10_218 : FlI RX10 218 10 26 := ⟨⟨_, _, _, rfl, by decide, iw_X10, (TTm (List.mem_append_right _ (t1m_4 (List.mem_of_getElem? (i := 79) rfl))) rfl)⟩, by decide, by decide +kernel, by decide +kernel⟩
theorem fl_X10_221 : FlI RX10 221 10 27 := ⟨⟨_, _, _, rfl, by decide, iw_X10, (TTm (List.mem_append_right _ (t1m_4 (List.mem_of_getElem? (i := 80) rfl))) rfl)⟩, by decide, by decide +kernel, by decide +kernel⟩
theorem fl_X10_224 : FlI RX10 224 10 44 := ⟨⟨_, _, _, rfl, by decide, iw_X10, (TTm (List.mem_append_right _ (t1m_4 (List.mem_of_getElem? (i := 97) rfl))) rfl)⟩, by decide, by decide +kernel, by decide +kernel⟩
theorem fl_X10_227 : FlI RX10 227 10 45 := ⟨⟨_, _, _, rfl, by decide, iw_X10, (TTm (List.mem_append_right _ (t1m_4 (List.mem_of_getElem? (i := 98) rfl))) rfl)⟩, by decide, by decide +kernel, by decide +kernel⟩
theorem fl_X10_233 : FlI RX10 233 10 33 := ⟨⟨_, _, _, rfl, by decide, iw_X10, (TTm (List.mem_append_right _ (t1m_4 (List.mem_of_getElem? (i := 86) rfl))) rfl)⟩, by decide, by decide +kernel, by decide +kernel⟩
theorem fl_X10_236 : FlI RX10 236 10 32 := ⟨⟨_, _, _, rfl, by decide, iw_X10, (TTm (List.mem_append_right _ (t1m_4 (List.mem_of_getElem? (i := 85) rfl))) rfl)⟩, by decide, by decide +kernel, by decide +kernel⟩
theorem fl_X10_273 : FlI RX10 273 10 30 := ⟨⟨_, _, _, rfl, by decide, iw_X10, (TTm (List.mem_append_right _ (t1m_4 (List.mem_of_getElem? (i := 83) rfl))) rfl)⟩, by decide, by decide +kernel, by decide +kernel⟩
theorem fl_X10_315 : FlI RX10 315 10 60 := ⟨⟨_, _, _, rfl, by decide, iw_X10, (TTm (List.mem_append_right _ (t1m_4 (List.mem_of_getElem? (i := 113) rfl))) rfl)⟩, by decide, by decide +kernel, by decide +kernel⟩
theorem fl_X10_318 : FlI RX10 318 10 61 := ⟨⟨_, _, _, rfl, by decide, iw_X10, (TTm (List.mem_append_right _ (t1m_4 (List.mem_of_getElem? (i := 114) rfl))) rfl)⟩, by decide, by decide +kernel, by decide +kernel⟩
theorem fl_X10_321 : FlI RX10 321 10 62 := ⟨⟨_, _, _, rfl, by decide, iw_X10, (TTm (List.mem_append_right _ (t1m_4 (List.mem_of_getElem? (i := 115) rfl))) rfl)⟩, by decide, by decide +kernel, by decide +kernel⟩
theorem fl_X10_336 : FlI RX10 336 10 66 := ⟨⟨_, _, _, rfl, by decide, iw_X10, (TTm (List.mem_append_right _ (t1m_4 (List.mem_of_getElem? (i := 119) rfl))) rfl)⟩, by decide, by decide +kernel, by decide +kernel⟩
theorem fl_X2_9 : FlR RX2 9 2 3 := ⟨⟨_, _, _, rfl, by decide, iw_X2, (TTm (List.mem_append_right _ (t1m_1 (List.mem_of_getElem? (i := 120) rfl))) rfl)⟩, by decide, by decide +kernel, by decide +kernel⟩
theorem fl_X2_21 : FlR RX2 21 0 0 := ⟨⟨_, _, _, rfl, by decide, iw_X0, (TTm (List.mem_append_right _ (t1m_1 (List.mem_of_getElem? (i := 226) rfl))) rfl)⟩, by decide, by decide +kernel, by decide +kernel⟩
theorem fl_X2_27 : FlI RX2 27 1 2 := ⟨⟨_, _, _, rfl, by decide, iw_X1, (TTm (List.mem_append_right _ (t1m_1 (List.mem_of_getElem? (i := 59) rfl))) rfl)⟩, by decide, by decide +kernel, by decide +kernel⟩
theorem fl_X2_33 : FlI RX2 33 1 1 := ⟨⟨_, _, _, rfl, by decide, iw_X1, (TTm (List.mem_append_right _ (t1m_1 (List.mem_of_getElem? (i := 54) rfl))) rfl)⟩, by decide, by decide +kernel, by decide +kernel⟩
theorem fl_X2_40 : FlI RX2 40 0 4 := ⟨⟨_, _, _, rfl, by decide, iw_X0, (TTm (List.mem_append_right _ (t1m_1 (List.mem_of_getElem? (i := 238) rfl))) rfl)⟩, by decide, by decide +kernel, by decide +kernel⟩
theorem fl_X2_55 : FlI RX2 55 0 3 := ⟨⟨_, _, _, rfl, by decide, iw_X0, (TTm (List.mem_append_right _ (t1m_1 (List.mem_of_getElem? (i := 235) rfl))) rfl)⟩, by decide, by decide +kernel, by decide +kernel⟩
theorem fl_X2_67 : FlI RX2 67 0 7 := ⟨⟨_, _, _, rfl, by decide, iw_X0, (TTm (List.mem_append_right _ (t1m_2 (List.mem_of_getElem? (i := 4) rfl))) rfl)⟩, by decide, by decide +kernel, by decide +kernel⟩
theorem fl_X2_70 : FlI RX2 70 0 6 := ⟨⟨_, _, _, rfl, by decide, iw_X0, (TTm (List.mem_append_right _ (t1m_2 (List.mem_of_getElem? (i := 2) rfl))) rfl)⟩, by decide, by decide +kernel, by decide +kernel⟩
theorem fl_X2_73 : FlI RX2 73 4 4 := ⟨⟨_, _, _, rfl, by decide, iw_X4, (TTm (List.mem_append_right _ (t1m_1 (List.mem_of_getElem? (i := 183) rfl))) rfl)⟩, by decide, by decide +kernel, by decide +kernel⟩
theorem fl_X2_82 : FlI RX2 82 0 5 := ⟨⟨_, _, _, rfl, by decide, iw_X0, (TTm (List.mem_append_right _ (t1m_2 (List.mem_of_getElem? (i := 0) rfl))) rfl)⟩, by decide, by decide +kernel, by decide +kernel⟩
theorem fl_X2_85 : FlI RX2 85 4 1 := ⟨⟨_, _, _, rfl, by decide, iw_X4, (TTm (List.mem_append_right _ (t1m_1 (List.mem_of_getElem? (i := 175) rfl))) rfl)⟩, by decide, by decide +kernel, by decide +kernel⟩
theorem fl_X2_95 : FlI RX2 95 4 2 := ⟨⟨_, _, _, rfl, by decide, iw_X4, (TTm (List.mem_append_right _ (t1m_1 (List.mem_of_getElem? (i := 178) rfl))) rfl)⟩, by decide, by decide +kernel, by decide +kernel⟩
theorem fl_X2_98 : FlR RX2 98 0 1 := ⟨⟨_, _, _, rfl, by decide, iw_X0, (TTm (List.mem_append_right _ (t1m_1 (List.mem_of_getElem? (i := 229) rfl))) rfl)⟩, by decide, by decide +kernel, by decide +kernel⟩
theorem fl_X2_115 : FlI RX2 115 2 0 := ⟨⟨_, _, _, rfl, by decide, iw_X2, (TTm (List.mem_append_right _ (t1m_1 (List.mem_of_getElem? (i := 112) rfl))) rfl)⟩, by decide, by decide +kernel, by decide +kernel⟩
theorem fl_X2_118 : FlI RX2 118 2 1 := ⟨⟨_, _, _, rfl, by decide, iw_X2, (TTm (List.mem_append_right _ (t1m_1 (List.mem_of_getElem? (i := 115) rfl))) rfl)⟩, by decide, by decide +kernel, by decide +kernel⟩
theorem fl_X2_121 : FlI RX2 121 2 2 := ⟨⟨_, _, _, rfl, by decide, iw_X2, (TTm (List.mem_append_right _ (t1m_1 (List.mem_of_getElem? (i := 118) rfl))) rfl)⟩, by decide, by decide +kernel, by decide +kernel⟩
theorem fl_X3_7 : FlI RX3 7 3 0 := ⟨⟨_, _, _, rfl, by decide, iw_X3, (TTm (List.mem_append_right _ (t1m_1 (List.mem_of_getElem? (i := 142) rfl))) rfl)⟩, by decide, by decide +kernel, by decide +kernel⟩
theorem fl_X3_13 : FlI RX3 13 3 2 := ⟨⟨_, _, _, rfl, by decide, iw_X3, (TTm (List.mem_append_right _ (t1m_1 (List.mem_of_getElem? (i := 146) rfl))) rfl)⟩, by decide, by decide +kernel, by decide +kernel⟩
theorem fl_X3_16 : FlI RX3 16 3 3 := ⟨⟨_, _, _, rfl, by decide, iw_X3, (TTm (List.mem_append_right _ (t1m_1 (List.mem_of_getElem? (i := 147) rfl))) rfl)⟩, by decide, by decide +kernel, by decide +kernel⟩
theorem fl_X3_19 : FlI RX3 19 3 4 := ⟨⟨_, _, _, rfl, by decide, iw_X3, (TTm (List.mem_append_right _ (t1m_1 (List.mem_of_getElem? (i := 148) rfl))) rfl)⟩, by decide, by decide +kernel, by decide +kernel⟩
theorem fl_X3_22 : FlI RX3 22 3 5 := ⟨⟨_, _, _, rfl, by decide, iw_X3, (TTm (List.mem_append_right _ (t1m_1 (List.mem_of_getElem? (i := 150) rfl))) rfl)⟩, by decide, by decide +kernel, by decide +kernel⟩
theorem fl_X3_29 : FlI RX3 29 3 1 := ⟨⟨_, _, _, rfl, by decide, iw_X3, (TTm (List.mem_append_right _ (t1m_1 (List.mem_of_getElem? (i := 144) rfl))) rfl)⟩, by decide, by decide +kernel, by decide +kernel⟩
theorem fl_X3_32 : FlI RX3 32 3 6 := ⟨⟨_, _, _, rfl, by decide, iw_X3, (TTm (List.mem_append_right _ (t1m_1 (List.mem_of_getElem? (i := 152) rfl))) rfl)⟩, by decide, by decide +kernel, by decide +kernel⟩
theorem fl_X3_35 : FlI RX3 35 3 7 := ⟨⟨_, _, _, rfl, by decide, iw_X3, (TTm (List.mem_append_right _ (t1m_1 (List.mem_of_getElem? (i := 153) rfl))) rfl)⟩, by decide, by decide +kernel, by decide +kernel⟩
theorem fl_X4_9 : FlR RX4 9 4 5 := ⟨⟨_, _, _, rfl, by decide, iw_X4, (TTm (List.mem_append_right _ (t1m_1 (List.mem_of_getElem? (i := 185) rfl))) rfl)⟩, by decide, by decide +kernel, by decide +kernel⟩
theorem fl_X4_17 : FlR RX4 17 4 9 := ⟨⟨_, _, _, rfl, by decide, iw_X4, (TTm (List.mem_append_right _ (t1m_1 (List.mem_of_getElem? (i := 190) rfl))) rfl)⟩, by decide, by decide +kernel, by decide +kernel⟩
theorem fl_X4_21 : FlR RX4 21 4 10 := ⟨⟨_, _, _, rfl, by decide, iw_X4, (TTm (List.mem_append_right _ (t1m_1 (List.mem_of_getElem? (i := 191) rfl))) rfl)⟩, by decide, by decide +kernel, by decide +kernel⟩
theorem fl_X4_25 : FlR RX4 25 4 11 := ⟨⟨_, _, _, rfl, by decide, iw_X4, (TTm (List.mem_append_right _ (t1m_1 (List.mem_of_getElem? (i := 192) rfl))) rfl)⟩, by decide, by decide +kernel, by decide +kernel⟩
theorem fl_X4_29 : FlI RX4 29 4 0 := ⟨⟨_, _, _, rfl, by decide, iw_X4, (TTm (List.mem_append_right _ (t1m_1 (List.mem_of_getElem? (i := 172) rfl))) rfl)⟩, by decide, by decide +kernel, by decide +kernel⟩
theorem fl_X4_33 : FlI RX4 33 4 1 := ⟨⟨_, _, _, rfl, by decide, iw_X4, (TTm (List.mem_append_right _ (t1m_1 (List.mem_of_getElem? (i := 174) rfl))) rfl)⟩, by decide, by decide +kernel, by decide +kernel⟩
theorem fl_X4_37 : FlI RX4 37 4 2 := ⟨⟨_, _, _, rfl, by decide, iw_X4, (TTm (List.mem_append_right _ (t1m_1 (List.mem_of_getElem? (i := 177) rfl))) rfl)⟩, by decide, by decide +kernel, by decide +kernel⟩
theorem fl_X4_40 : FlI RX4 40 4 6 := ⟨⟨_, _, _, rfl, by decide, iw_X4, (TTm (List.mem_append_right _ (t1m_1 (List.mem_of_getElem? (i := 187) rfl))) rfl)⟩, by decide, by decide +kernel, by decide +kernel⟩
theorem fl_X4_43 : FlI RX4 43 4 7 := ⟨⟨_, _, _, rfl, by decide, iw_X4, (TTm (List.mem_append_right _ (t1m_1 (List.mem_of_getElem? (i := 188) rfl))) rfl)⟩, by decide, by decide +kernel, by decide +kernel⟩
theorem fl_X4_46 : FlI RX4 46 4 3 := ⟨⟨_, _, _, rfl, by decide, iw_X4, (TTm (List.mem_append_right _ (t1m_1 (List.mem_of_getElem? (i := 180) rfl))) rfl)⟩, by decide, by decide +kernel, by decide +kernel⟩
theorem fl_X4_49 : FlI RX4 49 4 4 := ⟨⟨_, _, _, rfl, by decide, iw_X4, (TTm (List.mem_append_right _ (t1m_1 (List.mem_of_getElem? (i := 182) rfl))) rfl)⟩, by decide, by decide +kernel, by decide +kernel⟩
theorem fl_X4_52 : FlI RX4 52 4 8 := ⟨⟨_, _, _, rfl, by decide, iw_X4, (TTm (List.mem_append_right _ (t1m_1 (List.mem_of_getElem? (i := 189) rfl))) rfl)⟩, by decide, by decide +kernel, by decide +kernel⟩
theorem fl_X4_82 : FlI RX4 82 3 0 := ⟨⟨_, _, _, rfl, by decide, iw_X3, (TTm (List.mem_append_right _ (t1m_1 (List.mem_of_getElem? (i := 143) rfl))) rfl)⟩, by decide, by decide +kernel, by decide +kernel⟩
theorem fl_X4_89 : FlI RX4 89 3 1 := ⟨⟨_, _, _, rfl, by decide, iw_X3, (TTm (List.mem_append_right _ (t1m_1 (List.mem_of_getElem? (i := 145) rfl))) rfl)⟩, by decide, by decide +kernel, by decide +kernel⟩
theorem fl_X4_95 : FlI RX4 95 3 4 := ⟨⟨_, _, _, rfl, by decide, iw_X3, (TTm (List.mem_append_right _ (t1m_1 (List.mem_of_getElem? (i := 149) rfl))) rfl)⟩, by decide, by decide +kernel, by decide +kernel⟩
theorem fl_X4_102 : FlI RX4 102 3 5 := ⟨⟨_, _, _, rfl, by decide, iw_X3, (TTm (List.mem_append_right _ (t1m_1 (List.mem_of_getElem? (i := 151) rfl))) rfl)⟩, by decide, by decide +kernel, by decide +kernel⟩
theorem fl_X4_117 : FlI RX4 117 0 9 := ⟨⟨_, _, _, rfl, by decide, iw_X0, (TTm (List.mem_append_right _ (t1m_2 (List.mem_of_getElem? (i := 11) rfl))) rfl)⟩, by decide, by decide +kernel, by decide +kernel⟩
theorem fl_X4_122 : FlR RX4 122 0 1 := ⟨⟨_, _, _, rfl, by decide, iw_X0, (TTm (List.mem_append_right _ (t1m_1 (List.mem_of_getElem? (i := 230) rfl))) rfl)⟩, by decide, by decide +kernel, by decide +kernel⟩
theorem fl_X4_129 : FlI RX4 129 0 10 := ⟨⟨_, _, _, rfl, by decide, iw_X0, (TTm (List.mem_append_right _ (t1m_2 (List.mem_of_getElem? (i := 14) rfl))) rfl)⟩, by decide, by decide +kernel, by decide +kernel⟩
theorem fl_X4_135 : FlI RX4 135 0 11 := ⟨⟨_, _, _, rfl, by decide, iw_X0, (TTm (List.mem_append_right _ (t1m_2 (List.mem_of_getElem? (i := 17) rfl))) rfl)⟩, by decide, by decide +kernel, by decide +kernel⟩
theorem fl_X4_138 : FlI RX4 138 0 3 := ⟨⟨_, _, _, rfl, by decide, iw_X0, (TTm (List.mem_append_right _ (t1m_1 (List.mem_of_getElem? (i := 236) rfl))) rfl)⟩, by decide, by decide +kernel, by decide +kernel⟩
theorem fl_X5_9 : FlR RX5 9 5 0 := ⟨⟨_, _, _, rfl, by decide, iw_X5, (TTm (List.mem_append_right _ (t1m_2 (List.mem_of_getElem? (i := 66) rfl))) rfl)⟩, by decide, by decide +kernel, by decide +kernel⟩
theorem fl_X5_15 : FlR RX5 15 5 2 := ⟨⟨_, _, _, rfl, by decide, iw_X5, (TTm (List.mem_append_right _ (t1m_2 (List.mem_of_getElem? (i := 69) rfl))) rfl)⟩, by decide, by decide +kernel, by decide +kernel⟩
theorem fl_X5_18 : FlR RX5 18 5 3 := ⟨⟨_, _, _, rfl, by decide, iw_X5, (TTm (List.mem_append_right _ (t1m_2 (List.mem_of_getElem? (i := 70) rfl))) rfl)⟩, by decide, by decide +kernel, by decide +kernel⟩
theorem fl_X5_21 : FlR RX5 21 5 4 := ⟨⟨_, _, _, rfl, by decide, iw_X5, (TTm (List.mem_append_right _ (t1m_2 (List.mem_of_getElem? (i := 71) rfl))) rfl)⟩, by decide, by decide +kernel, by decide +kernel⟩
theorem fl_X5_24 : FlR RX5 24 5 1 := ⟨⟨_, _, _, rfl, by decide, iw_X5, (TTm (List.mem_append_right _ (t1m_2 (List.mem_of_getElem? (i := 68) rfl))) rfl)⟩, by decide, by decide +kernel, by decide +kernel⟩
theorem fl_X5_38 : FlI RX5 38 5 6 := ⟨⟨_, _, _, rfl, by decide, iw_X5, (TTm (List.mem_append_right _ (t1m_2 (List.mem_of_getElem? (i := 73) rfl))) rfl)⟩, by decide, by decide +kernel, by decide +kernel⟩
theorem fl_X5_46 : FlI RX5 46 5 5 := ⟨⟨_, _, _, rfl, by decide, iw_X5, (TTm (List.mem_append_right _ (t1m_2 (List.mem_of_getElem? (i := 72) rfl))) rfl)⟩, by decide, by decide +kernel, by decide +kernel⟩
theorem fl_X5_49 : FlR RX5 49 8 1 := ⟨⟨_, _, _, rfl, by decide, iw_X8, (TTm (List.mem_append_right _ (t1m_2 (List.mem_of_getElem? (i := 46) rfl))) rfl)⟩, by decide, by decide +kernel, by decide +kernel⟩
theorem fl_X5_55 : FlI RX5 55 0 2 := ⟨⟨_, _, _, rfl, by decide, iw_X0, (TTm (List.mem_append_right _ (t1m_1 (List.mem_of_getElem? (i := 233) rfl))) rfl)⟩, by decide, by decide +kernel, by decide +kernel⟩
theorem fl_X6_12 : FlR RX6 12 6 0 := ⟨⟨_, _, _, rfl, by decide, iw_X6, (TTm (List.mem_append_right _ (t1m_1 (List.mem_of_getElem? (i := 70) rfl))) rfl)⟩, by decide, by decide +kernel, by decide +kernel⟩
theorem fl_X6_18 : FlI RX6 18 6 2 := ⟨⟨_, _, _, rfl, by decide, iw_X6, (TTm (List.mem_append_right _ (t1m_1 (List.mem_of_getElem? (i := 74) rfl))) rfl)⟩, by decide, by decide +kernel, by decide +kernel⟩
theorem fl_X6_22 : FlR RX6 22 6 3 := ⟨⟨_, _, _, rfl, by decide, iw_X6, (TTm (List.mem_append_right _ (t1m_1 (List.mem_of_getElem? (i := 76) rfl))) rfl)⟩, by decide, by decide +kernel, by decide +kernel⟩
theorem fl_X6_26 : FlI RX6 26 6 4 := ⟨⟨_, _, _, rfl, by decide, iw_X6, (TTm (List.mem_append_right _ (t1m_1 (List.mem_of_getElem? (i := 77) rfl))) rfl)⟩, by decide, by decide +kernel, by decide +kernel⟩
theorem fl_X6_29 : FlI RX6 29 6 1 := ⟨⟨_, _, _, rfl, by decide, iw_X6, (TTm (List.mem_append_right _ (t1m_1 (List.mem_of_getElem? (i := 72) rfl))) rfl)⟩, by decide, by decide +kernel, by decide +kernel⟩
theorem fl_X6_44 : FlI RX6 44 6 5 := ⟨⟨_, _, _, rfl, by decide, iw_X6, (TTm (List.mem_append_right _ (t1m_1 (List.mem_of_getElem? (i := 78) rfl))) rfl)⟩, by decide, by decide +kernel, by decide +kernel⟩
theorem fl_X6_47 : FlI RX6 47 1 1 := ⟨⟨_, _, _, rfl, by decide, iw_X1, (TTm (List.mem_append_right _ (t1m_1 (List.mem_of_getElem? (i := 55) rfl))) rfl)⟩, by decide, by decide +kernel, by decide +kernel⟩
theorem fl_X6_48 : FlI RX6 48 6 6 := ⟨⟨_, _, _, rfl, by decide, iw_X6, (TTm (List.mem_append_right _ (t1m_1 (List.mem_of_getElem? (i := 79) rfl))) rfl)⟩, by decide, by decide +kernel, by decide +kernel⟩
theorem fl_X6_51 : FlI RX6 51 1 2 := ⟨⟨_, _, _, rfl, by decide, iw_X1, (TTm (List.mem_append_right _ (t1m_1 (List.mem_of_getElem? (i := 60) rfl))) rfl)⟩, by decide, by decide +kernel, by decide +kernel⟩
theorem fl_X6_90 : FlI RX6 90 7 1 := ⟨⟨_, _, _, rfl, by decide, iw_X7, (TTm (List.mem_append_right _ (t1m_1 (List.mem_of_getElem? (i := 33) rfl))) rfl)⟩, by decide, by decide +kernel, by decide +kernel⟩
theorem fl_X7_11 : FlR RX7 11 7 0 := ⟨⟨_, _, _, rfl, by decide, iw_X7, (TTm (List.mem_append_right _ (t1m_1 (List.mem_of_getElem? (i := 30) rfl))) rfl)⟩, by decide, by decide +kernel, by decide +kernel⟩
theorem fl_X7_15 : FlI RX7 15 7 1 := ⟨⟨_, _, _, rfl, by decide, iw_X7, (TTm (List.mem_append_right _ (t1m_1 (List.mem_of_getElem? (i := 31) rfl))) rfl)⟩, by decide, by decide +kernel, by decide +kernel⟩
theorem fl_X8_11 : FlR RX8 11 8 0 := ⟨⟨_, _, _, rfl, by decide, iw_X8, (TTm (List.mem_append_right _ (t1m_2 (List.mem_of_getElem? (i := 43) rfl))) rfl)⟩, by decide, by decide +kernel, by decide +kernel⟩
theorem fl_X8_19 : FlR RX8 19 8 1 := ⟨⟨_, _, _, rfl, by decide, iw_X8, (TTm (List.mem_append_right _ (t1m_2 (List.mem_of_getElem? (i := 45) rfl))) rfl)⟩, by decide, by decide +kernel, by decide +kernel⟩
theorem fl_X8_26 : FlR RX8 26 8 2 := ⟨⟨_, _, _, rfl, by decide, iw_X8, (TTm (List.mem_append_right _ (t1m_2 (List.mem_of_getElem? (i := 48) rfl))) rfl)⟩, by decide, by decide +kernel, by decide +kernel⟩
theorem fl_X8_36 : FlI RX8 36 4 0 := ⟨⟨_, _, _, rfl, by decide, iw_X4, (TTm (List.mem_append_right _ (t1m_1 (List.mem_of_getElem? (i := 173) rfl))) rfl)⟩, by decide, by decide +kernel, by decide +kernel⟩
theorem fl_X8_40 : FlI RX8 40 0 2 := ⟨⟨_, _, _, rfl, by decide, iw_X0, (TTm (List.mem_append_right _ (t1m_1 (List.mem_of_getElem? (i := 232) rfl))) rfl)⟩, by decide, by decide +kernel, by decide +kernel⟩
theorem fl_X8_41 : FlI RX8 41 0 8 := ⟨⟨_, _, _, rfl, by decide, iw_X0, (TTm (List.mem_append_right _ (t1m_2 (List.mem_of_getElem? (i := 7) rfl))) rfl)⟩, by decide, by decide +kernel, by decide +kernel⟩
theorem fl_X9_10 : FlR RX9 10 9 0 := ⟨⟨_, _, _, rfl, by decide, iw_X9, (TTm (List.mem_append_right _ (t1m_2 (List.mem_of_getElem? (i := 89) rfl))) rfl)⟩, by decide, by decide +kernel, by decide +kernel⟩
theorem fl_X9_21 : FlR RX9 21 9 1 := ⟨⟨_, _, _, rfl, by decide, iw_X9, (TTm (List.mem_append_right _ (t1m_2 (List.mem_of_getElem? (i := 90) rfl))) rfl)⟩, by decide, by decide +kernel, by decide +kernel⟩
theorem fl_X9_28 : FlR RX9 28 9 2 := ⟨⟨_, _, _, rfl, by decide, iw_X9, (TTm (List.mem_append_right _ (t1m_2 (List.mem_of_getElem? (i := 91) rfl))) rfl)⟩, by decide, by decide +kernel, by decide +kernel⟩
theorem fl_X9_37 : FlR RX9 37 9 3 := ⟨⟨_, _, _, rfl, by decide, iw_X9, (TTm (List.mem_append_right _ (t1m_2 (List.mem_of_getElem? (i := 92) rfl))) rfl)⟩, by decide, by decide +kernel, by decide +kernel⟩
theorem fl_X9_49 : FlI RX9 49 7 1 := ⟨⟨_, _, _, rfl, by decide, iw_X7, (TTm (List.mem_append_right _ (t1m_1 (List.mem_of_getElem? (i := 32) rfl))) rfl)⟩, by decide, by decide +kernel, by decide +kernel⟩
theorem fl_X9_61 : FlR RX9 61 8 0 := ⟨⟨_, _, _, rfl, by decide, iw_X8, (TTm (List.mem_append_right _ (t1m_2 (List.mem_of_getElem? (i := 44) rfl))) rfl)⟩, by decide, by decide +kernel, by decide +kernel⟩
theorem fl_X9_78 : FlI RX9 78 4 3 := ⟨⟨_, _, _, rfl, by decide, iw_X4, (TTm (List.mem_append_right _ (t1m_1 (List.mem_of_getElem? (i := 181) rfl))) rfl)⟩, by decide, by decide +kernel, by decide +kernel⟩
theorem fl_X9_81 : FlI RX9 81 4 4 := ⟨⟨_, _, _, rfl, by decide, iw_X4, (TTm (List.mem_append_right _ (t1m_1 (List.mem_of_getElem? (i := 184) rfl))) rfl)⟩, by decide, by decide +kernel, by decide +kernel⟩
theorem fl_X9_105 : FlR RX9 105 4 5 := ⟨⟨_, _, _, rfl, by decide, iw_X4, (TTm (List.mem_append_right _ (t1m_1 (List.mem_of_getElem? (i := 186) rfl))) rfl)⟩, by decide, by decide +kernel, by decide +kernel⟩
theorem fl_X9_109 : FlI RX9 109 4 1 := ⟨⟨_, _, _, rfl, by decide, iw_X4, (TTm (List.mem_append_right _ (t1m_1 (List.mem_of_getElem? (i := 176) rfl))) rfl)⟩, by decide, by decide +kernel, by decide +kernel⟩
theorem fl_X9_112 : FlI RX9 112 4 2 := ⟨⟨_, _, _, rfl, by decide, iw_X4, (TTm (List.mem_append_right _ (t1m_1 (List.mem_of_getElem? (i := 179) rfl))) rfl)⟩, by decide, by decide +kernel, by decide +kernel⟩
theorem fl_X9_123 : FlR RX9 123 8 1 := ⟨⟨_, _, _, rfl, by decide, iw_X8, (TTm (List.mem_append_right _ (t1m_2 (List.mem_of_getElem? (i := 47) rfl))) rfl)⟩, by decide, by decide +kernel, by decide +kernel⟩
theorem fl_X9_127 : FlR RX9 127 6 0 := ⟨⟨_, _, _, rfl, by decide, iw_X6, (TTm (List.mem_append_right _ (t1m_1 (List.mem_of_getElem? (i := 71) rfl))) rfl)⟩, by decide, by decide +kernel, by decide +kernel⟩
theorem fl_X9_136 : FlR RX9 136 0 0 := ⟨⟨_, _, _, rfl, by decide, iw_X0, (TTm (List.mem_append_right _ (t1m_1 (List.mem_of_getElem? (i := 227) rfl))) rfl)⟩, by decide, by decide +kernel, by decide +kernel⟩
theorem fl_X9_143 : FlI RX9 143 6 1 := ⟨⟨_, _, _, rfl, by decide, iw_X6, (TTm (List.mem_append_right _ (t1m_1 (List.mem_of_getElem? (i := 73) rfl))) rfl)⟩, by decide, by decide +kernel, by decide +kernel⟩
theorem fl_X9_146 : FlI RX9 146 6 2 := ⟨⟨_, _, _, rfl, by decide, iw_X6, (TTm (List.mem_append_right _ (t1m_1 (List.mem_of_getElem? (i := 75) rfl))) rfl)⟩, by decide, by decide +kernel, by decide +kernel⟩
theorem fl_X9_153 : FlI RX9 153 1 1 := ⟨⟨_, _, _, rfl, by decide, iw_X1, (TTm (List.mem_append_right _ (t1m_1 (List.mem_of_getElem? (i := 57) rfl))) rfl)⟩, by decide, by decide +kernel, by decide +kernel⟩
theorem fl_X9_156 : FlI RX9 156 1 2 := ⟨⟨_, _, _, rfl, by decide, iw_X1, (TTm (List.mem_append_right _ (t1m_1 (List.mem_of_getElem? (i := 62) rfl))) rfl)⟩, by decide, by decide +kernel, by decide +kernel⟩
theorem fl_X9_159 : FlI RX9 159 0 7 := ⟨⟨_, _, _, rfl, by decide, iw_X0, (TTm (List.mem_append_right _ (t1m_2 (List.mem_of_getElem? (i := 5) rfl))) rfl)⟩, by decide, by decide +kernel, by decide +kernel⟩
theorem fl_X9_165 : FlI RX9 165 0 8 := ⟨⟨_, _, _, rfl, by decide, iw_X0, (TTm (List.mem_append_right _ (t1m_2 (List.mem_of_getElem? (i := 8) rfl))) rfl)⟩, by decide, by decide +kernel, by decide +kernel⟩
theorem fl_X9_168 : FlI RX9 168 0 9 := ⟨⟨_, _, _, rfl, by decide, iw_X0, (TTm (List.mem_append_right _ (t1m_2 (List.mem_of_getElem? (i := 10) rfl))) rfl)⟩, by decide, by decide +kernel, by decide +kernel⟩
theorem fl_X9_171 : FlI RX9 171 0 10 := ⟨⟨_, _, _, rfl, by decide, iw_X0, (TTm (List.mem_append_right _ (t1m_2 (List.mem_of_getElem? (i := 13) rfl))) rfl)⟩, by decide, by decide +kernel, by decide +kernel⟩
theorem fl_X9_174 : FlI RX9 174 0 11 := ⟨⟨_, _, _, rfl, by decide, iw_X0, (TTm (List.mem_append_right _ (t1m_2 (List.mem_of_getElem? (i := 16) rfl))) rfl)⟩, by decide, by decide +kernel, by decide +kernel⟩
theorem fl_X9_193 : FlR RX9 193 8 2 := ⟨⟨_, _, _, rfl, by decide, iw_X8, (TTm (List.mem_append_right _ (t1m_2 (List.mem_of_getElem? (i := 49) rfl))) rfl)⟩, by decide, by decide +kernel, by decide +kernel⟩
theorem fl_X9_207 : FlI RX9 207 2 0 := ⟨⟨_, _, _, rfl, by decide, iw_X2, (TTm (List.mem_append_right _ (t1m_1 (List.mem_of_getElem? (i := 113) rfl))) rfl)⟩, by decide, by decide +kernel, by decide +kernel⟩
theorem fl_X9_208 : FlI RX9 208 2 1 := ⟨⟨_, _, _, rfl, by decide, iw_X2, (TTm (List.mem_append_right _ (t1m_1 (List.mem_of_getElem? (i := 116) rfl))) rfl)⟩, by decide, by decide +kernel, by decide +kernel⟩
theorem fl_X9_209 : FlI RX9 209 2 2 := ⟨⟨_, _, _, rfl, by decide, iw_X2, (TTm (List.mem_append_right _ (t1m_1 (List.mem_of_getElem? (i := 119) rfl))) rfl)⟩, by decide, by decide +kernel, by decide +kernel⟩
theorem fl_X9_220 : FlR RX9 220 5 0 := ⟨⟨_, _, _, rfl, by decide, iw_X5, (TTm (List.mem_append_right _ (t1m_2 (List.mem_of_getElem? (i := 67) rfl))) rfl)⟩, by decide, by decide +kernel, by decide +kernel⟩
theorem fw_0_2 : Fw 0 2 .boolean := ⟨_, _, _, tyX0, rfl, tyX0_ok, nmX0, rfl, by decide +kernel⟩
theorem fw_0_3 : Fw 0 3 .int := ⟨_, _, _, tyX0, rfl, tyX0_ok, nmX0, rfl, by decide +kernel⟩
theorem fw_0_4 : Fw 0 4 .int := ⟨_, _, _, tyX0, rfl, tyX0_ok, nmX0, rfl, by decide +kernel⟩
theorem fw_0_5 : Fw 0 5 .int := ⟨_, _, _, tyX0, rfl, tyX0_ok, nmX0, rfl, by decide +kernel⟩
theorem fw_0_6 : Fw 0 6 .int := ⟨_, _, _, tyX0, rfl, tyX0_ok, nmX0, rfl, by decide +kernel⟩
theorem fw_0_7 : Fw 0 7 .int := ⟨_, _, _, tyX0, rfl, tyX0_ok, nmX0, rfl, by decide +kernel⟩
theorem fw_0_8 : Fw 0 8 .int := ⟨_, _, _, tyX0, rfl, tyX0_ok, nmX0, rfl, by decide +kernel⟩
theorem fw_0_9 : Fw 0 9 .int := ⟨_, _, _, tyX0, rfl, tyX0_ok, nmX0, rfl, by decide +kernel⟩
theorem fw_0_10 : Fw 0 10 .int := ⟨_, _, _, tyX0, rfl, tyX0_ok, nmX0, rfl, by decide +kernel⟩
theorem fw_0_11 : Fw 0 11 .int := ⟨_, _, _, tyX0, rfl, tyX0_ok, nmX0, rfl, by decide +kernel⟩
theorem fw_1_1 : Fw 1 1 .int := ⟨_, _, _, tyX1, rfl, tyX1_ok, nmX1, rfl, by decide +kernel⟩
theorem fw_1_2 : Fw 1 2 .int := ⟨_, _, _, tyX1, rfl, tyX1_ok, nmX1, rfl, by decide +kernel⟩
theorem fw_2_0 : Fw 2 0 .int := ⟨_, _, _, tyX2, rfl, tyX2_ok, nmX2, rfl, by decide +kernel⟩
theorem fw_2_1 : Fw 2 1 .int := ⟨_, _, _, tyX2, rfl, tyX2_ok, nmX2, rfl, by decide +kernel⟩
theorem fw_2_2 : Fw 2 2 .int := ⟨_, _, _, tyX2, rfl, tyX2_ok, nmX2, rfl, by decide +kernel⟩
theorem fw_3_0 : Fw 3 0 .int := ⟨_, _, _, tyX3, rfl, tyX3_ok, nmX3, rfl, by decide +kernel⟩
theorem fw_3_1 : Fw 3 1 .int := ⟨_, _, _, tyX3, rfl, tyX3_ok, nmX3, rfl, by decide +kernel⟩
theorem fw_3_2 : Fw 3 2 .int := ⟨_, _, _, tyX3, rfl, tyX3_ok, nmX3, rfl, by decide +kernel⟩
theorem fw_3_3 : Fw 3 3 .int := ⟨_, _, _, tyX3, rfl, tyX3_ok, nmX3, rfl, by decide +kernel⟩
theorem fw_3_4 : Fw 3 4 .int := ⟨_, _, _, tyX3, rfl, tyX3_ok, nmX3, rfl, by decide +kernel⟩
theorem fw_3_5 : Fw 3 5 .int := ⟨_, _, _, tyX3, rfl, tyX3_ok, nmX3, rfl, by decide +kernel⟩
theorem fw_3_6 : Fw 3 6 .int := ⟨_, _, _, tyX3, rfl, tyX3_ok, nmX3, rfl, by decide +kernel⟩
theorem fw_3_7 : Fw 3 7 .int := ⟨_, _, _, tyX3, rfl, tyX3_ok, nmX3, rfl, by decide +kernel⟩
theorem fw_4_0 : Fw 4 0 .boolean := ⟨_, _, _, tyX4, rfl, tyX4_ok, nmX4, rfl, by decide +kernel⟩
theorem fw_4_1 : Fw 4 1 .int := ⟨_, _, _, tyX4, rfl, tyX4_ok, nmX4, rfl, by decide +kernel⟩
theorem fw_4_2 : Fw 4 2 .int := ⟨_, _, _, tyX4, rfl, tyX4_ok, nmX4, rfl, by decide +kernel⟩
theorem fw_4_3 : Fw 4 3 .int := ⟨_, _, _, tyX4, rfl, tyX4_ok, nmX4, rfl, by decide +kernel⟩
theorem fw_4_4 : Fw 4 4 .int := ⟨_, _, _, tyX4, rfl, tyX4_ok, nmX4, rfl, by decide +kernel⟩
theorem fw_4_6 : Fw 4 6 .int := ⟨_, _, _, tyX4, rfl, tyX4_ok, nmX4, rfl, by decide +kernel⟩
theorem fw_4_7 : Fw 4 7 .int := ⟨_, _, _, tyX4, rfl, tyX4_ok, nmX4, rfl, by decide +kernel⟩
theorem fw_4_8 : Fw 4 8 .int := ⟨_, _, _, tyX4, rfl, tyX4_ok, nmX4, rfl, by decide +kernel⟩
theorem fw_5_5 : Fw 5 5 .int := ⟨_, _, _, tyX5, rfl, tyX5_ok, nmX5, rfl, by decide +kernel⟩
theorem fw_5_6 : Fw 5 6 .int := ⟨_, _, _, tyX5, rfl, tyX5_ok, nmX5, rfl, by decide +kernel⟩
theorem fw_6_1 : Fw 6 1 .int := ⟨_, _, _, tyX6, rfl, tyX6_ok, nmX6, rfl, by decide +kernel⟩
theorem fw_6_2 : Fw 6 2 .int := ⟨_, _, _, tyX6, rfl, tyX6_ok, nmX6, rfl, by decide +kernel⟩
theorem fw_6_4 : Fw 6 4 .int := ⟨_, _, _, tyX6, rfl, tyX6_ok, nmX6, rfl, by decide +kernel⟩
theorem fw_6_5 : Fw 6 5 .int := ⟨_, _, _, tyX6, rfl, tyX6_ok, nmX6, rfl, by decide +kernel⟩
theorem fw_6_6 : Fw 6 6 .int := ⟨_, _, _, tyX6, rfl, tyX6_ok, nmX6, rfl, by decide +kernel⟩
theorem fw_7_1 : Fw 7 1 .int := ⟨_, _, _, tyX7, rfl, tyX7_ok, nmX7, rfl, by decide +kernel⟩
theorem fw_10_15 : Fw 10 15 .int := ⟨_, _, _, tyX10, rfl, tyX10_ok, nmX10, rfl, by decide +kernel⟩
theorem fw_10_25 : Fw 10 25 .int := ⟨_, _, _, tyX10, rfl, tyX10_ok, nmX10, rfl, by decide +kernel⟩
theorem fw_10_26 : Fw 10 26 .int := ⟨_, _, _, tyX10, rfl, tyX10_ok, nmX10, rfl, by decide +kernel⟩
theorem fw_10_27 : Fw 10 27 .int := ⟨_, _, _, tyX10, rfl, tyX10_ok, nmX10, rfl, by decide +kernel⟩
theorem fw_10_28 : Fw 10 28 .int := ⟨_, _, _, tyX10, rfl, tyX10_ok, nmX10, rfl, by decide +kernel⟩
theorem fw_10_29 : Fw 10 29 .int := ⟨_, _, _, tyX10, rfl, tyX10_ok, nmX10, rfl, by decide +kernel⟩
theorem fw_10_30 : Fw 10 30 .int := ⟨_, _, _, tyX10, rfl, tyX10_ok, nmX10, rfl, by decide +kernel⟩
theorem fw_10_31 : Fw 10 31 .int := ⟨_, _, _, tyX10, rfl, tyX10_ok, nmX10, rfl, by decide +kernel⟩
theorem fw_10_32 : Fw 10 32 .int := ⟨_, _, _, tyX10, rfl, tyX10_ok, nmX10, rfl, by decide +kernel⟩
theorem fw_10_33 : Fw 10 33 .int := ⟨_, _, _, tyX10, rfl, tyX10_ok, nmX10, rfl, by decide +kernel⟩
theorem fw_10_44 : Fw 10 44 .int := ⟨_, _, _, tyX10, rfl, tyX10_ok, nmX10, rfl, by decide +kernel⟩
theorem fw_10_45 : Fw 10 45 .int := ⟨_, _, _, tyX10, rfl, tyX10_ok, nmX10, rfl, by decide +kernel⟩
theorem fw_10_60 : Fw 10 60 .int := ⟨_, _, _, tyX10, rfl, tyX10_ok, nmX10, rfl, by decide +kernel⟩
theorem fw_10_61 : Fw 10 61 .int := ⟨_, _, _, tyX10, rfl, tyX10_ok, nmX10, rfl, by decide +kernel⟩
theorem fw_10_62 : Fw 10 62 .int := ⟨_, _, _, tyX10, rfl, tyX10_ok, nmX10, rfl, by decide +kernel⟩
theorem fw_10_66 : Fw 10 66 .boolean := ⟨_, _, _, tyX10, rfl, tyX10_ok, nmX10, rfl, by decide +kernel⟩
theorem ml_X0_39 : Cond.methodLink RX0 39 yX1_copyFrom ∈ TT := (TTm (List.mem_append_right _ (t1m_3 (List.mem_of_getElem? (i := 78) rfl))) rfl)
theorem ml_X0_52 : Cond.methodLink RX0 52 yX0_notMade ∈ TT := (TTm (List.mem_append_right _ (t1m_3 (List.mem_of_getElem? (i := 85) rfl))) rfl)
theorem ml_X0_55 : Cond.methodLink RX0 55 yX0_countOffsets ∈ TT := (TTm (List.mem_append_right _ (t1m_3 (List.mem_of_getElem? (i := 86) rfl))) rfl)
theorem ml_X0_58 : Cond.methodLink RX0 58 yJ7_fill_53178 ∈ TT := (TTm (List.mem_append_right _ (t1m_3 (List.mem_of_getElem? (i := 90) rfl))) rfl)
theorem ml_X0_72 : Cond.methodLink RX0 72 yX1_offsetAt ∈ TT := (TTm (List.mem_append_right _ (t1m_3 (List.mem_of_getElem? (i := 91) rfl))) rfl)
theorem ml_X0_76 : Cond.methodLink RX0 76 Lib.Math.min.name ∈ TT := (TTm (List.mem_append_right _ (t1m_3 (List.mem_of_getElem? (i := 96) rfl))) rfl)
theorem ml_X0_81 : Cond.methodLink RX0 81 Lib.Math.max.name ∈ TT := (TTm (List.mem_append_right _ (t1m_3 (List.mem_of_getElem? (i := 97) rfl))) rfl)
theorem ml_X1_22 : (RX1, 22, yX9_isFrom) ∈ nestL := by decide +kernel
theorem ml_X1_26 : Cond.methodLink RX1 26 yX1_cellAt ∈ TT := (TTm (List.mem_append_right _ (t1m_3 (List.mem_of_getElem? (i := 53) rfl))) rfl)
theorem ml_X1_30 : Cond.methodLink RX1 30 Lib.Math.min.name ∈ TT := (TTm (List.mem_append_right _ (t1m_3 (List.mem_of_getElem? (i := 95) rfl))) rfl)
theorem ml_X1_35 : Cond.methodLink RX1 35 arraycopyName ∈ TT := (TTm (List.mem_append_right _ (t1m_3 (List.mem_of_getElem? (i := 82) rfl))) rfl)
theorem ml_X1_41 : Cond.methodLink RX1 41 yX1_setCell ∈ TT := (TTm (List.mem_append_right _ (t1m_3 (List.mem_of_getElem? (i := 57) rfl))) rfl)
theorem ml_X1_45 : Cond.methodLink RX1 45 yX1_has ∈ TT := (TTm (List.mem_append_right _ (t1m_3 (List.mem_of_getElem? (i := 122) rfl))) rfl)
theorem ml_X1_49 : Cond.methodLink RX1 49 yX1_jointBelow ∈ TT := (TTm (List.mem_append_right _ (t1m_3 (List.mem_of_getElem? (i := 127) rfl))) rfl)
theorem ml_X1_52 : Cond.methodLink RX1 52 yX1_jointBeside ∈ TT := (TTm (List.mem_append_right _ (t1m_3 (List.mem_of_getElem? (i := 136) rfl))) rfl)
theorem ml_X1_55 : Cond.methodLink RX1 55 Lib.Math.abs.name ∈ TT := (TTm (List.mem_append_right _ (t1m_3 (List.mem_of_getElem? (i := 130) rfl))) rfl)
theorem ml_X1_59 : Cond.methodLink RX1 59 yX1_differ ∈ TT := (TTm (List.mem_append_right _ (t1m_3 (List.mem_of_getElem? (i := 133) rfl))) rfl)
theorem ml_X1_62 : Cond.methodLink RX1 62 yX1_jointAt ∈ TT := (TTm (List.mem_append_right _ (t1m_3 (List.mem_of_getElem? (i := 118) rfl))) rfl)
theorem ml_X10_167 : Cond.methodLink RX10 167 yX10_isLog ∈ TT := (TTm (List.mem_append_right _ (t1m_5 (List.mem_of_getElem? (i := 30) rfl))) rfl)
theorem ml_X10_174 : Cond.methodLink RX10 174 yX10_isIn ∈ TT := (TTm (List.mem_append_right _ (t1m_5 (List.mem_of_getElem? (i := 19) rfl))) rfl)
theorem ml_X10_178 : Cond.methodLink RX10 178 yX10_goes ∈ TT := (TTm (List.mem_append_right _ (t1m_5 (List.mem_of_getElem? (i := 22) rfl))) rfl)
theorem ml_X10_182 : Cond.methodLink RX10 182 yX10_isLeaf ∈ TT := (TTm (List.mem_append_right _ (t1m_5 (List.mem_of_getElem? (i := 38) rfl))) rfl)
theorem ml_X10_186 : Cond.methodLink RX10 186 yX10_laps ∈ TT := (TTm (List.mem_append_right _ (t1m_5 (List.mem_of_getElem? (i := 62) rfl))) rfl)
theorem ml_X10_190 : Cond.methodLink RX10 190 yX10_widthOf ∈ TT := (TTm (List.mem_append_right _ (t1m_5 (List.mem_of_getElem? (i := 50) rfl))) rfl)
theorem ml_X10_194 : Cond.methodLink RX10 194 yX10_toneOf ∈ TT := (TTm (List.mem_append_right _ (t1m_5 (List.mem_of_getElem? (i := 54) rfl))) rfl)
theorem ml_X10_197 : Cond.methodLink RX10 197 yX10_isFlawed ∈ TT := (TTm (List.mem_append_right _ (t1m_5 (List.mem_of_getElem? (i := 58) rfl))) rfl)
theorem ml_X10_201 : Cond.methodLink RX10 201 yX10_isWithin ∈ TT := (TTm (List.mem_append_right _ (t1m_5 (List.mem_of_getElem? (i := 69) rfl))) rfl)
theorem ml_X10_205 : Cond.methodLink RX10 205 yX10_flawIn ∈ TT := (TTm (List.mem_append_right _ (t1m_5 (List.mem_of_getElem? (i := 73) rfl))) rfl)
theorem ml_X10_230 : Cond.methodLink RX10 230 yX10_fail ∈ TT := (TTm (List.mem_append_right _ (t1m_5 (List.mem_of_getElem? (i := 109) rfl))) rfl)
theorem ml_X10_239 : Cond.methodLink RX10 239 yX10_repeats ∈ TT := (TTm (List.mem_append_right _ (t1m_5 (List.mem_of_getElem? (i := 117) rfl))) rfl)
theorem ml_X10_242 : Cond.methodLink RX10 242 yX10_turns ∈ TT := (TTm (List.mem_append_right _ (t1m_5 (List.mem_of_getElem? (i := 121) rfl))) rfl)
theorem ml_X10_246 : Cond.methodLink RX10 246 yX10_next ∈ TT := (TTm (List.mem_append_right _ (t1m_5 (List.mem_of_getElem? (i := 101) rfl))) rfl)
theorem ml_X10_250 : Cond.methodLink RX10 250 yX10_opens ∈ TT := (TTm (List.mem_append_right _ (t1m_5 (List.mem_of_getElem? (i := 105) rfl))) rfl)
theorem ml_X10_254 : Cond.methodLink RX10 254 yX10_begins ∈ TT := (TTm (List.mem_append_right _ (t1m_5 (List.mem_of_getElem? (i := 93) rfl))) rfl)
theorem ml_X10_257 : Cond.methodLink RX10 257 yX10_parts ∈ TT := (TTm (List.mem_append_right _ (t1m_5 (List.mem_of_getElem? (i := 97) rfl))) rfl)
theorem ml_X10_261 : Cond.methodLink RX10 261 yX10_comes ∈ TT := (TTm (List.mem_append_right _ (t1m_5 (List.mem_of_getElem? (i := 113) rfl))) rfl)
theorem ml_X10_264 : Cond.methodLink RX10 264 yX10_ends ∈ TT := (TTm (List.mem_append_right _ (t1m_5 (List.mem_of_getElem? (i := 125) rfl))) rfl)
theorem ml_X10_267 : Cond.methodLink RX10 267 yX10_rowIsPart ∈ TT := (TTm (List.mem_append_right _ (t1m_5 (List.mem_of_getElem? (i := 129) rfl))) rfl)
theorem ml_X10_270 : Cond.methodLink RX10 270 yX10_draws ∈ TT := (TTm (List.mem_append_right _ (t1m_5 (List.mem_of_getElem? (i := 89) rfl))) rfl)
theorem ml_X10_276 : Cond.methodLink RX10 276 yX10_isDoor ∈ TT := (TTm (List.mem_append_right _ (t1m_5 (List.mem_of_getElem? (i := 141) rfl))) rfl)
theorem ml_X10_279 : Cond.methodLink RX10 279 yX10_pieceOf ∈ TT := (TTm (List.mem_append_right _ (t1m_5 (List.mem_of_getElem? (i := 145) rfl))) rfl)
theorem ml_X10_283 : Cond.methodLink RX10 283 yX10_jointOf ∈ TT := (TTm (List.mem_append_right _ (t1m_5 (List.mem_of_getElem? (i := 149) rfl))) rfl)
theorem ml_X10_287 : Cond.methodLink RX10 287 yX10_joint ∈ TT := (TTm (List.mem_append_right _ (t1m_5 (List.mem_of_getElem? (i := 164) rfl))) rfl)
theorem ml_X10_291 : Cond.methodLink RX10 291 yX10_greatest ∈ TT := (TTm (List.mem_append_right _ (t1m_5 (List.mem_of_getElem? (i := 156) rfl))) rfl)
theorem ml_X10_295 : Cond.methodLink RX10 295 yX10_joints ∈ TT := (TTm (List.mem_append_right _ (t1m_5 (List.mem_of_getElem? (i := 160) rfl))) rfl)
theorem ml_X10_298 : Cond.methodLink RX10 298 yX10_isCut ∈ TT := (TTm (List.mem_append_right _ (t1m_5 (List.mem_of_getElem? (i := 177) rfl))) rfl)
theorem ml_X10_301 : Cond.methodLink RX10 301 yX10_hasTones ∈ TT := (TTm (List.mem_append_right _ (t1m_5 (List.mem_of_getElem? (i := 181) rfl))) rfl)
theorem ml_X10_304 : Cond.methodLink RX10 304 yX10_counts ∈ TT := (TTm (List.mem_append_right _ (t1m_5 (List.mem_of_getElem? (i := 193) rfl))) rfl)
theorem ml_X10_308 : Cond.methodLink RX10 308 yX10_hasLeaves ∈ TT := (TTm (List.mem_append_right _ (t1m_5 (List.mem_of_getElem? (i := 197) rfl))) rfl)
theorem ml_X10_311 : Cond.methodLink RX10 311 yX10_fits ∈ TT := (TTm (List.mem_append_right _ (t1m_5 (List.mem_of_getElem? (i := 201) rfl))) rfl)
theorem ml_X10_324 : Cond.methodLink RX10 324 yX10_places ∈ TT := (TTm (List.mem_append_right _ (t1m_5 (List.mem_of_getElem? (i := 189) rfl))) rfl)
theorem ml_X10_327 : Cond.methodLink RX10 327 yX10_cuts ∈ TT := (TTm (List.mem_append_right _ (t1m_5 (List.mem_of_getElem? (i := 209) rfl))) rfl)
theorem ml_X10_330 : Cond.methodLink RX10 330 yX10_logsOf ∈ TT := (TTm (List.mem_append_right _ (t1m_5 (List.mem_of_getElem? (i := 217) rfl))) rfl)
theorem ml_X10_333 : Cond.methodLink RX10 333 yX10_isPlaced ∈ TT := (TTm (List.mem_append_right _ (t1m_5 (List.mem_of_getElem? (i := 221) rfl))) rfl)
theorem ml_X2_15 : Cond.methodLink RX2 15 yJ7_fill_53178 ∈ TT := (TTm (List.mem_append_right _ (t1m_3 (List.mem_of_getElem? (i := 166) rfl))) rfl)
theorem ml_X2_36 : Cond.methodLink RX2 36 yX1_offsetAt ∈ TT := (TTm (List.mem_append_right _ (t1m_3 (List.mem_of_getElem? (i := 167) rfl))) rfl)
theorem ml_X2_41 : Cond.methodLink RX2 41 yX2_reasonOfCut ∈ TT := (TTm (List.mem_append_right _ (t1m_3 (List.mem_of_getElem? (i := 168) rfl))) rfl)
theorem ml_X2_45 : Cond.methodLink RX2 45 yX2_areTonesApart ∈ TT := (TTm (List.mem_append_right _ (t1m_3 (List.mem_of_getElem? (i := 184) rfl))) rfl)
theorem ml_X2_49 : Cond.methodLink RX2 49 yX4_hasLeaf ∈ TT := (TTm (List.mem_append_right _ (t1m_3 (List.mem_of_getElem? (i := 171) rfl))) rfl)
theorem ml_X2_56 : Cond.methodLink RX2 56 yX4_holds ∈ TT := (TTm (List.mem_append_right _ (t1m_3 (List.mem_of_getElem? (i := 172) rfl))) rfl)
theorem ml_X2_60 : Cond.methodLink RX2 60 yX4_isFlawed ∈ TT := (TTm (List.mem_append_right _ (t1m_3 (List.mem_of_getElem? (i := 173) rfl))) rfl)
theorem ml_X2_64 : Cond.methodLink RX2 64 yX4_isCut ∈ TT := (TTm (List.mem_append_right _ (t1m_3 (List.mem_of_getElem? (i := 180) rfl))) rfl)
theorem ml_X2_76 : Cond.methodLink RX2 76 Lib.Math.abs.name ∈ TT := (TTm (List.mem_append_right _ (t1m_3 (List.mem_of_getElem? (i := 187) rfl))) rfl)
theorem ml_X2_88 : Cond.methodLink RX2 88 yX2_findFrom ∈ TT := (TTm (List.mem_append_right _ (t1m_3 (List.mem_of_getElem? (i := 196) rfl))) rfl)
theorem ml_X2_92 : Cond.methodLink RX2 92 yX4_widthOf ∈ TT := (TTm (List.mem_append_right _ (t1m_3 (List.mem_of_getElem? (i := 200) rfl))) rfl)
theorem ml_X2_101 : Cond.methodLink RX2 101 Lib.Math.min.name ∈ TT := (TTm (List.mem_append_right _ (t1m_3 (List.mem_of_getElem? (i := 201) rfl))) rfl)
theorem ml_X2_104 : Cond.methodLink RX2 104 yX0_stackHigh ∈ TT := (TTm (List.mem_append_right _ (t1m_3 (List.mem_of_getElem? (i := 202) rfl))) rfl)
theorem ml_X2_107 : Cond.methodLink RX2 107 yX2_takenColumns ∈ TT := (TTm (List.mem_append_right _ (t1m_3 (List.mem_of_getElem? (i := 206) rfl))) rfl)
theorem ml_X2_111 : Cond.methodLink RX2 111 yX2_firstFree ∈ TT := (TTm (List.mem_append_right _ (t1m_3 (List.mem_of_getElem? (i := 213) rfl))) rfl)
theorem ml_X2_124 : Cond.methodLink RX2 124 yX4_takenColumns ∈ TT := (TTm (List.mem_append_right _ (t1m_3 (List.mem_of_getElem? (i := 209) rfl))) rfl)
theorem ml_X2_127 : Cond.methodLink RX2 127 yX4_mask ∈ TT := (TTm (List.mem_append_right _ (t1m_3 (List.mem_of_getElem? (i := 216) rfl))) rfl)
theorem ml_X3_25 : Cond.methodLink RX3 25 yX3_driftTo ∈ TT := (TTm (List.mem_append_right _ (t1m_2 (List.mem_of_getElem? (i := 171) rfl))) rfl)
theorem ml_X3_38 : (RX3, 38, yX9_isFrom) ∈ nestL := by decide +kernel
theorem ml_X3_44 : Cond.methodLink RX3 44 yX3_leftIn ∈ TT := (TTm (List.mem_append_right _ (t1m_2 (List.mem_of_getElem? (i := 227) rfl))) rfl)
theorem ml_X3_48 : Cond.methodLink RX3 48 yX3_topIn ∈ TT := (TTm (List.mem_append_right _ (t1m_2 (List.mem_of_getElem? (i := 228) rfl))) rfl)
theorem ml_X4_55 : Cond.methodLink RX4 55 yJ7_fill_53178 ∈ TT := (TTm (List.mem_append_right _ (t1m_2 (List.mem_of_getElem? (i := 134) rfl))) rfl)
theorem ml_X4_61 : Cond.methodLink RX4 61 yJ7_fill_d0a16 ∈ TT := (TTm (List.mem_append_right _ (t1m_2 (List.mem_of_getElem? (i := 135) rfl))) rfl)
theorem ml_X4_64 : Cond.methodLink RX4 64 Lib.Math.max.name ∈ TT := (TTm (List.mem_append_right _ (t1m_2 (List.mem_of_getElem? (i := 183) rfl))) rfl)
theorem ml_X4_70 : Cond.methodLink RX4 70 yX4_widthOf ∈ TT := (TTm (List.mem_append_right _ (t1m_2 (List.mem_of_getElem? (i := 186) rfl))) rfl)
theorem ml_X4_74 : Cond.methodLink RX4 74 yX3_begin ∈ TT := (TTm (List.mem_append_right _ (t1m_2 (List.mem_of_getElem? (i := 167) rfl))) rfl)
theorem ml_X4_78 : Cond.methodLink RX4 78 yX4_markFlaw ∈ TT := (TTm (List.mem_append_right _ (t1m_2 (List.mem_of_getElem? (i := 175) rfl))) rfl)
theorem ml_X4_85 : Cond.methodLink RX4 85 yX3_driftTo ∈ TT := (TTm (List.mem_append_right _ (t1m_2 (List.mem_of_getElem? (i := 208) rfl))) rfl)
theorem ml_X4_92 : Cond.methodLink RX4 92 yX3_leftIn ∈ TT := (TTm (List.mem_append_right _ (t1m_2 (List.mem_of_getElem? (i := 179) rfl))) rfl)
theorem ml_X4_96 : Cond.methodLink RX4 96 Lib.Math.min.name ∈ TT := (TTm (List.mem_append_right _ (t1m_2 (List.mem_of_getElem? (i := 190) rfl))) rfl)
theorem ml_X4_99 : Cond.methodLink RX4 99 yX3_topIn ∈ TT := (TTm (List.mem_append_right _ (t1m_2 (List.mem_of_getElem? (i := 193) rfl))) rfl)
theorem ml_X4_105 : Cond.methodLink RX4 105 yX4_mask ∈ TT := (TTm (List.mem_append_right _ (t1m_2 (List.mem_of_getElem? (i := 197) rfl))) rfl)
theorem ml_X4_109 : Cond.methodLink RX4 109 yX3_overlaps ∈ TT := (TTm (List.mem_append_right _ (t1m_2 (List.mem_of_getElem? (i := 222) rfl))) rfl)
theorem ml_X4_113 : Cond.methodLink RX4 113 yX4_meets ∈ TT := (TTm (List.mem_append_right _ (t1m_3 (List.mem_of_getElem? (i := 177) rfl))) rfl)
theorem ml_X4_125 : Cond.methodLink RX4 125 yX4_hasLeaf ∈ TT := (TTm (List.mem_append_right _ (t1m_4 (List.mem_of_getElem? (i := 3) rfl))) rfl)
theorem ml_X4_132 : Cond.methodLink RX4 132 yX0_stackHigh ∈ TT := (TTm (List.mem_append_right _ (t1m_4 (List.mem_of_getElem? (i := 4) rfl))) rfl)
theorem ml_X4_139 : Cond.methodLink RX4 139 yX4_changeCuts ∈ TT := (TTm (List.mem_append_right _ (t1m_3 (List.mem_of_getElem? (i := 239) rfl))) rfl)
theorem ml_X5_28 : Cond.methodLink RX5 28 yJ7_fill_53178 ∈ TT := (TTm (List.mem_append_right _ (t1m_2 (List.mem_of_getElem? (i := 63) rfl))) rfl)
theorem ml_X5_34 : Cond.methodLink RX5 34 yX5_gatherWaiting ∈ TT := (TTm (List.mem_append_right _ (t1m_4 (List.mem_of_getElem? (i := 13) rfl))) rfl)
theorem ml_X5_42 : Cond.methodLink RX5 42 yX5_tryDoor ∈ TT := (TTm (List.mem_append_right _ (t1m_4 (List.mem_of_getElem? (i := 18) rfl))) rfl)
theorem ml_X5_61 : Cond.methodLink RX5 61 yX0_isMade ∈ TT := (TTm (List.mem_append_right _ (t1m_4 (List.mem_of_getElem? (i := 17) rfl))) rfl)
theorem ml_X5_64 : Cond.methodLink RX5 64 yJ6_bitCount_0f7a4 ∈ TT := (TTm (List.mem_append_right _ (t1m_4 (List.mem_of_getElem? (i := 22) rfl))) rfl)
theorem ml_X5_70 : Cond.methodLink RX5 70 arraycopyName ∈ TT := (TTm (List.mem_append_right _ (t1m_4 (List.mem_of_getElem? (i := 28) rfl))) rfl)
theorem ml_X5_76 : Cond.methodLink RX5 76 yX8_makeIn ∈ TT := (TTm (List.mem_append_right _ (t1m_4 (List.mem_of_getElem? (i := 29) rfl))) rfl)
theorem ml_X5_80 : Cond.methodLink RX5 80 yX8_takeBack ∈ TT := (TTm (List.mem_append_right _ (t1m_4 (List.mem_of_getElem? (i := 30) rfl))) rfl)
theorem ml_X6_32 : Cond.methodLink RX6 32 yX6_readRow ∈ TT := (TTm (List.mem_append_right _ (t1m_3 (List.mem_of_getElem? (i := 9) rfl))) rfl)
theorem ml_X6_36 : Cond.methodLink RX6 36 yX6_nextByte ∈ TT := (TTm (List.mem_append_right _ (t1m_3 (List.mem_of_getElem? (i := 21) rfl))) rfl)
theorem ml_X6_40 : Cond.methodLink RX6 40 yX6_refuse ∈ TT := (TTm (List.mem_append_right _ (t1m_3 (List.mem_of_getElem? (i := 33) rfl))) rfl)
theorem ml_X6_52 : Cond.methodLink RX6 52 yX6_readColumn ∈ TT := (TTm (List.mem_append_right _ (t1m_3 (List.mem_of_getElem? (i := 13) rfl))) rfl)
theorem ml_X6_55 : Cond.methodLink RX6 55 yX6_readPart ∈ TT := (TTm (List.mem_append_right _ (t1m_3 (List.mem_of_getElem? (i := 17) rfl))) rfl)
theorem ml_X6_58 : (RX6, 58, yX9_isFrom) ∈ nestL := by decide +kernel
theorem ml_X6_61 : Cond.methodLink RX6 61 yX6_drawPiece ∈ TT := (TTm (List.mem_append_right _ (t1m_3 (List.mem_of_getElem? (i := 37) rfl))) rfl)
theorem ml_X6_64 : Cond.methodLink RX6 64 yX6_readRepeated ∈ TT := (TTm (List.mem_append_right _ (t1m_3 (List.mem_of_getElem? (i := 45) rfl))) rfl)
theorem ml_X6_68 : Cond.methodLink RX6 68 yX6_readBracket ∈ TT := (TTm (List.mem_append_right _ (t1m_3 (List.mem_of_getElem? (i := 58) rfl))) rfl)
theorem ml_X6_71 : Cond.methodLink RX6 71 yX6_readChanged ∈ TT := (TTm (List.mem_append_right _ (t1m_3 (List.mem_of_getElem? (i := 62) rfl))) rfl)
theorem ml_X6_75 : Cond.methodLink RX6 75 yX1_setCell ∈ TT := (TTm (List.mem_append_right _ (t1m_3 (List.mem_of_getElem? (i := 41) rfl))) rfl)
theorem ml_X6_79 : Cond.methodLink RX6 79 yX1_changeSides ∈ TT := (TTm (List.mem_append_right _ (t1m_3 (List.mem_of_getElem? (i := 66) rfl))) rfl)
theorem ml_X6_83 : Cond.methodLink RX6 83 yX1_changeEnds ∈ TT := (TTm (List.mem_append_right _ (t1m_3 (List.mem_of_getElem? (i := 70) rfl))) rfl)
theorem ml_X6_86 : Cond.methodLink RX6 86 yX1_repeat ∈ TT := (TTm (List.mem_append_right _ (t1m_3 (List.mem_of_getElem? (i := 49) rfl))) rfl)
theorem ml_X6_95 : Cond.methodLink RX6 95 yX7_byteAt ∈ TT := (TTm (List.mem_append_right _ (t1m_3 (List.mem_of_getElem? (i := 25) rfl))) rfl)
theorem ml_X6_99 : Cond.methodLink RX6 99 yX6_isBlank ∈ TT := (TTm (List.mem_append_right _ (t1m_3 (List.mem_of_getElem? (i := 29) rfl))) rfl)
theorem ml_X7_19 : (RX7, 19, yX9_isFrom) ∈ nestL := by decide +kernel
theorem ml_X8_32 : (RX8, 32, yX9_isFrom) ∈ nestL := by decide +kernel
theorem ml_X8_45 : Cond.methodLink RX8 45 yX0_notMade ∈ TT := (TTm (List.mem_append_right _ (t1m_2 (List.mem_of_getElem? (i := 142) rfl))) rfl)
theorem ml_X8_48 : Cond.methodLink RX8 48 yX8_logAt ∈ TT := (TTm (List.mem_append_right _ (t1m_3 (List.mem_of_getElem? (i := 229) rfl))) rfl)
theorem ml_X8_52 : Cond.methodLink RX8 52 yX2_find ∈ TT := (TTm (List.mem_append_right _ (t1m_3 (List.mem_of_getElem? (i := 230) rfl))) rfl)
theorem ml_X8_56 : Cond.methodLink RX8 56 yX0_madeAt ∈ TT := (TTm (List.mem_append_right _ (t1m_3 (List.mem_of_getElem? (i := 231) rfl))) rfl)
theorem ml_X8_60 : Cond.methodLink RX8 60 yX4_addCuts ∈ TT := (TTm (List.mem_append_right _ (t1m_3 (List.mem_of_getElem? (i := 235) rfl))) rfl)
theorem ml_X8_64 : Cond.methodLink RX8 64 yX4_removeCuts ∈ TT := (TTm (List.mem_append_right _ (t1m_4 (List.mem_of_getElem? (i := 34) rfl))) rfl)
theorem ml_X9_41 : Cond.methodLink RX9 41 yX7_hasRoom ∈ TT := (TTm (List.mem_append_right _ (t1m_2 (List.mem_of_getElem? (i := 106) rfl))) rfl)
theorem ml_X9_45 : Cond.methodLink RX9 45 yX7_append ∈ TT := (TTm (List.mem_append_right _ (t1m_2 (List.mem_of_getElem? (i := 110) rfl))) rfl)
theorem ml_X9_53 : Cond.methodLink RX9 53 yX7_shorten ∈ TT := (TTm (List.mem_append_right _ (t1m_2 (List.mem_of_getElem? (i := 118) rfl))) rfl)
theorem ml_X9_57 : Cond.methodLink RX9 57 yX9_isFrom ∈ TT := (TTm (List.mem_append_right _ (t1m_2 (List.mem_of_getElem? (i := 129) rfl))) rfl)
theorem ml_X9_65 : Cond.methodLink RX9 65 yX4_begin ∈ TT := (TTm (List.mem_append_right _ (t1m_2 (List.mem_of_getElem? (i := 130) rfl))) rfl)
theorem ml_X9_71 : Cond.methodLink RX9 71 yX8_forgetMadeOf ∈ TT := (TTm (List.mem_append_right _ (t1m_2 (List.mem_of_getElem? (i := 138) rfl))) rfl)
theorem ml_X9_74 : Cond.methodLink RX9 74 yX8_logAt ∈ TT := (TTm (List.mem_append_right _ (t1m_2 (List.mem_of_getElem? (i := 150) rfl))) rfl)
theorem ml_X9_84 : Cond.methodLink RX9 84 yX4_hasLeaf ∈ TT := (TTm (List.mem_append_right _ (t1m_2 (List.mem_of_getElem? (i := 159) rfl))) rfl)
theorem ml_X9_88 : Cond.methodLink RX9 88 yX4_addFlaw ∈ TT := (TTm (List.mem_append_right _ (t1m_2 (List.mem_of_getElem? (i := 163) rfl))) rfl)
theorem ml_X9_92 : Cond.methodLink RX9 92 yX4_driftLatest ∈ TT := (TTm (List.mem_append_right _ (t1m_2 (List.mem_of_getElem? (i := 204) rfl))) rfl)
theorem ml_X9_95 : Cond.methodLink RX9 95 yX4_widthOf ∈ TT := (TTm (List.mem_append_right _ (t1m_2 (List.mem_of_getElem? (i := 213) rfl))) rfl)
theorem ml_X9_99 : Cond.methodLink RX9 99 yX4_toneOf ∈ TT := (TTm (List.mem_append_right _ (t1m_2 (List.mem_of_getElem? (i := 214) rfl))) rfl)
theorem ml_X9_102 : Cond.methodLink RX9 102 yX4_countFlawsIn ∈ TT := (TTm (List.mem_append_right _ (t1m_2 (List.mem_of_getElem? (i := 218) rfl))) rfl)
theorem ml_X9_113 : Cond.methodLink RX9 113 yX4_holds ∈ TT := (TTm (List.mem_append_right _ (t1m_2 (List.mem_of_getElem? (i := 233) rfl))) rfl)
theorem ml_X9_117 : Cond.methodLink RX9 117 yX4_leastFlawIn ∈ TT := (TTm (List.mem_append_right _ (t1m_2 (List.mem_of_getElem? (i := 237) rfl))) rfl)
theorem ml_X9_120 : Cond.methodLink RX9 120 yX6_readTape ∈ TT := (TTm (List.mem_append_right _ (t1m_3 (List.mem_of_getElem? (i := 5) rfl))) rfl)
theorem ml_X9_131 : Cond.methodLink RX9 131 yX0_begin ∈ TT := (TTm (List.mem_append_right _ (t1m_3 (List.mem_of_getElem? (i := 74) rfl))) rfl)
theorem ml_X9_137 : Cond.methodLink RX9 137 yX1_count ∈ TT := (TTm (List.mem_append_right _ (t1m_3 (List.mem_of_getElem? (i := 98) rfl))) rfl)
theorem ml_X9_149 : Cond.methodLink RX9 149 yX8_doorAt ∈ TT := (TTm (List.mem_append_right _ (t1m_3 (List.mem_of_getElem? (i := 110) rfl))) rfl)
theorem ml_X9_162 : Cond.methodLink RX9 162 yX1_countJoints ∈ TT := (TTm (List.mem_append_right _ (t1m_3 (List.mem_of_getElem? (i := 114) rfl))) rfl)
theorem ml_X9_177 : Cond.methodLink RX9 177 yX1_has ∈ TT := (TTm (List.mem_append_right _ (t1m_3 (List.mem_of_getElem? (i := 143) rfl))) rfl)
theorem ml_X9_181 : Cond.methodLink RX9 181 yX1_cellAt ∈ TT := (TTm (List.mem_append_right _ (t1m_3 (List.mem_of_getElem? (i := 144) rfl))) rfl)
theorem ml_X9_185 : Cond.methodLink RX9 185 yX1_jointAt ∈ TT := (TTm (List.mem_append_right _ (t1m_3 (List.mem_of_getElem? (i := 149) rfl))) rfl)
theorem ml_X9_189 : Cond.methodLink RX9 189 yX1_isLike ∈ TT := (TTm (List.mem_append_right _ (t1m_3 (List.mem_of_getElem? (i := 154) rfl))) rfl)
theorem ml_X9_197 : Cond.methodLink RX9 197 yX2_reason ∈ TT := (TTm (List.mem_append_right _ (t1m_3 (List.mem_of_getElem? (i := 162) rfl))) rfl)
theorem ml_X9_203 : Cond.methodLink RX9 203 yX2_find ∈ TT := (TTm (List.mem_append_right _ (t1m_3 (List.mem_of_getElem? (i := 192) rfl))) rfl)
theorem ml_X9_210 : Cond.methodLink RX9 210 yX0_isMade ∈ TT := (TTm (List.mem_append_right _ (t1m_3 (List.mem_of_getElem? (i := 221) rfl))) rfl)
theorem ml_X9_213 : Cond.methodLink RX9 213 yX8_makeIn ∈ TT := (TTm (List.mem_append_right _ (t1m_3 (List.mem_of_getElem? (i := 225) rfl))) rfl)
theorem ml_X9_217 : Cond.methodLink RX9 217 yX5_tell ∈ TT := (TTm (List.mem_append_right _ (t1m_4 (List.mem_of_getElem? (i := 9) rfl))) rfl)
theorem ml_X9_223 : Cond.methodLink RX9 223 yX8_takeBack ∈ TT := (TTm (List.mem_append_right _ (t1m_4 (List.mem_of_getElem? (i := 46) rfl))) rfl)
theorem mw_J6_bitCount_0f7a4 : Mw yJ6_bitCount_0f7a4 cJ6_bitCount_0f7a4 1 (some .int) 1 := ⟨(TTm (List.mem_append_right _ (t1m_1 (List.mem_of_getElem? (i := 15) rfl))) rfl), (TTm (List.mem_append_right _ (t1m_4 (List.mem_of_getElem? (i := 24) rfl))) rfl), by decide +kernel, by decide +kernel, by decide +kernel⟩
theorem ms_J6_bitCount_0f7a4 : Cond.static yJ6_bitCount_0f7a4 ∈ TT := (TTm (List.mem_append_right _ (t1m_4 (List.mem_of_getElem? (i := 23) rfl))) rfl)
theorem mw_J7_fill_53178 : Mw yJ7_fill_53178 cJ7_fill_53178 4 none 2 := ⟨(TTm (List.mem_append_right _ (t1m_1 (List.mem_of_getElem? (i := 11) rfl))) rfl), (TTm (List.mem_append_right _ (t1m_2 (List.mem_of_getElem? (i := 65) rfl))) rfl), by decide +kernel, by decide +kernel, by decide +kernel⟩
theorem ms_J7_fill_53178 : Cond.static yJ7_fill_53178 ∈ TT := (TTm (List.mem_append_right _ (t1m_2 (List.mem_of_getElem? (i := 64) rfl))) rfl)
theorem mw_J7_fill_d0a16 : Mw yJ7_fill_d0a16 cJ7_fill_d0a16 5 none 2 := ⟨(TTm (List.mem_append_right _ (t1m_1 (List.mem_of_getElem? (i := 11) rfl))) rfl), (TTm (List.mem_append_right _ (t1m_2 (List.mem_of_getElem? (i := 137) rfl))) rfl), by decide +kernel, by decide +kernel, by decide +kernel⟩
theorem ms_J7_fill_d0a16 : Cond.static yJ7_fill_d0a16 ∈ TT := (TTm (List.mem_append_right _ (t1m_2 (List.mem_of_getElem? (i := 136) rfl))) rfl)
theorem mw_X0_begin : Mw yX0_begin cX0_begin 5 none 4 := ⟨(TTm (List.mem_append_right _ (t1m_1 (List.mem_of_getElem? (i := 9) rfl))) rfl), (TTm (List.mem_append_right _ (t1m_3 (List.mem_of_getElem? (i := 77) rfl))) rfl), by decide +kernel, by decide +kernel, by decide +kernel⟩
theorem mv_X0_begin : MwV yX0_begin := ⟨(TTm (List.mem_append_right _ (t1m_3 (List.mem_of_getElem? (i := 75) rfl))) rfl), (TTm (List.mem_append_right _ (t1m_3 (List.mem_of_getElem? (i := 76) rfl))) rfl)⟩
theorem mw_X0_countOffsets : Mw yX0_countOffsets cX0_countOffsets 4 none 0 := ⟨(TTm (List.mem_append_right _ (t1m_1 (List.mem_of_getElem? (i := 9) rfl))) rfl), (TTm (List.mem_append_right _ (t1m_3 (List.mem_of_getElem? (i := 89) rfl))) rfl), by decide +kernel, by decide +kernel, by decide +kernel⟩
theorem mv_X0_countOffsets : MwV yX0_countOffsets := ⟨(TTm (List.mem_append_right _ (t1m_3 (List.mem_of_getElem? (i := 88) rfl))) rfl), (TTm (List.mem_append_left _ (List.mem_of_getElem? (i := 10) rfl)) rfl)⟩
theorem mw_X0_isMade : Mw yX0_isMade cX0_isMade 1 (some .boolean) 0 := ⟨(TTm (List.mem_append_right _ (t1m_1 (List.mem_of_getElem? (i := 9) rfl))) rfl), (TTm (List.mem_append_right _ (t1m_3 (List.mem_of_getElem? (i := 224) rfl))) rfl), by decide +kernel, by decide +kernel, by decide +kernel⟩
theorem mv_X0_isMade : MwV yX0_isMade := ⟨(TTm (List.mem_append_right _ (t1m_3 (List.mem_of_getElem? (i := 222) rfl))) rfl), (TTm (List.mem_append_right _ (t1m_3 (List.mem_of_getElem? (i := 223) rfl))) rfl)⟩
theorem mw_X0_madeAt : Mw yX0_madeAt cX0_madeAt 3 none 2 := ⟨(TTm (List.mem_append_right _ (t1m_1 (List.mem_of_getElem? (i := 9) rfl))) rfl), (TTm (List.mem_append_right _ (t1m_3 (List.mem_of_getElem? (i := 234) rfl))) rfl), by decide +kernel, by decide +kernel, by decide +kernel⟩
theorem mv_X0_madeAt : MwV yX0_madeAt := ⟨(TTm (List.mem_append_right _ (t1m_3 (List.mem_of_getElem? (i := 232) rfl))) rfl), (TTm (List.mem_append_right _ (t1m_3 (List.mem_of_getElem? (i := 233) rfl))) rfl)⟩
theorem mw_X0_notMade : Mw yX0_notMade cX0_notMade 1 none 0 := ⟨(TTm (List.mem_append_right _ (t1m_1 (List.mem_of_getElem? (i := 9) rfl))) rfl), (TTm (List.mem_append_right _ (t1m_2 (List.mem_of_getElem? (i := 145) rfl))) rfl), by decide +kernel, by decide +kernel, by decide +kernel⟩
theorem mv_X0_notMade : MwV yX0_notMade := ⟨(TTm (List.mem_append_right _ (t1m_2 (List.mem_of_getElem? (i := 143) rfl))) rfl), (TTm (List.mem_append_right _ (t1m_2 (List.mem_of_getElem? (i := 144) rfl))) rfl)⟩
theorem mw_X0_stackHigh : Mw yX0_stackHigh cX0_stackHigh 2 (some .int) 1 := ⟨(TTm (List.mem_append_right _ (t1m_1 (List.mem_of_getElem? (i := 9) rfl))) rfl), (TTm (List.mem_append_right _ (t1m_3 (List.mem_of_getElem? (i := 205) rfl))) rfl), by decide +kernel, by decide +kernel, by decide +kernel⟩
theorem mv_X0_stackHigh : MwV yX0_stackHigh := ⟨(TTm (List.mem_append_right _ (t1m_3 (List.mem_of_getElem? (i := 203) rfl))) rfl), (TTm (List.mem_append_right _ (t1m_3 (List.mem_of_getElem? (i := 204) rfl))) rfl)⟩
theorem mw_X10_begins : Mw yX10_begins cX10_begins 1 none 0 := ⟨(TTm (List.mem_append_right _ (t1m_1 (List.mem_of_getElem? (i := 12) rfl))) rfl), (TTm (List.mem_append_right _ (t1m_5 (List.mem_of_getElem? (i := 96) rfl))) rfl), by decide +kernel, by decide +kernel, by decide +kernel⟩
theorem mv_X10_begins : MwV yX10_begins := ⟨(TTm (List.mem_append_right _ (t1m_5 (List.mem_of_getElem? (i := 95) rfl))) rfl), (TTm (List.mem_append_left _ (List.mem_of_getElem? (i := 24) rfl)) rfl)⟩
theorem mw_X10_comes : Mw yX10_comes cX10_comes 5 none 0 := ⟨(TTm (List.mem_append_right _ (t1m_1 (List.mem_of_getElem? (i := 12) rfl))) rfl), (TTm (List.mem_append_right _ (t1m_5 (List.mem_of_getElem? (i := 116) rfl))) rfl), by decide +kernel, by decide +kernel, by decide +kernel⟩
theorem mv_X10_comes : MwV yX10_comes := ⟨(TTm (List.mem_append_right _ (t1m_5 (List.mem_of_getElem? (i := 115) rfl))) rfl), (TTm (List.mem_append_left _ (List.mem_of_getElem? (i := 29) rfl)) rfl)⟩
theorem mw_X10_counts : Mw yX10_counts cX10_counts 4 none 1 := ⟨(TTm (List.mem_append_right _ (t1m_1 (List.mem_of_getElem? (i := 12) rfl))) rfl), (TTm (List.mem_append_right _ (t1m_5 (List.mem_of_getElem? (i := 196) rfl))) rfl), by decide +kernel, by decide +kernel, by decide +kernel⟩
theorem mv_X10_counts : MwV yX10_counts := ⟨(TTm (List.mem_append_right _ (t1m_5 (List.mem_of_getElem? (i := 195) rfl))) rfl), (TTm (List.mem_append_left _ (List.mem_of_getElem? (i := 41) rfl)) rfl)⟩
theorem mw_X10_cuts : Mw yX10_cuts cX10_cuts 4 none 2 := ⟨(TTm (List.mem_append_right _ (t1m_1 (List.mem_of_getElem? (i := 12) rfl))) rfl), (TTm (List.mem_append_right _ (t1m_5 (List.mem_of_getElem? (i := 212) rfl))) rfl), by decide +kernel, by decide +kernel, by decide +kernel⟩
theorem mv_X10_cuts : MwV yX10_cuts := ⟨(TTm (List.mem_append_right _ (t1m_5 (List.mem_of_getElem? (i := 211) rfl))) rfl), (TTm (List.mem_append_left _ (List.mem_of_getElem? (i := 44) rfl)) rfl)⟩
theorem mw_X10_draws : Mw yX10_draws cX10_draws 4 none 0 := ⟨(TTm (List.mem_append_right _ (t1m_1 (List.mem_of_getElem? (i := 12) rfl))) rfl), (TTm (List.mem_append_right _ (t1m_5 (List.mem_of_getElem? (i := 92) rfl))) rfl), by decide +kernel, by decide +kernel, by decide +kernel⟩
theorem mv_X10_draws : MwV yX10_draws := ⟨(TTm (List.mem_append_right _ (t1m_5 (List.mem_of_getElem? (i := 91) rfl))) rfl), (TTm (List.mem_append_left _ (List.mem_of_getElem? (i := 23) rfl)) rfl)⟩
theorem mw_X10_ends : Mw yX10_ends cX10_ends 5 none 0 := ⟨(TTm (List.mem_append_right _ (t1m_1 (List.mem_of_getElem? (i := 12) rfl))) rfl), (TTm (List.mem_append_right _ (t1m_5 (List.mem_of_getElem? (i := 128) rfl))) rfl), by decide +kernel, by decide +kernel, by decide +kernel⟩
theorem mv_X10_ends : MwV yX10_ends := ⟨(TTm (List.mem_append_right _ (t1m_5 (List.mem_of_getElem? (i := 127) rfl))) rfl), (TTm (List.mem_append_left _ (List.mem_of_getElem? (i := 32) rfl)) rfl)⟩
theorem mw_X10_fail : Mw yX10_fail cX10_fail 3 none 2 := ⟨(TTm (List.mem_append_right _ (t1m_1 (List.mem_of_getElem? (i := 12) rfl))) rfl), (TTm (List.mem_append_right _ (t1m_5 (List.mem_of_getElem? (i := 112) rfl))) rfl), by decide +kernel, by decide +kernel, by decide +kernel⟩
theorem mv_X10_fail : MwV yX10_fail := ⟨(TTm (List.mem_append_right _ (t1m_5 (List.mem_of_getElem? (i := 111) rfl))) rfl), (TTm (List.mem_append_left _ (List.mem_of_getElem? (i := 28) rfl)) rfl)⟩
theorem mw_X10_fits : Mw yX10_fits cX10_fits 8 (some .boolean) 5 := ⟨(TTm (List.mem_append_right _ (t1m_1 (List.mem_of_getElem? (i := 12) rfl))) rfl), (TTm (List.mem_append_right _ (t1m_5 (List.mem_of_getElem? (i := 204) rfl))) rfl), by decide +kernel, by decide +kernel, by decide +kernel⟩
theorem mv_X10_fits : MwV yX10_fits := ⟨(TTm (List.mem_append_right _ (t1m_5 (List.mem_of_getElem? (i := 203) rfl))) rfl), (TTm (List.mem_append_left _ (List.mem_of_getElem? (i := 43) rfl)) rfl)⟩
theorem mw_X10_flawIn : Mw yX10_flawIn cX10_flawIn 8 (some .int) 6 := ⟨(TTm (List.mem_append_right _ (t1m_1 (List.mem_of_getElem? (i := 12) rfl))) rfl), (TTm (List.mem_append_right _ (t1m_5 (List.mem_of_getElem? (i := 76) rfl))) rfl), by decide +kernel, by decide +kernel, by decide +kernel⟩
theorem mv_X10_flawIn : MwV yX10_flawIn := ⟨(TTm (List.mem_append_right _ (t1m_5 (List.mem_of_getElem? (i := 75) rfl))) rfl), (TTm (List.mem_append_left _ (List.mem_of_getElem? (i := 22) rfl)) rfl)⟩
theorem mw_X10_goes : Mw yX10_goes cX10_goes 5 none 2 := ⟨(TTm (List.mem_append_right _ (t1m_1 (List.mem_of_getElem? (i := 12) rfl))) rfl), (TTm (List.mem_append_right _ (t1m_5 (List.mem_of_getElem? (i := 25) rfl))) rfl), by decide +kernel, by decide +kernel, by decide +kernel⟩
theorem mv_X10_goes : MwV yX10_goes := ⟨(TTm (List.mem_append_right _ (t1m_5 (List.mem_of_getElem? (i := 24) rfl))) rfl), (TTm (List.mem_append_left _ (List.mem_of_getElem? (i := 15) rfl)) rfl)⟩
theorem mw_X10_greatest : Mw yX10_greatest cX10_greatest 5 (some .int) 1 := ⟨(TTm (List.mem_append_right _ (t1m_1 (List.mem_of_getElem? (i := 12) rfl))) rfl), (TTm (List.mem_append_right _ (t1m_5 (List.mem_of_getElem? (i := 159) rfl))) rfl), by decide +kernel, by decide +kernel, by decide +kernel⟩
theorem mv_X10_greatest : MwV yX10_greatest := ⟨(TTm (List.mem_append_right _ (t1m_5 (List.mem_of_getElem? (i := 158) rfl))) rfl), (TTm (List.mem_append_left _ (List.mem_of_getElem? (i := 36) rfl)) rfl)⟩
theorem mw_X10_hasLeaves : Mw yX10_hasLeaves cX10_hasLeaves 5 (some .boolean) 3 := ⟨(TTm (List.mem_append_right _ (t1m_1 (List.mem_of_getElem? (i := 12) rfl))) rfl), (TTm (List.mem_append_right _ (t1m_5 (List.mem_of_getElem? (i := 200) rfl))) rfl), by decide +kernel, by decide +kernel, by decide +kernel⟩
theorem mv_X10_hasLeaves : MwV yX10_hasLeaves := ⟨(TTm (List.mem_append_right _ (t1m_5 (List.mem_of_getElem? (i := 199) rfl))) rfl), (TTm (List.mem_append_left _ (List.mem_of_getElem? (i := 42) rfl)) rfl)⟩
theorem mw_X10_hasTones : Mw yX10_hasTones cX10_hasTones 9 (some .boolean) 3 := ⟨(TTm (List.mem_append_right _ (t1m_1 (List.mem_of_getElem? (i := 12) rfl))) rfl), (TTm (List.mem_append_right _ (t1m_5 (List.mem_of_getElem? (i := 184) rfl))) rfl), by decide +kernel, by decide +kernel, by decide +kernel⟩
theorem mv_X10_hasTones : MwV yX10_hasTones := ⟨(TTm (List.mem_append_right _ (t1m_5 (List.mem_of_getElem? (i := 183) rfl))) rfl), (TTm (List.mem_append_left _ (List.mem_of_getElem? (i := 39) rfl)) rfl)⟩
theorem mw_X10_isCut : Mw yX10_isCut cX10_isCut 8 (some .boolean) 6 := ⟨(TTm (List.mem_append_right _ (t1m_1 (List.mem_of_getElem? (i := 12) rfl))) rfl), (TTm (List.mem_append_right _ (t1m_5 (List.mem_of_getElem? (i := 180) rfl))) rfl), by decide +kernel, by decide +kernel, by decide +kernel⟩
theorem mv_X10_isCut : MwV yX10_isCut := ⟨(TTm (List.mem_append_right _ (t1m_5 (List.mem_of_getElem? (i := 179) rfl))) rfl), (TTm (List.mem_append_left _ (List.mem_of_getElem? (i := 38) rfl)) rfl)⟩
theorem mw_X10_isDoor : Mw yX10_isDoor cX10_isDoor 2 (some .boolean) 1 := ⟨(TTm (List.mem_append_right _ (t1m_1 (List.mem_of_getElem? (i := 12) rfl))) rfl), (TTm (List.mem_append_right _ (t1m_5 (List.mem_of_getElem? (i := 144) rfl))) rfl), by decide +kernel, by decide +kernel, by decide +kernel⟩
theorem mv_X10_isDoor : MwV yX10_isDoor := ⟨(TTm (List.mem_append_right _ (t1m_5 (List.mem_of_getElem? (i := 143) rfl))) rfl), (TTm (List.mem_append_left _ (List.mem_of_getElem? (i := 34) rfl)) rfl)⟩
theorem mw_X10_isFlawed : Mw yX10_isFlawed cX10_isFlawed 8 (some .boolean) 6 := ⟨(TTm (List.mem_append_right _ (t1m_1 (List.mem_of_getElem? (i := 12) rfl))) rfl), (TTm (List.mem_append_right _ (t1m_5 (List.mem_of_getElem? (i := 61) rfl))) rfl), by decide +kernel, by decide +kernel, by decide +kernel⟩
theorem mv_X10_isFlawed : MwV yX10_isFlawed := ⟨(TTm (List.mem_append_right _ (t1m_5 (List.mem_of_getElem? (i := 60) rfl))) rfl), (TTm (List.mem_append_left _ (List.mem_of_getElem? (i := 20) rfl)) rfl)⟩
theorem mw_X10_isIn : Mw yX10_isIn cX10_isIn 3 (some .boolean) 3 := ⟨(TTm (List.mem_append_right _ (t1m_1 (List.mem_of_getElem? (i := 12) rfl))) rfl), (TTm (List.mem_append_right _ (t1m_5 (List.mem_of_getElem? (i := 21) rfl))) rfl), by decide +kernel, by decide +kernel, by decide +kernel⟩
theorem ms_X10_isIn : Cond.static yX10_isIn ∈ TT := (TTm (List.mem_append_right _ (t1m_5 (List.mem_of_getElem? (i := 20) rfl))) rfl)
theorem mw_X10_isLeaf : Mw yX10_isLeaf cX10_isLeaf 3 (some .boolean) 2 := ⟨(TTm (List.mem_append_right _ (t1m_1 (List.mem_of_getElem? (i := 12) rfl))) rfl), (TTm (List.mem_append_right _ (t1m_5 (List.mem_of_getElem? (i := 41) rfl))) rfl), by decide +kernel, by decide +kernel, by decide +kernel⟩
theorem mv_X10_isLeaf : MwV yX10_isLeaf := ⟨(TTm (List.mem_append_right _ (t1m_5 (List.mem_of_getElem? (i := 40) rfl))) rfl), (TTm (List.mem_append_left _ (List.mem_of_getElem? (i := 17) rfl)) rfl)⟩
theorem mw_X10_isLog : Mw yX10_isLog cX10_isLog 2 (some .boolean) 1 := ⟨(TTm (List.mem_append_right _ (t1m_1 (List.mem_of_getElem? (i := 12) rfl))) rfl), (TTm (List.mem_append_right _ (t1m_5 (List.mem_of_getElem? (i := 33) rfl))) rfl), by decide +kernel, by decide +kernel, by decide +kernel⟩
theorem mv_X10_isLog : MwV yX10_isLog := ⟨(TTm (List.mem_append_right _ (t1m_5 (List.mem_of_getElem? (i := 32) rfl))) rfl), (TTm (List.mem_append_left _ (List.mem_of_getElem? (i := 16) rfl)) rfl)⟩
theorem mw_X10_isPlaced : Mw yX10_isPlaced cX10_isPlaced 5 (some .boolean) 1 := ⟨(TTm (List.mem_append_right _ (t1m_1 (List.mem_of_getElem? (i := 12) rfl))) rfl), (TTm (List.mem_append_right _ (t1m_5 (List.mem_of_getElem? (i := 224) rfl))) rfl), by decide +kernel, by decide +kernel, by decide +kernel⟩
theorem mv_X10_isPlaced : MwV yX10_isPlaced := ⟨(TTm (List.mem_append_right _ (t1m_5 (List.mem_of_getElem? (i := 223) rfl))) rfl), (TTm (List.mem_append_left _ (List.mem_of_getElem? (i := 46) rfl)) rfl)⟩
theorem mw_X10_isWithin : Mw yX10_isWithin cX10_isWithin 9 (some .boolean) 6 := ⟨(TTm (List.mem_append_right _ (t1m_1 (List.mem_of_getElem? (i := 12) rfl))) rfl), (TTm (List.mem_append_right _ (t1m_5 (List.mem_of_getElem? (i := 72) rfl))) rfl), by decide +kernel, by decide +kernel, by decide +kernel⟩
theorem mv_X10_isWithin : MwV yX10_isWithin := ⟨(TTm (List.mem_append_right _ (t1m_5 (List.mem_of_getElem? (i := 71) rfl))) rfl), (TTm (List.mem_append_left _ (List.mem_of_getElem? (i := 21) rfl)) rfl)⟩
theorem mw_X10_joint : Mw yX10_joint cX10_joint 5 (some .int) 4 := ⟨(TTm (List.mem_append_right _ (t1m_1 (List.mem_of_getElem? (i := 12) rfl))) rfl), (TTm (List.mem_append_right _ (t1m_5 (List.mem_of_getElem? (i := 140) rfl))) rfl), by decide +kernel, by decide +kernel, by decide +kernel⟩
theorem mv_X10_joint : MwV yX10_joint := ⟨(TTm (List.mem_append_right _ (t1m_5 (List.mem_of_getElem? (i := 138) rfl))) rfl), (TTm (List.mem_append_right _ (t1m_5 (List.mem_of_getElem? (i := 139) rfl))) rfl)⟩
theorem mw_X10_jointOf : Mw yX10_jointOf cX10_jointOf 7 (some .int) 3 := ⟨(TTm (List.mem_append_right _ (t1m_1 (List.mem_of_getElem? (i := 12) rfl))) rfl), (TTm (List.mem_append_right _ (t1m_5 (List.mem_of_getElem? (i := 151) rfl))) rfl), by decide +kernel, by decide +kernel, by decide +kernel⟩
theorem ms_X10_jointOf : Cond.static yX10_jointOf ∈ TT := (TTm (List.mem_append_right _ (t1m_5 (List.mem_of_getElem? (i := 150) rfl))) rfl)
theorem mw_X10_joints : Mw yX10_joints cX10_joints 6 (some .int) 2 := ⟨(TTm (List.mem_append_right _ (t1m_1 (List.mem_of_getElem? (i := 12) rfl))) rfl), (TTm (List.mem_append_right _ (t1m_5 (List.mem_of_getElem? (i := 163) rfl))) rfl), by decide +kernel, by decide +kernel, by decide +kernel⟩
theorem mv_X10_joints : MwV yX10_joints := ⟨(TTm (List.mem_append_right _ (t1m_5 (List.mem_of_getElem? (i := 162) rfl))) rfl), (TTm (List.mem_append_left _ (List.mem_of_getElem? (i := 37) rfl)) rfl)⟩
theorem mw_X10_laps : Mw yX10_laps cX10_laps 8 (some .boolean) 8 := ⟨(TTm (List.mem_append_right _ (t1m_1 (List.mem_of_getElem? (i := 12) rfl))) rfl), (TTm (List.mem_append_right _ (t1m_5 (List.mem_of_getElem? (i := 64) rfl))) rfl), by decide +kernel, by decide +kernel, by decide +kernel⟩
theorem ms_X10_laps : Cond.static yX10_laps ∈ TT := (TTm (List.mem_append_right _ (t1m_5 (List.mem_of_getElem? (i := 63) rfl))) rfl)
theorem mw_X10_logsOf : Mw yX10_logsOf cX10_logsOf 4 (some .int) 1 := ⟨(TTm (List.mem_append_right _ (t1m_1 (List.mem_of_getElem? (i := 12) rfl))) rfl), (TTm (List.mem_append_right _ (t1m_5 (List.mem_of_getElem? (i := 220) rfl))) rfl), by decide +kernel, by decide +kernel, by decide +kernel⟩
theorem mv_X10_logsOf : MwV yX10_logsOf := ⟨(TTm (List.mem_append_right _ (t1m_5 (List.mem_of_getElem? (i := 219) rfl))) rfl), (TTm (List.mem_append_left _ (List.mem_of_getElem? (i := 45) rfl)) rfl)⟩
theorem mw_X10_next : Mw yX10_next cX10_next 1 (some .int) 0 := ⟨(TTm (List.mem_append_right _ (t1m_1 (List.mem_of_getElem? (i := 12) rfl))) rfl), (TTm (List.mem_append_right _ (t1m_5 (List.mem_of_getElem? (i := 104) rfl))) rfl), by decide +kernel, by decide +kernel, by decide +kernel⟩
theorem mv_X10_next : MwV yX10_next := ⟨(TTm (List.mem_append_right _ (t1m_5 (List.mem_of_getElem? (i := 103) rfl))) rfl), (TTm (List.mem_append_left _ (List.mem_of_getElem? (i := 26) rfl)) rfl)⟩
theorem mw_X10_opens : Mw yX10_opens cX10_opens 5 none 4 := ⟨(TTm (List.mem_append_right _ (t1m_1 (List.mem_of_getElem? (i := 12) rfl))) rfl), (TTm (List.mem_append_right _ (t1m_5 (List.mem_of_getElem? (i := 108) rfl))) rfl), by decide +kernel, by decide +kernel, by decide +kernel⟩
theorem mv_X10_opens : MwV yX10_opens := ⟨(TTm (List.mem_append_right _ (t1m_5 (List.mem_of_getElem? (i := 107) rfl))) rfl), (TTm (List.mem_append_left _ (List.mem_of_getElem? (i := 27) rfl)) rfl)⟩
theorem mw_X10_parts : Mw yX10_parts cX10_parts 3 (some .boolean) 0 := ⟨(TTm (List.mem_append_right _ (t1m_1 (List.mem_of_getElem? (i := 12) rfl))) rfl), (TTm (List.mem_append_right _ (t1m_5 (List.mem_of_getElem? (i := 100) rfl))) rfl), by decide +kernel, by decide +kernel, by decide +kernel⟩
theorem mv_X10_parts : MwV yX10_parts := ⟨(TTm (List.mem_append_right _ (t1m_5 (List.mem_of_getElem? (i := 99) rfl))) rfl), (TTm (List.mem_append_left _ (List.mem_of_getElem? (i := 25) rfl)) rfl)⟩
theorem mw_X10_pieceOf : Mw yX10_pieceOf cX10_pieceOf 4 (some .int) 3 := ⟨(TTm (List.mem_append_right _ (t1m_1 (List.mem_of_getElem? (i := 12) rfl))) rfl), (TTm (List.mem_append_right _ (t1m_5 (List.mem_of_getElem? (i := 148) rfl))) rfl), by decide +kernel, by decide +kernel, by decide +kernel⟩
theorem mv_X10_pieceOf : MwV yX10_pieceOf := ⟨(TTm (List.mem_append_right _ (t1m_5 (List.mem_of_getElem? (i := 147) rfl))) rfl), (TTm (List.mem_append_left _ (List.mem_of_getElem? (i := 35) rfl)) rfl)⟩
theorem mw_X10_places : Mw yX10_places cX10_places 6 (some .boolean) 2 := ⟨(TTm (List.mem_append_right _ (t1m_1 (List.mem_of_getElem? (i := 12) rfl))) rfl), (TTm (List.mem_append_right _ (t1m_5 (List.mem_of_getElem? (i := 192) rfl))) rfl), by decide +kernel, by decide +kernel, by decide +kernel⟩
theorem mv_X10_places : MwV yX10_places := ⟨(TTm (List.mem_append_right _ (t1m_5 (List.mem_of_getElem? (i := 191) rfl))) rfl), (TTm (List.mem_append_left _ (List.mem_of_getElem? (i := 40) rfl)) rfl)⟩
theorem mw_X10_repeats : Mw yX10_repeats cX10_repeats 5 none 2 := ⟨(TTm (List.mem_append_right _ (t1m_1 (List.mem_of_getElem? (i := 12) rfl))) rfl), (TTm (List.mem_append_right _ (t1m_5 (List.mem_of_getElem? (i := 120) rfl))) rfl), by decide +kernel, by decide +kernel, by decide +kernel⟩
theorem mv_X10_repeats : MwV yX10_repeats := ⟨(TTm (List.mem_append_right _ (t1m_5 (List.mem_of_getElem? (i := 119) rfl))) rfl), (TTm (List.mem_append_left _ (List.mem_of_getElem? (i := 30) rfl)) rfl)⟩
theorem mw_X10_rowIsPart : Mw yX10_rowIsPart cX10_rowIsPart 2 none 0 := ⟨(TTm (List.mem_append_right _ (t1m_1 (List.mem_of_getElem? (i := 12) rfl))) rfl), (TTm (List.mem_append_right _ (t1m_5 (List.mem_of_getElem? (i := 132) rfl))) rfl), by decide +kernel, by decide +kernel, by decide +kernel⟩
theorem mv_X10_rowIsPart : MwV yX10_rowIsPart := ⟨(TTm (List.mem_append_right _ (t1m_5 (List.mem_of_getElem? (i := 131) rfl))) rfl), (TTm (List.mem_append_left _ (List.mem_of_getElem? (i := 33) rfl)) rfl)⟩
theorem mw_X10_toneOf : Mw yX10_toneOf cX10_toneOf 3 (some .int) 2 := ⟨(TTm (List.mem_append_right _ (t1m_1 (List.mem_of_getElem? (i := 12) rfl))) rfl), (TTm (List.mem_append_right _ (t1m_5 (List.mem_of_getElem? (i := 57) rfl))) rfl), by decide +kernel, by decide +kernel, by decide +kernel⟩
theorem mv_X10_toneOf : MwV yX10_toneOf := ⟨(TTm (List.mem_append_right _ (t1m_5 (List.mem_of_getElem? (i := 56) rfl))) rfl), (TTm (List.mem_append_left _ (List.mem_of_getElem? (i := 19) rfl)) rfl)⟩
theorem mw_X10_turns : Mw yX10_turns cX10_turns 6 none 2 := ⟨(TTm (List.mem_append_right _ (t1m_1 (List.mem_of_getElem? (i := 12) rfl))) rfl), (TTm (List.mem_append_right _ (t1m_5 (List.mem_of_getElem? (i := 124) rfl))) rfl), by decide +kernel, by decide +kernel, by decide +kernel⟩
theorem mv_X10_turns : MwV yX10_turns := ⟨(TTm (List.mem_append_right _ (t1m_5 (List.mem_of_getElem? (i := 123) rfl))) rfl), (TTm (List.mem_append_left _ (List.mem_of_getElem? (i := 31) rfl)) rfl)⟩
theorem mw_X10_widthOf : Mw yX10_widthOf cX10_widthOf 4 (some .int) 2 := ⟨(TTm (List.mem_append_right _ (t1m_1 (List.mem_of_getElem? (i := 12) rfl))) rfl), (TTm (List.mem_append_right _ (t1m_5 (List.mem_of_getElem? (i := 53) rfl))) rfl), by decide +kernel, by decide +kernel, by decide +kernel⟩
theorem mv_X10_widthOf : MwV yX10_widthOf := ⟨(TTm (List.mem_append_right _ (t1m_5 (List.mem_of_getElem? (i := 52) rfl))) rfl), (TTm (List.mem_append_left _ (List.mem_of_getElem? (i := 18) rfl)) rfl)⟩
theorem mw_X1_cellAt : Mw yX1_cellAt cX1_cellAt 4 (some .int) 2 := ⟨(TTm (List.mem_append_right _ (t1m_1 (List.mem_of_getElem? (i := 4) rfl))) rfl), (TTm (List.mem_append_right _ (t1m_3 (List.mem_of_getElem? (i := 56) rfl))) rfl), by decide +kernel, by decide +kernel, by decide +kernel⟩
theorem mv_X1_cellAt : MwV yX1_cellAt := ⟨(TTm (List.mem_append_right _ (t1m_3 (List.mem_of_getElem? (i := 54) rfl))) rfl), (TTm (List.mem_append_right _ (t1m_3 (List.mem_of_getElem? (i := 55) rfl))) rfl)⟩
theorem mw_X1_changeEnds : Mw yX1_changeEnds cX1_changeEnds 9 none 4 := ⟨(TTm (List.mem_append_right _ (t1m_1 (List.mem_of_getElem? (i := 4) rfl))) rfl), (TTm (List.mem_append_right _ (t1m_3 (List.mem_of_getElem? (i := 73) rfl))) rfl), by decide +kernel, by decide +kernel, by decide +kernel⟩
theorem mv_X1_changeEnds : MwV yX1_changeEnds := ⟨(TTm (List.mem_append_right _ (t1m_3 (List.mem_of_getElem? (i := 71) rfl))) rfl), (TTm (List.mem_append_right _ (t1m_3 (List.mem_of_getElem? (i := 72) rfl))) rfl)⟩
theorem mw_X1_changeSides : Mw yX1_changeSides cX1_changeSides 9 none 4 := ⟨(TTm (List.mem_append_right _ (t1m_1 (List.mem_of_getElem? (i := 4) rfl))) rfl), (TTm (List.mem_append_right _ (t1m_3 (List.mem_of_getElem? (i := 69) rfl))) rfl), by decide +kernel, by decide +kernel, by decide +kernel⟩
theorem mv_X1_changeSides : MwV yX1_changeSides := ⟨(TTm (List.mem_append_right _ (t1m_3 (List.mem_of_getElem? (i := 67) rfl))) rfl), (TTm (List.mem_append_right _ (t1m_3 (List.mem_of_getElem? (i := 68) rfl))) rfl)⟩
theorem mw_X1_copyFrom : Mw yX1_copyFrom cX1_copyFrom 2 none 1 := ⟨(TTm (List.mem_append_right _ (t1m_1 (List.mem_of_getElem? (i := 4) rfl))) rfl), (TTm (List.mem_append_right _ (t1m_3 (List.mem_of_getElem? (i := 81) rfl))) rfl), by decide +kernel, by decide +kernel, by decide +kernel⟩
theorem mv_X1_copyFrom : MwV yX1_copyFrom := ⟨(TTm (List.mem_append_right _ (t1m_3 (List.mem_of_getElem? (i := 79) rfl))) rfl), (TTm (List.mem_append_right _ (t1m_3 (List.mem_of_getElem? (i := 80) rfl))) rfl)⟩
theorem mw_X1_count : Mw yX1_count cX1_count 1 (some .int) 0 := ⟨(TTm (List.mem_append_right _ (t1m_1 (List.mem_of_getElem? (i := 4) rfl))) rfl), (TTm (List.mem_append_right _ (t1m_3 (List.mem_of_getElem? (i := 101) rfl))) rfl), by decide +kernel, by decide +kernel, by decide +kernel⟩
theorem mv_X1_count : MwV yX1_count := ⟨(TTm (List.mem_append_right _ (t1m_3 (List.mem_of_getElem? (i := 99) rfl))) rfl), (TTm (List.mem_append_right _ (t1m_3 (List.mem_of_getElem? (i := 100) rfl))) rfl)⟩
theorem mw_X1_countJoints : Mw yX1_countJoints cX1_countJoints 5 (some .int) 1 := ⟨(TTm (List.mem_append_right _ (t1m_1 (List.mem_of_getElem? (i := 4) rfl))) rfl), (TTm (List.mem_append_right _ (t1m_3 (List.mem_of_getElem? (i := 117) rfl))) rfl), by decide +kernel, by decide +kernel, by decide +kernel⟩
theorem mv_X1_countJoints : MwV yX1_countJoints := ⟨(TTm (List.mem_append_right _ (t1m_3 (List.mem_of_getElem? (i := 115) rfl))) rfl), (TTm (List.mem_append_right _ (t1m_3 (List.mem_of_getElem? (i := 116) rfl))) rfl)⟩
theorem mw_X1_differ : Mw yX1_differ cX1_differ 3 (some .boolean) 3 := ⟨(TTm (List.mem_append_right _ (t1m_1 (List.mem_of_getElem? (i := 4) rfl))) rfl), (TTm (List.mem_append_right _ (t1m_3 (List.mem_of_getElem? (i := 135) rfl))) rfl), by decide +kernel, by decide +kernel, by decide +kernel⟩
theorem ms_X1_differ : Cond.static yX1_differ ∈ TT := (TTm (List.mem_append_right _ (t1m_3 (List.mem_of_getElem? (i := 134) rfl))) rfl)
theorem mw_X1_has : Mw yX1_has cX1_has 3 (some .boolean) 2 := ⟨(TTm (List.mem_append_right _ (t1m_1 (List.mem_of_getElem? (i := 4) rfl))) rfl), (TTm (List.mem_append_right _ (t1m_3 (List.mem_of_getElem? (i := 125) rfl))) rfl), by decide +kernel, by decide +kernel, by decide +kernel⟩
theorem mv_X1_has : MwV yX1_has := ⟨(TTm (List.mem_append_right _ (t1m_3 (List.mem_of_getElem? (i := 123) rfl))) rfl), (TTm (List.mem_append_right _ (t1m_3 (List.mem_of_getElem? (i := 124) rfl))) rfl)⟩
theorem mw_X1_isLike : Mw yX1_isLike cX1_isLike 10 (some .boolean) 3 := ⟨(TTm (List.mem_append_right _ (t1m_1 (List.mem_of_getElem? (i := 4) rfl))) rfl), (TTm (List.mem_append_right _ (t1m_3 (List.mem_of_getElem? (i := 157) rfl))) rfl), by decide +kernel, by decide +kernel, by decide +kernel⟩
theorem mv_X1_isLike : MwV yX1_isLike := ⟨(TTm (List.mem_append_right _ (t1m_3 (List.mem_of_getElem? (i := 155) rfl))) rfl), (TTm (List.mem_append_right _ (t1m_3 (List.mem_of_getElem? (i := 156) rfl))) rfl)⟩
theorem mw_X1_jointAt : Mw yX1_jointAt cX1_jointAt 8 (some .int) 3 := ⟨(TTm (List.mem_append_right _ (t1m_1 (List.mem_of_getElem? (i := 4) rfl))) rfl), (TTm (List.mem_append_right _ (t1m_3 (List.mem_of_getElem? (i := 121) rfl))) rfl), by decide +kernel, by decide +kernel, by decide +kernel⟩
theorem mv_X1_jointAt : MwV yX1_jointAt := ⟨(TTm (List.mem_append_right _ (t1m_3 (List.mem_of_getElem? (i := 119) rfl))) rfl), (TTm (List.mem_append_right _ (t1m_3 (List.mem_of_getElem? (i := 120) rfl))) rfl)⟩
theorem mw_X1_jointBelow : Mw yX1_jointBelow cX1_jointBelow 4 (some .int) 2 := ⟨(TTm (List.mem_append_right _ (t1m_1 (List.mem_of_getElem? (i := 4) rfl))) rfl), (TTm (List.mem_append_right _ (t1m_3 (List.mem_of_getElem? (i := 129) rfl))) rfl), by decide +kernel, by decide +kernel, by decide +kernel⟩
theorem ms_X1_jointBelow : Cond.static yX1_jointBelow ∈ TT := (TTm (List.mem_append_right _ (t1m_3 (List.mem_of_getElem? (i := 128) rfl))) rfl)
theorem mw_X1_jointBeside : Mw yX1_jointBeside cX1_jointBeside 4 (some .int) 2 := ⟨(TTm (List.mem_append_right _ (t1m_1 (List.mem_of_getElem? (i := 4) rfl))) rfl), (TTm (List.mem_append_right _ (t1m_3 (List.mem_of_getElem? (i := 138) rfl))) rfl), by decide +kernel, by decide +kernel, by decide +kernel⟩
theorem ms_X1_jointBeside : Cond.static yX1_jointBeside ∈ TT := (TTm (List.mem_append_right _ (t1m_3 (List.mem_of_getElem? (i := 137) rfl))) rfl)
theorem mw_X1_offsetAt : Mw yX1_offsetAt cX1_offsetAt 3 (some .int) 2 := ⟨(TTm (List.mem_append_right _ (t1m_1 (List.mem_of_getElem? (i := 4) rfl))) rfl), (TTm (List.mem_append_right _ (t1m_3 (List.mem_of_getElem? (i := 94) rfl))) rfl), by decide +kernel, by decide +kernel, by decide +kernel⟩
theorem mv_X1_offsetAt : MwV yX1_offsetAt := ⟨(TTm (List.mem_append_right _ (t1m_3 (List.mem_of_getElem? (i := 92) rfl))) rfl), (TTm (List.mem_append_right _ (t1m_3 (List.mem_of_getElem? (i := 93) rfl))) rfl)⟩
theorem mw_X1_repeat : Mw yX1_repeat cX1_repeat 8 none 5 := ⟨(TTm (List.mem_append_right _ (t1m_1 (List.mem_of_getElem? (i := 4) rfl))) rfl), (TTm (List.mem_append_right _ (t1m_3 (List.mem_of_getElem? (i := 52) rfl))) rfl), by decide +kernel, by decide +kernel, by decide +kernel⟩
theorem mv_X1_repeat : MwV yX1_repeat := ⟨(TTm (List.mem_append_right _ (t1m_3 (List.mem_of_getElem? (i := 50) rfl))) rfl), (TTm (List.mem_append_right _ (t1m_3 (List.mem_of_getElem? (i := 51) rfl))) rfl)⟩
theorem mw_X1_setCell : Mw yX1_setCell cX1_setCell 4 none 3 := ⟨(TTm (List.mem_append_right _ (t1m_1 (List.mem_of_getElem? (i := 4) rfl))) rfl), (TTm (List.mem_append_right _ (t1m_3 (List.mem_of_getElem? (i := 44) rfl))) rfl), by decide +kernel, by decide +kernel, by decide +kernel⟩
theorem mv_X1_setCell : MwV yX1_setCell := ⟨(TTm (List.mem_append_right _ (t1m_3 (List.mem_of_getElem? (i := 42) rfl))) rfl), (TTm (List.mem_append_right _ (t1m_3 (List.mem_of_getElem? (i := 43) rfl))) rfl)⟩
theorem mw_X2_areTonesApart : Mw yX2_areTonesApart cX2_areTonesApart 3 (some .boolean) 2 := ⟨(TTm (List.mem_append_right _ (t1m_1 (List.mem_of_getElem? (i := 6) rfl))) rfl), (TTm (List.mem_append_right _ (t1m_3 (List.mem_of_getElem? (i := 186) rfl))) rfl), by decide +kernel, by decide +kernel, by decide +kernel⟩
theorem ms_X2_areTonesApart : Cond.static yX2_areTonesApart ∈ TT := (TTm (List.mem_append_right _ (t1m_3 (List.mem_of_getElem? (i := 185) rfl))) rfl)
theorem mw_X2_find : Mw yX2_find cX2_find 4 (some .boolean) 2 := ⟨(TTm (List.mem_append_right _ (t1m_1 (List.mem_of_getElem? (i := 6) rfl))) rfl), (TTm (List.mem_append_right _ (t1m_3 (List.mem_of_getElem? (i := 195) rfl))) rfl), by decide +kernel, by decide +kernel, by decide +kernel⟩
theorem mv_X2_find : MwV yX2_find := ⟨(TTm (List.mem_append_right _ (t1m_3 (List.mem_of_getElem? (i := 193) rfl))) rfl), (TTm (List.mem_append_right _ (t1m_3 (List.mem_of_getElem? (i := 194) rfl))) rfl)⟩
theorem mw_X2_findFrom : Mw yX2_findFrom cX2_findFrom 8 (some .boolean) 3 := ⟨(TTm (List.mem_append_right _ (t1m_1 (List.mem_of_getElem? (i := 6) rfl))) rfl), (TTm (List.mem_append_right _ (t1m_3 (List.mem_of_getElem? (i := 199) rfl))) rfl), by decide +kernel, by decide +kernel, by decide +kernel⟩
theorem mv_X2_findFrom : MwV yX2_findFrom := ⟨(TTm (List.mem_append_right _ (t1m_3 (List.mem_of_getElem? (i := 198) rfl))) rfl), (TTm (List.mem_append_left _ (List.mem_of_getElem? (i := 11) rfl)) rfl)⟩
theorem mw_X2_firstFree : Mw yX2_firstFree cX2_firstFree 5 (some .int) 3 := ⟨(TTm (List.mem_append_right _ (t1m_1 (List.mem_of_getElem? (i := 6) rfl))) rfl), (TTm (List.mem_append_right _ (t1m_3 (List.mem_of_getElem? (i := 215) rfl))) rfl), by decide +kernel, by decide +kernel, by decide +kernel⟩
theorem ms_X2_firstFree : Cond.static yX2_firstFree ∈ TT := (TTm (List.mem_append_right _ (t1m_3 (List.mem_of_getElem? (i := 214) rfl))) rfl)
theorem mw_X2_reason : Mw yX2_reason cX2_reason 12 (some .int) 5 := ⟨(TTm (List.mem_append_right _ (t1m_1 (List.mem_of_getElem? (i := 6) rfl))) rfl), (TTm (List.mem_append_right _ (t1m_3 (List.mem_of_getElem? (i := 165) rfl))) rfl), by decide +kernel, by decide +kernel, by decide +kernel⟩
theorem mv_X2_reason : MwV yX2_reason := ⟨(TTm (List.mem_append_right _ (t1m_3 (List.mem_of_getElem? (i := 163) rfl))) rfl), (TTm (List.mem_append_right _ (t1m_3 (List.mem_of_getElem? (i := 164) rfl))) rfl)⟩
theorem mw_X2_reasonOfCut : Mw yX2_reasonOfCut cX2_reasonOfCut 9 (some .int) 5 := ⟨(TTm (List.mem_append_right _ (t1m_1 (List.mem_of_getElem? (i := 6) rfl))) rfl), (TTm (List.mem_append_right _ (t1m_3 (List.mem_of_getElem? (i := 170) rfl))) rfl), by decide +kernel, by decide +kernel, by decide +kernel⟩
theorem ms_X2_reasonOfCut : Cond.static yX2_reasonOfCut ∈ TT := (TTm (List.mem_append_right _ (t1m_3 (List.mem_of_getElem? (i := 169) rfl))) rfl)
theorem mw_X2_takenColumns : Mw yX2_takenColumns cX2_takenColumns 7 (some .long) 4 := ⟨(TTm (List.mem_append_right _ (t1m_1 (List.mem_of_getElem? (i := 6) rfl))) rfl), (TTm (List.mem_append_right _ (t1m_3 (List.mem_of_getElem? (i := 208) rfl))) rfl), by decide +kernel, by decide +kernel, by decide +kernel⟩
theorem ms_X2_takenColumns : Cond.static yX2_takenColumns ∈ TT := (TTm (List.mem_append_right _ (t1m_3 (List.mem_of_getElem? (i := 207) rfl))) rfl)
theorem mw_X3_begin : Mw yX3_begin cX3_begin 6 none 5 := ⟨(TTm (List.mem_append_right _ (t1m_1 (List.mem_of_getElem? (i := 8) rfl))) rfl), (TTm (List.mem_append_right _ (t1m_2 (List.mem_of_getElem? (i := 170) rfl))) rfl), by decide +kernel, by decide +kernel, by decide +kernel⟩
theorem mv_X3_begin : MwV yX3_begin := ⟨(TTm (List.mem_append_right _ (t1m_2 (List.mem_of_getElem? (i := 168) rfl))) rfl), (TTm (List.mem_append_right _ (t1m_2 (List.mem_of_getElem? (i := 169) rfl))) rfl)⟩
theorem mw_X3_driftTo : Mw yX3_driftTo cX3_driftTo 4 none 3 := ⟨(TTm (List.mem_append_right _ (t1m_1 (List.mem_of_getElem? (i := 8) rfl))) rfl), (TTm (List.mem_append_right _ (t1m_2 (List.mem_of_getElem? (i := 174) rfl))) rfl), by decide +kernel, by decide +kernel, by decide +kernel⟩
theorem mv_X3_driftTo : MwV yX3_driftTo := ⟨(TTm (List.mem_append_right _ (t1m_2 (List.mem_of_getElem? (i := 172) rfl))) rfl), (TTm (List.mem_append_right _ (t1m_2 (List.mem_of_getElem? (i := 173) rfl))) rfl)⟩
theorem mw_X3_leftIn : Mw yX3_leftIn cX3_leftIn 2 (some .int) 1 := ⟨(TTm (List.mem_append_right _ (t1m_1 (List.mem_of_getElem? (i := 8) rfl))) rfl), (TTm (List.mem_append_right _ (t1m_2 (List.mem_of_getElem? (i := 182) rfl))) rfl), by decide +kernel, by decide +kernel, by decide +kernel⟩
theorem mv_X3_leftIn : MwV yX3_leftIn := ⟨(TTm (List.mem_append_right _ (t1m_2 (List.mem_of_getElem? (i := 180) rfl))) rfl), (TTm (List.mem_append_right _ (t1m_2 (List.mem_of_getElem? (i := 181) rfl))) rfl)⟩
theorem mw_X3_overlaps : Mw yX3_overlaps cX3_overlaps 6 (some .boolean) 5 := ⟨(TTm (List.mem_append_right _ (t1m_1 (List.mem_of_getElem? (i := 8) rfl))) rfl), (TTm (List.mem_append_right _ (t1m_2 (List.mem_of_getElem? (i := 225) rfl))) rfl), by decide +kernel, by decide +kernel, by decide +kernel⟩
theorem mv_X3_overlaps : MwV yX3_overlaps := ⟨(TTm (List.mem_append_right _ (t1m_2 (List.mem_of_getElem? (i := 223) rfl))) rfl), (TTm (List.mem_append_right _ (t1m_2 (List.mem_of_getElem? (i := 224) rfl))) rfl)⟩
theorem mw_X3_topIn : Mw yX3_topIn cX3_topIn 2 (some .int) 1 := ⟨(TTm (List.mem_append_right _ (t1m_1 (List.mem_of_getElem? (i := 8) rfl))) rfl), (TTm (List.mem_append_right _ (t1m_2 (List.mem_of_getElem? (i := 196) rfl))) rfl), by decide +kernel, by decide +kernel, by decide +kernel⟩
theorem mv_X3_topIn : MwV yX3_topIn := ⟨(TTm (List.mem_append_right _ (t1m_2 (List.mem_of_getElem? (i := 194) rfl))) rfl), (TTm (List.mem_append_right _ (t1m_2 (List.mem_of_getElem? (i := 195) rfl))) rfl)⟩
theorem mw_X4_addCuts : Mw yX4_addCuts cX4_addCuts 2 none 1 := ⟨(TTm (List.mem_append_right _ (t1m_1 (List.mem_of_getElem? (i := 7) rfl))) rfl), (TTm (List.mem_append_right _ (t1m_3 (List.mem_of_getElem? (i := 238) rfl))) rfl), by decide +kernel, by decide +kernel, by decide +kernel⟩
theorem mv_X4_addCuts : MwV yX4_addCuts := ⟨(TTm (List.mem_append_right _ (t1m_3 (List.mem_of_getElem? (i := 236) rfl))) rfl), (TTm (List.mem_append_right _ (t1m_3 (List.mem_of_getElem? (i := 237) rfl))) rfl)⟩
theorem mw_X4_addFlaw : Mw yX4_addFlaw cX4_addFlaw 6 (some .int) 5 := ⟨(TTm (List.mem_append_right _ (t1m_1 (List.mem_of_getElem? (i := 7) rfl))) rfl), (TTm (List.mem_append_right _ (t1m_2 (List.mem_of_getElem? (i := 166) rfl))) rfl), by decide +kernel, by decide +kernel, by decide +kernel⟩
theorem mv_X4_addFlaw : MwV yX4_addFlaw := ⟨(TTm (List.mem_append_right _ (t1m_2 (List.mem_of_getElem? (i := 164) rfl))) rfl), (TTm (List.mem_append_right _ (t1m_2 (List.mem_of_getElem? (i := 165) rfl))) rfl)⟩
theorem mw_X4_begin : Mw yX4_begin cX4_begin 5 none 4 := ⟨(TTm (List.mem_append_right _ (t1m_1 (List.mem_of_getElem? (i := 7) rfl))) rfl), (TTm (List.mem_append_right _ (t1m_2 (List.mem_of_getElem? (i := 133) rfl))) rfl), by decide +kernel, by decide +kernel, by decide +kernel⟩
theorem mv_X4_begin : MwV yX4_begin := ⟨(TTm (List.mem_append_right _ (t1m_2 (List.mem_of_getElem? (i := 131) rfl))) rfl), (TTm (List.mem_append_right _ (t1m_2 (List.mem_of_getElem? (i := 132) rfl))) rfl)⟩
theorem mw_X4_changeCuts : Mw yX4_changeCuts cX4_changeCuts 7 none 2 := ⟨(TTm (List.mem_append_right _ (t1m_1 (List.mem_of_getElem? (i := 7) rfl))) rfl), (TTm (List.mem_append_right _ (t1m_4 (List.mem_of_getElem? (i := 2) rfl))) rfl), by decide +kernel, by decide +kernel, by decide +kernel⟩
theorem mv_X4_changeCuts : MwV yX4_changeCuts := ⟨(TTm (List.mem_append_right _ (t1m_4 (List.mem_of_getElem? (i := 1) rfl))) rfl), (TTm (List.mem_append_left _ (List.mem_of_getElem? (i := 12) rfl)) rfl)⟩
theorem mw_X4_countFlawsIn : Mw yX4_countFlawsIn cX4_countFlawsIn 4 (some .int) 1 := ⟨(TTm (List.mem_append_right _ (t1m_1 (List.mem_of_getElem? (i := 7) rfl))) rfl), (TTm (List.mem_append_right _ (t1m_2 (List.mem_of_getElem? (i := 221) rfl))) rfl), by decide +kernel, by decide +kernel, by decide +kernel⟩
theorem mv_X4_countFlawsIn : MwV yX4_countFlawsIn := ⟨(TTm (List.mem_append_right _ (t1m_2 (List.mem_of_getElem? (i := 219) rfl))) rfl), (TTm (List.mem_append_right _ (t1m_2 (List.mem_of_getElem? (i := 220) rfl))) rfl)⟩
theorem mw_X4_driftLatest : Mw yX4_driftLatest cX4_driftLatest 5 (some .boolean) 3 := ⟨(TTm (List.mem_append_right _ (t1m_1 (List.mem_of_getElem? (i := 7) rfl))) rfl), (TTm (List.mem_append_right _ (t1m_2 (List.mem_of_getElem? (i := 207) rfl))) rfl), by decide +kernel, by decide +kernel, by decide +kernel⟩
theorem mv_X4_driftLatest : MwV yX4_driftLatest := ⟨(TTm (List.mem_append_right _ (t1m_2 (List.mem_of_getElem? (i := 205) rfl))) rfl), (TTm (List.mem_append_right _ (t1m_2 (List.mem_of_getElem? (i := 206) rfl))) rfl)⟩
theorem mw_X4_hasLeaf : Mw yX4_hasLeaf cX4_hasLeaf 3 (some .boolean) 1 := ⟨(TTm (List.mem_append_right _ (t1m_1 (List.mem_of_getElem? (i := 7) rfl))) rfl), (TTm (List.mem_append_right _ (t1m_2 (List.mem_of_getElem? (i := 162) rfl))) rfl), by decide +kernel, by decide +kernel, by decide +kernel⟩
theorem mv_X4_hasLeaf : MwV yX4_hasLeaf := ⟨(TTm (List.mem_append_right _ (t1m_2 (List.mem_of_getElem? (i := 160) rfl))) rfl), (TTm (List.mem_append_right _ (t1m_2 (List.mem_of_getElem? (i := 161) rfl))) rfl)⟩
theorem mw_X4_holds : Mw yX4_holds cX4_holds 7 (some .boolean) 5 := ⟨(TTm (List.mem_append_right _ (t1m_1 (List.mem_of_getElem? (i := 7) rfl))) rfl), (TTm (List.mem_append_right _ (t1m_2 (List.mem_of_getElem? (i := 236) rfl))) rfl), by decide +kernel, by decide +kernel, by decide +kernel⟩
theorem mv_X4_holds : MwV yX4_holds := ⟨(TTm (List.mem_append_right _ (t1m_2 (List.mem_of_getElem? (i := 234) rfl))) rfl), (TTm (List.mem_append_right _ (t1m_2 (List.mem_of_getElem? (i := 235) rfl))) rfl)⟩
theorem mw_X4_isCut : Mw yX4_isCut cX4_isCut 6 (some .boolean) 5 := ⟨(TTm (List.mem_append_right _ (t1m_1 (List.mem_of_getElem? (i := 7) rfl))) rfl), (TTm (List.mem_append_right _ (t1m_3 (List.mem_of_getElem? (i := 183) rfl))) rfl), by decide +kernel, by decide +kernel, by decide +kernel⟩
theorem mv_X4_isCut : MwV yX4_isCut := ⟨(TTm (List.mem_append_right _ (t1m_3 (List.mem_of_getElem? (i := 181) rfl))) rfl), (TTm (List.mem_append_right _ (t1m_3 (List.mem_of_getElem? (i := 182) rfl))) rfl)⟩
theorem mw_X4_isFlawed : Mw yX4_isFlawed cX4_isFlawed 6 (some .boolean) 5 := ⟨(TTm (List.mem_append_right _ (t1m_1 (List.mem_of_getElem? (i := 7) rfl))) rfl), (TTm (List.mem_append_right _ (t1m_3 (List.mem_of_getElem? (i := 176) rfl))) rfl), by decide +kernel, by decide +kernel, by decide +kernel⟩
theorem mv_X4_isFlawed : MwV yX4_isFlawed := ⟨(TTm (List.mem_append_right _ (t1m_3 (List.mem_of_getElem? (i := 174) rfl))) rfl), (TTm (List.mem_append_right _ (t1m_3 (List.mem_of_getElem? (i := 175) rfl))) rfl)⟩
theorem mw_X4_leastFlawIn : Mw yX4_leastFlawIn cX4_leastFlawIn 7 (some .int) 5 := ⟨(TTm (List.mem_append_right _ (t1m_1 (List.mem_of_getElem? (i := 7) rfl))) rfl), (TTm (List.mem_append_right _ (t1m_3 (List.mem_of_getElem? (i := 0) rfl))) rfl), by decide +kernel, by decide +kernel, by decide +kernel⟩
theorem mv_X4_leastFlawIn : MwV yX4_leastFlawIn := ⟨(TTm (List.mem_append_right _ (t1m_2 (List.mem_of_getElem? (i := 238) rfl))) rfl), (TTm (List.mem_append_right _ (t1m_2 (List.mem_of_getElem? (i := 239) rfl))) rfl)⟩
theorem mw_X4_markFlaw : Mw yX4_markFlaw cX4_markFlaw 8 none 1 := ⟨(TTm (List.mem_append_right _ (t1m_1 (List.mem_of_getElem? (i := 7) rfl))) rfl), (TTm (List.mem_append_right _ (t1m_2 (List.mem_of_getElem? (i := 178) rfl))) rfl), by decide +kernel, by decide +kernel, by decide +kernel⟩
theorem mv_X4_markFlaw : MwV yX4_markFlaw := ⟨(TTm (List.mem_append_right _ (t1m_2 (List.mem_of_getElem? (i := 177) rfl))) rfl), (TTm (List.mem_append_left _ (List.mem_of_getElem? (i := 0) rfl)) rfl)⟩
theorem mw_X4_mask : Mw yX4_mask cX4_mask 2 (some .long) 2 := ⟨(TTm (List.mem_append_right _ (t1m_1 (List.mem_of_getElem? (i := 7) rfl))) rfl), (TTm (List.mem_append_right _ (t1m_2 (List.mem_of_getElem? (i := 199) rfl))) rfl), by decide +kernel, by decide +kernel, by decide +kernel⟩
theorem ms_X4_mask : Cond.static yX4_mask ∈ TT := (TTm (List.mem_append_right _ (t1m_2 (List.mem_of_getElem? (i := 198) rfl))) rfl)
theorem mw_X4_meets : Mw yX4_meets cX4_meets 9 (some .boolean) 5 := ⟨(TTm (List.mem_append_right _ (t1m_1 (List.mem_of_getElem? (i := 7) rfl))) rfl), (TTm (List.mem_append_right _ (t1m_3 (List.mem_of_getElem? (i := 179) rfl))) rfl), by decide +kernel, by decide +kernel, by decide +kernel⟩
theorem ms_X4_meets : Cond.static yX4_meets ∈ TT := (TTm (List.mem_append_right _ (t1m_3 (List.mem_of_getElem? (i := 178) rfl))) rfl)
theorem mw_X4_removeCuts : Mw yX4_removeCuts cX4_removeCuts 2 none 1 := ⟨(TTm (List.mem_append_right _ (t1m_1 (List.mem_of_getElem? (i := 7) rfl))) rfl), (TTm (List.mem_append_right _ (t1m_4 (List.mem_of_getElem? (i := 37) rfl))) rfl), by decide +kernel, by decide +kernel, by decide +kernel⟩
theorem mv_X4_removeCuts : MwV yX4_removeCuts := ⟨(TTm (List.mem_append_right _ (t1m_4 (List.mem_of_getElem? (i := 35) rfl))) rfl), (TTm (List.mem_append_right _ (t1m_4 (List.mem_of_getElem? (i := 36) rfl))) rfl)⟩
theorem mw_X4_takenColumns : Mw yX4_takenColumns cX4_takenColumns 8 (some .long) 3 := ⟨(TTm (List.mem_append_right _ (t1m_1 (List.mem_of_getElem? (i := 7) rfl))) rfl), (TTm (List.mem_append_right _ (t1m_3 (List.mem_of_getElem? (i := 212) rfl))) rfl), by decide +kernel, by decide +kernel, by decide +kernel⟩
theorem mv_X4_takenColumns : MwV yX4_takenColumns := ⟨(TTm (List.mem_append_right _ (t1m_3 (List.mem_of_getElem? (i := 210) rfl))) rfl), (TTm (List.mem_append_right _ (t1m_3 (List.mem_of_getElem? (i := 211) rfl))) rfl)⟩
theorem mw_X4_toneOf : Mw yX4_toneOf cX4_toneOf 2 (some .int) 1 := ⟨(TTm (List.mem_append_right _ (t1m_1 (List.mem_of_getElem? (i := 7) rfl))) rfl), (TTm (List.mem_append_right _ (t1m_2 (List.mem_of_getElem? (i := 217) rfl))) rfl), by decide +kernel, by decide +kernel, by decide +kernel⟩
theorem mv_X4_toneOf : MwV yX4_toneOf := ⟨(TTm (List.mem_append_right _ (t1m_2 (List.mem_of_getElem? (i := 215) rfl))) rfl), (TTm (List.mem_append_right _ (t1m_2 (List.mem_of_getElem? (i := 216) rfl))) rfl)⟩
theorem mw_X4_widthOf : Mw yX4_widthOf cX4_widthOf 2 (some .int) 1 := ⟨(TTm (List.mem_append_right _ (t1m_1 (List.mem_of_getElem? (i := 7) rfl))) rfl), (TTm (List.mem_append_right _ (t1m_2 (List.mem_of_getElem? (i := 189) rfl))) rfl), by decide +kernel, by decide +kernel, by decide +kernel⟩
theorem mv_X4_widthOf : MwV yX4_widthOf := ⟨(TTm (List.mem_append_right _ (t1m_2 (List.mem_of_getElem? (i := 187) rfl))) rfl), (TTm (List.mem_append_right _ (t1m_2 (List.mem_of_getElem? (i := 188) rfl))) rfl)⟩
theorem mw_X5_gatherWaiting : Mw yX5_gatherWaiting cX5_gatherWaiting 2 (some .boolean) 0 := ⟨(TTm (List.mem_append_right _ (t1m_1 (List.mem_of_getElem? (i := 10) rfl))) rfl), (TTm (List.mem_append_right _ (t1m_4 (List.mem_of_getElem? (i := 16) rfl))) rfl), by decide +kernel, by decide +kernel, by decide +kernel⟩
theorem mv_X5_gatherWaiting : MwV yX5_gatherWaiting := ⟨(TTm (List.mem_append_right _ (t1m_4 (List.mem_of_getElem? (i := 15) rfl))) rfl), (TTm (List.mem_append_left _ (List.mem_of_getElem? (i := 13) rfl)) rfl)⟩
theorem mw_X5_tell : Mw yX5_tell cX5_tell 2 (some .int) 0 := ⟨(TTm (List.mem_append_right _ (t1m_1 (List.mem_of_getElem? (i := 10) rfl))) rfl), (TTm (List.mem_append_right _ (t1m_4 (List.mem_of_getElem? (i := 12) rfl))) rfl), by decide +kernel, by decide +kernel, by decide +kernel⟩
theorem mv_X5_tell : MwV yX5_tell := ⟨(TTm (List.mem_append_right _ (t1m_4 (List.mem_of_getElem? (i := 10) rfl))) rfl), (TTm (List.mem_append_right _ (t1m_4 (List.mem_of_getElem? (i := 11) rfl))) rfl)⟩
theorem mw_X5_tryDoor : Mw yX5_tryDoor cX5_tryDoor 5 none 2 := ⟨(TTm (List.mem_append_right _ (t1m_1 (List.mem_of_getElem? (i := 10) rfl))) rfl), (TTm (List.mem_append_right _ (t1m_4 (List.mem_of_getElem? (i := 21) rfl))) rfl), by decide +kernel, by decide +kernel, by decide +kernel⟩
theorem mv_X5_tryDoor : MwV yX5_tryDoor := ⟨(TTm (List.mem_append_right _ (t1m_4 (List.mem_of_getElem? (i := 20) rfl))) rfl), (TTm (List.mem_append_left _ (List.mem_of_getElem? (i := 14) rfl)) rfl)⟩
theorem mw_X6_drawPiece : Mw yX6_drawPiece cX6_drawPiece 4 (some .boolean) 3 := ⟨(TTm (List.mem_append_right _ (t1m_1 (List.mem_of_getElem? (i := 3) rfl))) rfl), (TTm (List.mem_append_right _ (t1m_3 (List.mem_of_getElem? (i := 40) rfl))) rfl), by decide +kernel, by decide +kernel, by decide +kernel⟩
theorem mv_X6_drawPiece : MwV yX6_drawPiece := ⟨(TTm (List.mem_append_right _ (t1m_3 (List.mem_of_getElem? (i := 39) rfl))) rfl), (TTm (List.mem_append_left _ (List.mem_of_getElem? (i := 6) rfl)) rfl)⟩
theorem mw_X6_isBlank : Mw yX6_isBlank cX6_isBlank 1 (some .boolean) 1 := ⟨(TTm (List.mem_append_right _ (t1m_1 (List.mem_of_getElem? (i := 3) rfl))) rfl), (TTm (List.mem_append_right _ (t1m_3 (List.mem_of_getElem? (i := 31) rfl))) rfl), by decide +kernel, by decide +kernel, by decide +kernel⟩
theorem ms_X6_isBlank : Cond.static yX6_isBlank ∈ TT := (TTm (List.mem_append_right _ (t1m_3 (List.mem_of_getElem? (i := 30) rfl))) rfl)
theorem mw_X6_nextByte : Mw yX6_nextByte cX6_nextByte 1 (some .int) 0 := ⟨(TTm (List.mem_append_right _ (t1m_1 (List.mem_of_getElem? (i := 3) rfl))) rfl), (TTm (List.mem_append_right _ (t1m_3 (List.mem_of_getElem? (i := 24) rfl))) rfl), by decide +kernel, by decide +kernel, by decide +kernel⟩
theorem mv_X6_nextByte : MwV yX6_nextByte := ⟨(TTm (List.mem_append_right _ (t1m_3 (List.mem_of_getElem? (i := 23) rfl))) rfl), (TTm (List.mem_append_left _ (List.mem_of_getElem? (i := 4) rfl)) rfl)⟩
theorem mw_X6_readBracket : Mw yX6_readBracket cX6_readBracket 4 (some .boolean) 3 := ⟨(TTm (List.mem_append_right _ (t1m_1 (List.mem_of_getElem? (i := 3) rfl))) rfl), (TTm (List.mem_append_right _ (t1m_3 (List.mem_of_getElem? (i := 61) rfl))) rfl), by decide +kernel, by decide +kernel, by decide +kernel⟩
theorem mv_X6_readBracket : MwV yX6_readBracket := ⟨(TTm (List.mem_append_right _ (t1m_3 (List.mem_of_getElem? (i := 60) rfl))) rfl), (TTm (List.mem_append_left _ (List.mem_of_getElem? (i := 8) rfl)) rfl)⟩
theorem mw_X6_readChanged : Mw yX6_readChanged cX6_readChanged 5 (some .boolean) 4 := ⟨(TTm (List.mem_append_right _ (t1m_1 (List.mem_of_getElem? (i := 3) rfl))) rfl), (TTm (List.mem_append_right _ (t1m_3 (List.mem_of_getElem? (i := 65) rfl))) rfl), by decide +kernel, by decide +kernel, by decide +kernel⟩
theorem mv_X6_readChanged : MwV yX6_readChanged := ⟨(TTm (List.mem_append_right _ (t1m_3 (List.mem_of_getElem? (i := 64) rfl))) rfl), (TTm (List.mem_append_left _ (List.mem_of_getElem? (i := 9) rfl)) rfl)⟩
theorem mw_X6_readColumn : Mw yX6_readColumn cX6_readColumn 8 (some .boolean) 3 := ⟨(TTm (List.mem_append_right _ (t1m_1 (List.mem_of_getElem? (i := 3) rfl))) rfl), (TTm (List.mem_append_right _ (t1m_3 (List.mem_of_getElem? (i := 16) rfl))) rfl), by decide +kernel, by decide +kernel, by decide +kernel⟩
theorem mv_X6_readColumn : MwV yX6_readColumn := ⟨(TTm (List.mem_append_right _ (t1m_3 (List.mem_of_getElem? (i := 15) rfl))) rfl), (TTm (List.mem_append_left _ (List.mem_of_getElem? (i := 2) rfl)) rfl)⟩
theorem mw_X6_readPart : Mw yX6_readPart cX6_readPart 8 (some .boolean) 3 := ⟨(TTm (List.mem_append_right _ (t1m_1 (List.mem_of_getElem? (i := 3) rfl))) rfl), (TTm (List.mem_append_right _ (t1m_3 (List.mem_of_getElem? (i := 20) rfl))) rfl), by decide +kernel, by decide +kernel, by decide +kernel⟩
theorem mv_X6_readPart : MwV yX6_readPart := ⟨(TTm (List.mem_append_right _ (t1m_3 (List.mem_of_getElem? (i := 19) rfl))) rfl), (TTm (List.mem_append_left _ (List.mem_of_getElem? (i := 3) rfl)) rfl)⟩
theorem mw_X6_readRepeated : Mw yX6_readRepeated cX6_readRepeated 6 (some .boolean) 4 := ⟨(TTm (List.mem_append_right _ (t1m_1 (List.mem_of_getElem? (i := 3) rfl))) rfl), (TTm (List.mem_append_right _ (t1m_3 (List.mem_of_getElem? (i := 48) rfl))) rfl), by decide +kernel, by decide +kernel, by decide +kernel⟩
theorem mv_X6_readRepeated : MwV yX6_readRepeated := ⟨(TTm (List.mem_append_right _ (t1m_3 (List.mem_of_getElem? (i := 47) rfl))) rfl), (TTm (List.mem_append_left _ (List.mem_of_getElem? (i := 7) rfl)) rfl)⟩
theorem mw_X6_readRow : Mw yX6_readRow cX6_readRow 8 (some .boolean) 3 := ⟨(TTm (List.mem_append_right _ (t1m_1 (List.mem_of_getElem? (i := 3) rfl))) rfl), (TTm (List.mem_append_right _ (t1m_3 (List.mem_of_getElem? (i := 12) rfl))) rfl), by decide +kernel, by decide +kernel, by decide +kernel⟩
theorem mv_X6_readRow : MwV yX6_readRow := ⟨(TTm (List.mem_append_right _ (t1m_3 (List.mem_of_getElem? (i := 11) rfl))) rfl), (TTm (List.mem_append_left _ (List.mem_of_getElem? (i := 1) rfl)) rfl)⟩
theorem mw_X6_readTape : Mw yX6_readTape cX6_readTape 1 (some .boolean) 0 := ⟨(TTm (List.mem_append_right _ (t1m_1 (List.mem_of_getElem? (i := 3) rfl))) rfl), (TTm (List.mem_append_right _ (t1m_3 (List.mem_of_getElem? (i := 8) rfl))) rfl), by decide +kernel, by decide +kernel, by decide +kernel⟩
theorem mv_X6_readTape : MwV yX6_readTape := ⟨(TTm (List.mem_append_right _ (t1m_3 (List.mem_of_getElem? (i := 6) rfl))) rfl), (TTm (List.mem_append_right _ (t1m_3 (List.mem_of_getElem? (i := 7) rfl))) rfl)⟩
theorem mw_X6_refuse : Mw yX6_refuse cX6_refuse 3 (some .boolean) 2 := ⟨(TTm (List.mem_append_right _ (t1m_1 (List.mem_of_getElem? (i := 3) rfl))) rfl), (TTm (List.mem_append_right _ (t1m_3 (List.mem_of_getElem? (i := 36) rfl))) rfl), by decide +kernel, by decide +kernel, by decide +kernel⟩
theorem mv_X6_refuse : MwV yX6_refuse := ⟨(TTm (List.mem_append_right _ (t1m_3 (List.mem_of_getElem? (i := 35) rfl))) rfl), (TTm (List.mem_append_left _ (List.mem_of_getElem? (i := 5) rfl)) rfl)⟩
theorem mw_X7_append : Mw yX7_append cX7_append 3 none 1 := ⟨(TTm (List.mem_append_right _ (t1m_1 (List.mem_of_getElem? (i := 2) rfl))) rfl), (TTm (List.mem_append_right _ (t1m_2 (List.mem_of_getElem? (i := 113) rfl))) rfl), by decide +kernel, by decide +kernel, by decide +kernel⟩
theorem mv_X7_append : MwV yX7_append := ⟨(TTm (List.mem_append_right _ (t1m_2 (List.mem_of_getElem? (i := 111) rfl))) rfl), (TTm (List.mem_append_right _ (t1m_2 (List.mem_of_getElem? (i := 112) rfl))) rfl)⟩
theorem mw_X7_byteAt : Mw yX7_byteAt cX7_byteAt 2 (some .int) 1 := ⟨(TTm (List.mem_append_right _ (t1m_1 (List.mem_of_getElem? (i := 2) rfl))) rfl), (TTm (List.mem_append_right _ (t1m_3 (List.mem_of_getElem? (i := 28) rfl))) rfl), by decide +kernel, by decide +kernel, by decide +kernel⟩
theorem mv_X7_byteAt : MwV yX7_byteAt := ⟨(TTm (List.mem_append_right _ (t1m_3 (List.mem_of_getElem? (i := 26) rfl))) rfl), (TTm (List.mem_append_right _ (t1m_3 (List.mem_of_getElem? (i := 27) rfl))) rfl)⟩
theorem mw_X7_hasRoom : Mw yX7_hasRoom cX7_hasRoom 1 (some .boolean) 0 := ⟨(TTm (List.mem_append_right _ (t1m_1 (List.mem_of_getElem? (i := 2) rfl))) rfl), (TTm (List.mem_append_right _ (t1m_2 (List.mem_of_getElem? (i := 109) rfl))) rfl), by decide +kernel, by decide +kernel, by decide +kernel⟩
theorem mv_X7_hasRoom : MwV yX7_hasRoom := ⟨(TTm (List.mem_append_right _ (t1m_2 (List.mem_of_getElem? (i := 107) rfl))) rfl), (TTm (List.mem_append_right _ (t1m_2 (List.mem_of_getElem? (i := 108) rfl))) rfl)⟩
theorem mw_X7_shorten : Mw yX7_shorten cX7_shorten 3 (some .boolean) 1 := ⟨(TTm (List.mem_append_right _ (t1m_1 (List.mem_of_getElem? (i := 2) rfl))) rfl), (TTm (List.mem_append_right _ (t1m_2 (List.mem_of_getElem? (i := 121) rfl))) rfl), by decide +kernel, by decide +kernel, by decide +kernel⟩
theorem mv_X7_shorten : MwV yX7_shorten := ⟨(TTm (List.mem_append_right _ (t1m_2 (List.mem_of_getElem? (i := 119) rfl))) rfl), (TTm (List.mem_append_right _ (t1m_2 (List.mem_of_getElem? (i := 120) rfl))) rfl)⟩
theorem mw_X8_doorAt : Mw yX8_doorAt cX8_doorAt 2 (some (.object RX0)) 1 := ⟨(TTm (List.mem_append_right _ (t1m_1 (List.mem_of_getElem? (i := 5) rfl))) rfl), (TTm (List.mem_append_right _ (t1m_3 (List.mem_of_getElem? (i := 113) rfl))) rfl), by decide +kernel, by decide +kernel, by decide +kernel⟩
theorem mv_X8_doorAt : MwV yX8_doorAt := ⟨(TTm (List.mem_append_right _ (t1m_3 (List.mem_of_getElem? (i := 111) rfl))) rfl), (TTm (List.mem_append_right _ (t1m_3 (List.mem_of_getElem? (i := 112) rfl))) rfl)⟩
theorem mw_X8_forgetMadeOf : Mw yX8_forgetMadeOf cX8_forgetMadeOf 3 none 1 := ⟨(TTm (List.mem_append_right _ (t1m_1 (List.mem_of_getElem? (i := 5) rfl))) rfl), (TTm (List.mem_append_right _ (t1m_2 (List.mem_of_getElem? (i := 141) rfl))) rfl), by decide +kernel, by decide +kernel, by decide +kernel⟩
theorem mv_X8_forgetMadeOf : MwV yX8_forgetMadeOf := ⟨(TTm (List.mem_append_right _ (t1m_2 (List.mem_of_getElem? (i := 139) rfl))) rfl), (TTm (List.mem_append_right _ (t1m_2 (List.mem_of_getElem? (i := 140) rfl))) rfl)⟩
theorem mw_X8_logAt : Mw yX8_logAt cX8_logAt 2 (some (.object RX4)) 1 := ⟨(TTm (List.mem_append_right _ (t1m_1 (List.mem_of_getElem? (i := 5) rfl))) rfl), (TTm (List.mem_append_right _ (t1m_2 (List.mem_of_getElem? (i := 153) rfl))) rfl), by decide +kernel, by decide +kernel, by decide +kernel⟩
theorem mv_X8_logAt : MwV yX8_logAt := ⟨(TTm (List.mem_append_right _ (t1m_2 (List.mem_of_getElem? (i := 151) rfl))) rfl), (TTm (List.mem_append_right _ (t1m_2 (List.mem_of_getElem? (i := 152) rfl))) rfl)⟩
theorem mw_X8_makeIn : Mw yX8_makeIn cX8_makeIn 4 (some .boolean) 2 := ⟨(TTm (List.mem_append_right _ (t1m_1 (List.mem_of_getElem? (i := 5) rfl))) rfl), (TTm (List.mem_append_right _ (t1m_3 (List.mem_of_getElem? (i := 228) rfl))) rfl), by decide +kernel, by decide +kernel, by decide +kernel⟩
theorem mv_X8_makeIn : MwV yX8_makeIn := ⟨(TTm (List.mem_append_right _ (t1m_3 (List.mem_of_getElem? (i := 226) rfl))) rfl), (TTm (List.mem_append_right _ (t1m_3 (List.mem_of_getElem? (i := 227) rfl))) rfl)⟩
theorem mw_X8_takeBack : Mw yX8_takeBack cX8_takeBack 3 none 1 := ⟨(TTm (List.mem_append_right _ (t1m_1 (List.mem_of_getElem? (i := 5) rfl))) rfl), (TTm (List.mem_append_right _ (t1m_4 (List.mem_of_getElem? (i := 33) rfl))) rfl), by decide +kernel, by decide +kernel, by decide +kernel⟩
theorem mv_X8_takeBack : MwV yX8_takeBack := ⟨(TTm (List.mem_append_right _ (t1m_4 (List.mem_of_getElem? (i := 31) rfl))) rfl), (TTm (List.mem_append_right _ (t1m_4 (List.mem_of_getElem? (i := 32) rfl))) rfl)⟩
theorem mw_X9_isFrom : Mw yX9_isFrom cX9_isFrom 3 (some .boolean) 3 := ⟨(TTm (List.mem_append_right _ (t1m_1 (List.mem_of_getElem? (i := 1) rfl))) rfl), (TTm (List.mem_append_right _ (t1m_2 (List.mem_of_getElem? (i := 124) rfl))) rfl), by decide +kernel, by decide +kernel, by decide +kernel⟩
theorem ms_X9_isFrom : Cond.static yX9_isFrom ∈ TT := (TTm (List.mem_append_right _ (t1m_2 (List.mem_of_getElem? (i := 123) rfl))) rfl)
end
