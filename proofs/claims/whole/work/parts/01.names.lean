-- ===== PART A: goes FIRST, ahead of the names: the tables' words, and 'selects' of the private methods out of them =====
/-- a private method of a class that the tables say can be made, by its rows of tables_1 -/
def lw_okq (q : MethodName × Nat) : Prop := (q.1.cls ≠ "java/lang/invoke/MethodHandle" ∧ q.1.cls ≠ "java/lang/invoke/VarHandle") ∧ Cond.instantiable q.1.cls q.2 ∈ tables_1 ∧ Cond.privateMethod q.1 ∈ tables_1 ∧ Cond.instanceMethod q.1 ∈ tables_1
theorem lw_p0 : lw_okq (⟨"VeneerDesk$Log", "markFlaw", "(LVeneerDesk$Flaw;)V"⟩, 12) := ⟨⟨by decide +kernel, by decide +kernel⟩, List.mem_of_getElem? (i := 137) (by decide +kernel), List.mem_of_getElem? (i := 418) (by decide +kernel), List.mem_of_getElem? (i := 419) (by decide +kernel)⟩
theorem lw_p1 : lw_okq (⟨"VeneerDesk$Reader", "readRow", "(III)Z"⟩, 7) := ⟨⟨by decide +kernel, by decide +kernel⟩, List.mem_of_getElem? (i := 25) (by decide +kernel), List.mem_of_getElem? (i := 492) (by decide +kernel), List.mem_of_getElem? (i := 493) (by decide +kernel)⟩
theorem lw_p2 : lw_okq (⟨"VeneerDesk$Reader", "readColumn", "(III)Z"⟩, 7) := ⟨⟨by decide +kernel, by decide +kernel⟩, List.mem_of_getElem? (i := 25) (by decide +kernel), List.mem_of_getElem? (i := 496) (by decide +kernel), List.mem_of_getElem? (i := 497) (by decide +kernel)⟩
theorem lw_p3 : lw_okq (⟨"VeneerDesk$Reader", "readPart", "(III)Z"⟩, 7) := ⟨⟨by decide +kernel, by decide +kernel⟩, List.mem_of_getElem? (i := 25) (by decide +kernel), List.mem_of_getElem? (i := 500) (by decide +kernel), List.mem_of_getElem? (i := 501) (by decide +kernel)⟩
theorem lw_p4 : lw_okq (⟨"VeneerDesk$Reader", "nextByte", "()I"⟩, 7) := ⟨⟨by decide +kernel, by decide +kernel⟩, List.mem_of_getElem? (i := 25) (by decide +kernel), List.mem_of_getElem? (i := 504) (by decide +kernel), List.mem_of_getElem? (i := 505) (by decide +kernel)⟩
theorem lw_p5 : lw_okq (⟨"VeneerDesk$Reader", "refuse", "(II)Z"⟩, 7) := ⟨⟨by decide +kernel, by decide +kernel⟩, List.mem_of_getElem? (i := 25) (by decide +kernel), List.mem_of_getElem? (i := 516) (by decide +kernel), List.mem_of_getElem? (i := 517) (by decide +kernel)⟩
theorem lw_p6 : lw_okq (⟨"VeneerDesk$Reader", "drawPiece", "(III)Z"⟩, 7) := ⟨⟨by decide +kernel, by decide +kernel⟩, List.mem_of_getElem? (i := 25) (by decide +kernel), List.mem_of_getElem? (i := 520) (by decide +kernel), List.mem_of_getElem? (i := 521) (by decide +kernel)⟩
theorem lw_p7 : lw_okq (⟨"VeneerDesk$Reader", "readRepeated", "(IIII)Z"⟩, 7) := ⟨⟨by decide +kernel, by decide +kernel⟩, List.mem_of_getElem? (i := 25) (by decide +kernel), List.mem_of_getElem? (i := 528) (by decide +kernel), List.mem_of_getElem? (i := 529) (by decide +kernel)⟩
theorem lw_p8 : lw_okq (⟨"VeneerDesk$Reader", "readBracket", "(III)Z"⟩, 7) := ⟨⟨by decide +kernel, by decide +kernel⟩, List.mem_of_getElem? (i := 25) (by decide +kernel), List.mem_of_getElem? (i := 541) (by decide +kernel), List.mem_of_getElem? (i := 542) (by decide +kernel)⟩
theorem lw_p9 : lw_okq (⟨"VeneerDesk$Reader", "readChanged", "(IIIZ)Z"⟩, 7) := ⟨⟨by decide +kernel, by decide +kernel⟩, List.mem_of_getElem? (i := 25) (by decide +kernel), List.mem_of_getElem? (i := 545) (by decide +kernel), List.mem_of_getElem? (i := 546) (by decide +kernel)⟩
theorem lw_p10 : lw_okq (⟨"VeneerDesk$Door", "countOffsets", "()V"⟩, 12) := ⟨⟨by decide +kernel, by decide +kernel⟩, List.mem_of_getElem? (i := 225) (by decide +kernel), List.mem_of_getElem? (i := 569) (by decide +kernel), List.mem_of_getElem? (i := 570) (by decide +kernel)⟩
theorem lw_p11 : lw_okq (⟨"VeneerDesk$Finder", "findFrom", "(LVeneerDesk$Door;LVeneerDesk$Log;I)Z"⟩, 4) := ⟨⟨by decide +kernel, by decide +kernel⟩, List.mem_of_getElem? (i := 113) (by decide +kernel), List.mem_of_getElem? (i := 679) (by decide +kernel), List.mem_of_getElem? (i := 680) (by decide +kernel)⟩
theorem lw_p12 : lw_okq (⟨"VeneerDesk$Log", "changeCuts", "(LVeneerDesk$Door;I)V"⟩, 12) := ⟨⟨by decide +kernel, by decide +kernel⟩, List.mem_of_getElem? (i := 137) (by decide +kernel), List.mem_of_getElem? (i := 722) (by decide +kernel), List.mem_of_getElem? (i := 723) (by decide +kernel)⟩
theorem lw_p13 : lw_okq (⟨"VeneerDesk$Planner", "gatherWaiting", "()Z"⟩, 7) := ⟨⟨by decide +kernel, by decide +kernel⟩, List.mem_of_getElem? (i := 97) (by decide +kernel), List.mem_of_getElem? (i := 736) (by decide +kernel), List.mem_of_getElem? (i := 737) (by decide +kernel)⟩
theorem lw_p14 : lw_okq (⟨"VeneerDesk$Planner", "tryDoor", "(II)V"⟩, 7) := ⟨⟨by decide +kernel, by decide +kernel⟩, List.mem_of_getElem? (i := 97) (by decide +kernel), List.mem_of_getElem? (i := 741) (by decide +kernel), List.mem_of_getElem? (i := 742) (by decide +kernel)⟩
theorem lw_p15 : lw_okq (⟨"VeneerDeskModel", "goes", "(II)V"⟩, 67) := ⟨⟨by decide +kernel, by decide +kernel⟩, List.mem_of_getElem? (i := 770) (by decide +kernel), List.mem_of_getElem? (i := 985) (by decide +kernel), List.mem_of_getElem? (i := 986) (by decide +kernel)⟩
def lw_privs_1 : List (MethodName × Nat) := [(⟨"VeneerDesk$Log", "markFlaw", "(LVeneerDesk$Flaw;)V"⟩, 12), (⟨"VeneerDesk$Reader", "readRow", "(III)Z"⟩, 7), (⟨"VeneerDesk$Reader", "readColumn", "(III)Z"⟩, 7), (⟨"VeneerDesk$Reader", "readPart", "(III)Z"⟩, 7), (⟨"VeneerDesk$Reader", "nextByte", "()I"⟩, 7), (⟨"VeneerDesk$Reader", "refuse", "(II)Z"⟩, 7), (⟨"VeneerDesk$Reader", "drawPiece", "(III)Z"⟩, 7), (⟨"VeneerDesk$Reader", "readRepeated", "(IIII)Z"⟩, 7), (⟨"VeneerDesk$Reader", "readBracket", "(III)Z"⟩, 7), (⟨"VeneerDesk$Reader", "readChanged", "(IIIZ)Z"⟩, 7), (⟨"VeneerDesk$Door", "countOffsets", "()V"⟩, 12), (⟨"VeneerDesk$Finder", "findFrom", "(LVeneerDesk$Door;LVeneerDesk$Log;I)Z"⟩, 4), (⟨"VeneerDesk$Log", "changeCuts", "(LVeneerDesk$Door;I)V"⟩, 12), (⟨"VeneerDesk$Planner", "gatherWaiting", "()Z"⟩, 7), (⟨"VeneerDesk$Planner", "tryDoor", "(II)V"⟩, 7), (⟨"VeneerDeskModel", "goes", "(II)V"⟩, 67)]
theorem lw_r1 : ∀ q ∈ lw_privs_1, lw_okq q := List.forall_mem_cons.mpr ⟨lw_p0, List.forall_mem_cons.mpr ⟨lw_p1, List.forall_mem_cons.mpr ⟨lw_p2, List.forall_mem_cons.mpr ⟨lw_p3, List.forall_mem_cons.mpr ⟨lw_p4, List.forall_mem_cons.mpr ⟨lw_p5, List.forall_mem_cons.mpr ⟨lw_p6, List.forall_mem_cons.mpr ⟨lw_p7, List.forall_mem_cons.mpr ⟨lw_p8, List.forall_mem_cons.mpr ⟨lw_p9, List.forall_mem_cons.mpr ⟨lw_p10, List.forall_mem_cons.mpr ⟨lw_p11, List.forall_mem_cons.mpr ⟨lw_p12, List.forall_mem_cons.mpr ⟨lw_p13, List.forall_mem_cons.mpr ⟨lw_p14, List.forall_mem_cons.mpr ⟨lw_p15, fun _ h => absurd h List.not_mem_nil⟩⟩⟩⟩⟩⟩⟩⟩⟩⟩⟩⟩⟩⟩⟩⟩
theorem lw_p16 : lw_okq (⟨"VeneerDeskModel", "isLog", "(I)Z"⟩, 67) := ⟨⟨by decide +kernel, by decide +kernel⟩, List.mem_of_getElem? (i := 770) (by decide +kernel), List.mem_of_getElem? (i := 993) (by decide +kernel), List.mem_of_getElem? (i := 994) (by decide +kernel)⟩
theorem lw_p17 : lw_okq (⟨"VeneerDeskModel", "isLeaf", "(II)Z"⟩, 67) := ⟨⟨by decide +kernel, by decide +kernel⟩, List.mem_of_getElem? (i := 770) (by decide +kernel), List.mem_of_getElem? (i := 1001) (by decide +kernel), List.mem_of_getElem? (i := 1002) (by decide +kernel)⟩
theorem lw_p18 : lw_okq (⟨"VeneerDeskModel", "widthOf", "(II)I"⟩, 67) := ⟨⟨by decide +kernel, by decide +kernel⟩, List.mem_of_getElem? (i := 770) (by decide +kernel), List.mem_of_getElem? (i := 1013) (by decide +kernel), List.mem_of_getElem? (i := 1014) (by decide +kernel)⟩
theorem lw_p19 : lw_okq (⟨"VeneerDeskModel", "toneOf", "(II)I"⟩, 67) := ⟨⟨by decide +kernel, by decide +kernel⟩, List.mem_of_getElem? (i := 770) (by decide +kernel), List.mem_of_getElem? (i := 1017) (by decide +kernel), List.mem_of_getElem? (i := 1018) (by decide +kernel)⟩
theorem lw_p20 : lw_okq (⟨"VeneerDeskModel", "isFlawed", "(IIIIII)Z"⟩, 67) := ⟨⟨by decide +kernel, by decide +kernel⟩, List.mem_of_getElem? (i := 770) (by decide +kernel), List.mem_of_getElem? (i := 1021) (by decide +kernel), List.mem_of_getElem? (i := 1022) (by decide +kernel)⟩
theorem lw_p21 : lw_okq (⟨"VeneerDeskModel", "isWithin", "(IIJJII)Z"⟩, 67) := ⟨⟨by decide +kernel, by decide +kernel⟩, List.mem_of_getElem? (i := 770) (by decide +kernel), List.mem_of_getElem? (i := 1032) (by decide +kernel), List.mem_of_getElem? (i := 1033) (by decide +kernel)⟩
theorem lw_p22 : lw_okq (⟨"VeneerDeskModel", "flawIn", "(IIIIII)I"⟩, 67) := ⟨⟨by decide +kernel, by decide +kernel⟩, List.mem_of_getElem? (i := 770) (by decide +kernel), List.mem_of_getElem? (i := 1036) (by decide +kernel), List.mem_of_getElem? (i := 1037) (by decide +kernel)⟩
theorem lw_p23 : lw_okq (⟨"VeneerDeskModel", "draws", "()V"⟩, 67) := ⟨⟨by decide +kernel, by decide +kernel⟩, List.mem_of_getElem? (i := 770) (by decide +kernel), List.mem_of_getElem? (i := 1052) (by decide +kernel), List.mem_of_getElem? (i := 1053) (by decide +kernel)⟩
theorem lw_p24 : lw_okq (⟨"VeneerDeskModel", "begins", "()V"⟩, 67) := ⟨⟨by decide +kernel, by decide +kernel⟩, List.mem_of_getElem? (i := 770) (by decide +kernel), List.mem_of_getElem? (i := 1056) (by decide +kernel), List.mem_of_getElem? (i := 1057) (by decide +kernel)⟩
theorem lw_p25 : lw_okq (⟨"VeneerDeskModel", "parts", "()Z"⟩, 67) := ⟨⟨by decide +kernel, by decide +kernel⟩, List.mem_of_getElem? (i := 770) (by decide +kernel), List.mem_of_getElem? (i := 1060) (by decide +kernel), List.mem_of_getElem? (i := 1061) (by decide +kernel)⟩
theorem lw_p26 : lw_okq (⟨"VeneerDeskModel", "next", "()I"⟩, 67) := ⟨⟨by decide +kernel, by decide +kernel⟩, List.mem_of_getElem? (i := 770) (by decide +kernel), List.mem_of_getElem? (i := 1064) (by decide +kernel), List.mem_of_getElem? (i := 1065) (by decide +kernel)⟩
theorem lw_p27 : lw_okq (⟨"VeneerDeskModel", "opens", "(IIII)V"⟩, 67) := ⟨⟨by decide +kernel, by decide +kernel⟩, List.mem_of_getElem? (i := 770) (by decide +kernel), List.mem_of_getElem? (i := 1068) (by decide +kernel), List.mem_of_getElem? (i := 1069) (by decide +kernel)⟩
theorem lw_p28 : lw_okq (⟨"VeneerDeskModel", "fail", "(II)V"⟩, 67) := ⟨⟨by decide +kernel, by decide +kernel⟩, List.mem_of_getElem? (i := 770) (by decide +kernel), List.mem_of_getElem? (i := 1072) (by decide +kernel), List.mem_of_getElem? (i := 1073) (by decide +kernel)⟩
theorem lw_p29 : lw_okq (⟨"VeneerDeskModel", "comes", "()V"⟩, 67) := ⟨⟨by decide +kernel, by decide +kernel⟩, List.mem_of_getElem? (i := 770) (by decide +kernel), List.mem_of_getElem? (i := 1076) (by decide +kernel), List.mem_of_getElem? (i := 1077) (by decide +kernel)⟩
theorem lw_p30 : lw_okq (⟨"VeneerDeskModel", "repeats", "(II)V"⟩, 67) := ⟨⟨by decide +kernel, by decide +kernel⟩, List.mem_of_getElem? (i := 770) (by decide +kernel), List.mem_of_getElem? (i := 1080) (by decide +kernel), List.mem_of_getElem? (i := 1081) (by decide +kernel)⟩
theorem lw_p31 : lw_okq (⟨"VeneerDeskModel", "turns", "(ZZ)V"⟩, 67) := ⟨⟨by decide +kernel, by decide +kernel⟩, List.mem_of_getElem? (i := 770) (by decide +kernel), List.mem_of_getElem? (i := 1084) (by decide +kernel), List.mem_of_getElem? (i := 1085) (by decide +kernel)⟩
def lw_privs_2 : List (MethodName × Nat) := [(⟨"VeneerDeskModel", "isLog", "(I)Z"⟩, 67), (⟨"VeneerDeskModel", "isLeaf", "(II)Z"⟩, 67), (⟨"VeneerDeskModel", "widthOf", "(II)I"⟩, 67), (⟨"VeneerDeskModel", "toneOf", "(II)I"⟩, 67), (⟨"VeneerDeskModel", "isFlawed", "(IIIIII)Z"⟩, 67), (⟨"VeneerDeskModel", "isWithin", "(IIJJII)Z"⟩, 67), (⟨"VeneerDeskModel", "flawIn", "(IIIIII)I"⟩, 67), (⟨"VeneerDeskModel", "draws", "()V"⟩, 67), (⟨"VeneerDeskModel", "begins", "()V"⟩, 67), (⟨"VeneerDeskModel", "parts", "()Z"⟩, 67), (⟨"VeneerDeskModel", "next", "()I"⟩, 67), (⟨"VeneerDeskModel", "opens", "(IIII)V"⟩, 67), (⟨"VeneerDeskModel", "fail", "(II)V"⟩, 67), (⟨"VeneerDeskModel", "comes", "()V"⟩, 67), (⟨"VeneerDeskModel", "repeats", "(II)V"⟩, 67), (⟨"VeneerDeskModel", "turns", "(ZZ)V"⟩, 67)]
theorem lw_r2 : ∀ q ∈ lw_privs_2, lw_okq q := List.forall_mem_cons.mpr ⟨lw_p16, List.forall_mem_cons.mpr ⟨lw_p17, List.forall_mem_cons.mpr ⟨lw_p18, List.forall_mem_cons.mpr ⟨lw_p19, List.forall_mem_cons.mpr ⟨lw_p20, List.forall_mem_cons.mpr ⟨lw_p21, List.forall_mem_cons.mpr ⟨lw_p22, List.forall_mem_cons.mpr ⟨lw_p23, List.forall_mem_cons.mpr ⟨lw_p24, List.forall_mem_cons.mpr ⟨lw_p25, List.forall_mem_cons.mpr ⟨lw_p26, List.forall_mem_cons.mpr ⟨lw_p27, List.forall_mem_cons.mpr ⟨lw_p28, List.forall_mem_cons.mpr ⟨lw_p29, List.forall_mem_cons.mpr ⟨lw_p30, List.forall_mem_cons.mpr ⟨lw_p31, fun _ h => absurd h List.not_mem_nil⟩⟩⟩⟩⟩⟩⟩⟩⟩⟩⟩⟩⟩⟩⟩⟩
theorem lw_p32 : lw_okq (⟨"VeneerDeskModel", "ends", "()V"⟩, 67) := ⟨⟨by decide +kernel, by decide +kernel⟩, List.mem_of_getElem? (i := 770) (by decide +kernel), List.mem_of_getElem? (i := 1088) (by decide +kernel), List.mem_of_getElem? (i := 1089) (by decide +kernel)⟩
theorem lw_p33 : lw_okq (⟨"VeneerDeskModel", "rowIsPart", "()V"⟩, 67) := ⟨⟨by decide +kernel, by decide +kernel⟩, List.mem_of_getElem? (i := 770) (by decide +kernel), List.mem_of_getElem? (i := 1092) (by decide +kernel), List.mem_of_getElem? (i := 1093) (by decide +kernel)⟩
theorem lw_p34 : lw_okq (⟨"VeneerDeskModel", "isDoor", "(I)Z"⟩, 67) := ⟨⟨by decide +kernel, by decide +kernel⟩, List.mem_of_getElem? (i := 770) (by decide +kernel), List.mem_of_getElem? (i := 1104) (by decide +kernel), List.mem_of_getElem? (i := 1105) (by decide +kernel)⟩
theorem lw_p35 : lw_okq (⟨"VeneerDeskModel", "pieceOf", "(III)I"⟩, 67) := ⟨⟨by decide +kernel, by decide +kernel⟩, List.mem_of_getElem? (i := 770) (by decide +kernel), List.mem_of_getElem? (i := 1108) (by decide +kernel), List.mem_of_getElem? (i := 1109) (by decide +kernel)⟩
theorem lw_p36 : lw_okq (⟨"VeneerDeskModel", "greatest", "(I)I"⟩, 67) := ⟨⟨by decide +kernel, by decide +kernel⟩, List.mem_of_getElem? (i := 770) (by decide +kernel), List.mem_of_getElem? (i := 1119) (by decide +kernel), List.mem_of_getElem? (i := 1120) (by decide +kernel)⟩
theorem lw_p37 : lw_okq (⟨"VeneerDeskModel", "joints", "(II)I"⟩, 67) := ⟨⟨by decide +kernel, by decide +kernel⟩, List.mem_of_getElem? (i := 770) (by decide +kernel), List.mem_of_getElem? (i := 1123) (by decide +kernel), List.mem_of_getElem? (i := 1124) (by decide +kernel)⟩
theorem lw_p38 : lw_okq (⟨"VeneerDeskModel", "isCut", "(IIIIII)Z"⟩, 67) := ⟨⟨by decide +kernel, by decide +kernel⟩, List.mem_of_getElem? (i := 770) (by decide +kernel), List.mem_of_getElem? (i := 1140) (by decide +kernel), List.mem_of_getElem? (i := 1141) (by decide +kernel)⟩
theorem lw_p39 : lw_okq (⟨"VeneerDeskModel", "hasTones", "(III)Z"⟩, 67) := ⟨⟨by decide +kernel, by decide +kernel⟩, List.mem_of_getElem? (i := 770) (by decide +kernel), List.mem_of_getElem? (i := 1144) (by decide +kernel), List.mem_of_getElem? (i := 1145) (by decide +kernel)⟩
theorem lw_p40 : lw_okq (⟨"VeneerDeskModel", "places", "(II)Z"⟩, 67) := ⟨⟨by decide +kernel, by decide +kernel⟩, List.mem_of_getElem? (i := 770) (by decide +kernel), List.mem_of_getElem? (i := 1152) (by decide +kernel), List.mem_of_getElem? (i := 1153) (by decide +kernel)⟩
theorem lw_p41 : lw_okq (⟨"VeneerDeskModel", "counts", "(I)V"⟩, 67) := ⟨⟨by decide +kernel, by decide +kernel⟩, List.mem_of_getElem? (i := 770) (by decide +kernel), List.mem_of_getElem? (i := 1156) (by decide +kernel), List.mem_of_getElem? (i := 1157) (by decide +kernel)⟩
theorem lw_p42 : lw_okq (⟨"VeneerDeskModel", "hasLeaves", "(III)Z"⟩, 67) := ⟨⟨by decide +kernel, by decide +kernel⟩, List.mem_of_getElem? (i := 770) (by decide +kernel), List.mem_of_getElem? (i := 1160) (by decide +kernel), List.mem_of_getElem? (i := 1161) (by decide +kernel)⟩
theorem lw_p43 : lw_okq (⟨"VeneerDeskModel", "fits", "(IIIII)Z"⟩, 67) := ⟨⟨by decide +kernel, by decide +kernel⟩, List.mem_of_getElem? (i := 770) (by decide +kernel), List.mem_of_getElem? (i := 1164) (by decide +kernel), List.mem_of_getElem? (i := 1165) (by decide +kernel)⟩
theorem lw_p44 : lw_okq (⟨"VeneerDeskModel", "cuts", "(II)V"⟩, 67) := ⟨⟨by decide +kernel, by decide +kernel⟩, List.mem_of_getElem? (i := 770) (by decide +kernel), List.mem_of_getElem? (i := 1172) (by decide +kernel), List.mem_of_getElem? (i := 1173) (by decide +kernel)⟩
theorem lw_p45 : lw_okq (⟨"VeneerDeskModel", "logsOf", "(I)I"⟩, 67) := ⟨⟨by decide +kernel, by decide +kernel⟩, List.mem_of_getElem? (i := 770) (by decide +kernel), List.mem_of_getElem? (i := 1180) (by decide +kernel), List.mem_of_getElem? (i := 1181) (by decide +kernel)⟩
theorem lw_p46 : lw_okq (⟨"VeneerDeskModel", "isPlaced", "(I)Z"⟩, 67) := ⟨⟨by decide +kernel, by decide +kernel⟩, List.mem_of_getElem? (i := 770) (by decide +kernel), List.mem_of_getElem? (i := 1184) (by decide +kernel), List.mem_of_getElem? (i := 1185) (by decide +kernel)⟩
def lw_privs_3 : List (MethodName × Nat) := [(⟨"VeneerDeskModel", "ends", "()V"⟩, 67), (⟨"VeneerDeskModel", "rowIsPart", "()V"⟩, 67), (⟨"VeneerDeskModel", "isDoor", "(I)Z"⟩, 67), (⟨"VeneerDeskModel", "pieceOf", "(III)I"⟩, 67), (⟨"VeneerDeskModel", "greatest", "(I)I"⟩, 67), (⟨"VeneerDeskModel", "joints", "(II)I"⟩, 67), (⟨"VeneerDeskModel", "isCut", "(IIIIII)Z"⟩, 67), (⟨"VeneerDeskModel", "hasTones", "(III)Z"⟩, 67), (⟨"VeneerDeskModel", "places", "(II)Z"⟩, 67), (⟨"VeneerDeskModel", "counts", "(I)V"⟩, 67), (⟨"VeneerDeskModel", "hasLeaves", "(III)Z"⟩, 67), (⟨"VeneerDeskModel", "fits", "(IIIII)Z"⟩, 67), (⟨"VeneerDeskModel", "cuts", "(II)V"⟩, 67), (⟨"VeneerDeskModel", "logsOf", "(I)I"⟩, 67), (⟨"VeneerDeskModel", "isPlaced", "(I)Z"⟩, 67)]
theorem lw_r3 : ∀ q ∈ lw_privs_3, lw_okq q := List.forall_mem_cons.mpr ⟨lw_p32, List.forall_mem_cons.mpr ⟨lw_p33, List.forall_mem_cons.mpr ⟨lw_p34, List.forall_mem_cons.mpr ⟨lw_p35, List.forall_mem_cons.mpr ⟨lw_p36, List.forall_mem_cons.mpr ⟨lw_p37, List.forall_mem_cons.mpr ⟨lw_p38, List.forall_mem_cons.mpr ⟨lw_p39, List.forall_mem_cons.mpr ⟨lw_p40, List.forall_mem_cons.mpr ⟨lw_p41, List.forall_mem_cons.mpr ⟨lw_p42, List.forall_mem_cons.mpr ⟨lw_p43, List.forall_mem_cons.mpr ⟨lw_p44, List.forall_mem_cons.mpr ⟨lw_p45, List.forall_mem_cons.mpr ⟨lw_p46, fun _ h => absurd h List.not_mem_nil⟩⟩⟩⟩⟩⟩⟩⟩⟩⟩⟩⟩⟩⟩⟩
def lw_privs : List (MethodName × Nat) := lw_privs_1 ++ (lw_privs_2 ++ (lw_privs_3))
def lw_tbl : List Cond := k2_sels lw_privs ++ tables_1
theorem lw_privs_ok : ∀ q ∈ lw_privs, lw_okq q := by
  show ∀ q ∈ lw_privs_1 ++ (lw_privs_2 ++ (lw_privs_3)), lw_okq q
  exact List.forall_mem_append.mpr ⟨lw_r1, List.forall_mem_append.mpr ⟨lw_r2, lw_r3⟩⟩
def RX0 : String := "VeneerDesk$Door"
def TX0 : u_T := fun k => match k with
  | 0 => ("VeneerDesk$Door", "drawing", "LVeneerDesk$Drawing;", true)
  | 1 => ("VeneerDesk$Door", "stacked", "[I", true)
  | 2 => ("VeneerDesk$Door", "there", "Z", false)
  | 3 => ("VeneerDesk$Door", "wide", "I", false)
  | 4 => ("VeneerDesk$Door", "high", "I", false)
  | 5 => ("VeneerDesk$Door", "tones", "I", false)
  | 6 => ("VeneerDesk$Door", "leastOffset", "I", false)
  | 7 => ("VeneerDesk$Door", "greatestOffset", "I", false)
  | 8 => ("VeneerDesk$Door", "madeOf", "I", false)
  | 9 => ("VeneerDesk$Door", "leaf", "I", false)
  | 10 => ("VeneerDesk$Door", "height", "I", false)
  | _ => ("VeneerDesk$Door", "x", "I", false)
def tyX0 : Nat → FieldType := fun k => match k with
  | 0 => .object "VeneerDesk$Drawing"
  | 1 => .array .int
  | 2 => .boolean
  | 3 => .int
  | 4 => .int
  | 5 => .int
  | 6 => .int
  | 7 => .int
  | 8 => .int
  | 9 => .int
  | 10 => .int
  | _ => .int
abbrev wsX00 : List Cond := u_ws RX0 TX0 12
theorem nmX0 : ∀ a, a < 12 → ∀ b, b < 12 → a ≠ b → (TX0 a).2.1 ≠ (TX0 b).2.1 := by decide +kernel
theorem tyX0_ok : ∀ k, k < 12 → parseFieldDescriptor (TX0 k).2.2.1 = some (tyX0 k) := by decide +kernel
abbrev cX0_init : ByteArray := prog_2_method_1_code
def yX0_init : MethodName := ⟨RX0, "<init>", "()V"⟩
abbrev cX0_begin : ByteArray := prog_2_method_2_code
def yX0_begin : MethodName := ⟨RX0, "begin", "(LVeneerDesk$Drawing;III)V"⟩
abbrev cX0_countOffsets : ByteArray := prog_2_method_3_code
def yX0_countOffsets : MethodName := ⟨RX0, "countOffsets", "()V"⟩
abbrev cX0_stackHigh : ByteArray := prog_2_method_4_code
def yX0_stackHigh : MethodName := ⟨RX0, "stackHigh", "(I)I"⟩
abbrev cX0_isMade : ByteArray := prog_2_method_5_code
def yX0_isMade : MethodName := ⟨RX0, "isMade", "()Z"⟩
abbrev cX0_madeAt : ByteArray := prog_2_method_6_code
def yX0_madeAt : MethodName := ⟨RX0, "madeAt", "(ILVeneerDesk$Finder;)V"⟩
abbrev cX0_notMade : ByteArray := prog_2_method_7_code
def yX0_notMade : MethodName := ⟨RX0, "notMade", "()V"⟩
def RX1 : String := "VeneerDesk$Drawing"
def TX1 : u_T := fun k => match k with
  | 0 => ("VeneerDesk$Drawing", "cells", "[I", true)
  | 1 => ("VeneerDesk$Drawing", "wide", "I", false)
  | _ => ("VeneerDesk$Drawing", "high", "I", false)
def tyX1 : Nat → FieldType := fun k => match k with
  | 0 => .array .int
  | 1 => .int
  | _ => .int
abbrev wsX10 : List Cond := u_ws RX1 TX1 3
theorem nmX1 : ∀ a, a < 3 → ∀ b, b < 3 → a ≠ b → (TX1 a).2.1 ≠ (TX1 b).2.1 := by decide +kernel
theorem tyX1_ok : ∀ k, k < 3 → parseFieldDescriptor (TX1 k).2.2.1 = some (tyX1 k) := by decide +kernel
abbrev cX1_init : ByteArray := prog_3_method_1_code
def yX1_init : MethodName := ⟨RX1, "<init>", "()V"⟩
abbrev cX1_count : ByteArray := prog_3_method_2_code
def yX1_count : MethodName := ⟨RX1, "count", "()I"⟩
abbrev cX1_has : ByteArray := prog_3_method_3_code
def yX1_has : MethodName := ⟨RX1, "has", "(II)Z"⟩
abbrev cX1_cellAt : ByteArray := prog_3_method_4_code
def yX1_cellAt : MethodName := ⟨RX1, "cellAt", "(II)I"⟩
abbrev cX1_setCell : ByteArray := prog_3_method_5_code
def yX1_setCell : MethodName := ⟨RX1, "setCell", "(III)V"⟩
abbrev cX1_offsetAt : ByteArray := prog_3_method_6_code
def yX1_offsetAt : MethodName := ⟨RX1, "offsetAt", "(II)I"⟩
abbrev cX1_copyFrom : ByteArray := prog_3_method_7_code
def yX1_copyFrom : MethodName := ⟨RX1, "copyFrom", "(LVeneerDesk$Drawing;)V"⟩
abbrev cX1_changeSides : ByteArray := prog_3_method_8_code
def yX1_changeSides : MethodName := ⟨RX1, "changeSides", "(IIII)V"⟩
abbrev cX1_changeEnds : ByteArray := prog_3_method_9_code
def yX1_changeEnds : MethodName := ⟨RX1, "changeEnds", "(IIII)V"⟩
abbrev cX1_repeat : ByteArray := prog_3_method_10_code
def yX1_repeat : MethodName := ⟨RX1, "repeat", "(IIIII)V"⟩
abbrev cX1_jointAt : ByteArray := prog_3_method_11_code
def yX1_jointAt : MethodName := ⟨RX1, "jointAt", "(IIZ)I"⟩
abbrev cX1_jointBeside : ByteArray := prog_3_method_12_code
def yX1_jointBeside : MethodName := ⟨RX1, "jointBeside", "(II)I"⟩
abbrev cX1_jointBelow : ByteArray := prog_3_method_13_code
def yX1_jointBelow : MethodName := ⟨RX1, "jointBelow", "(II)I"⟩
abbrev cX1_differ : ByteArray := prog_3_method_14_code
def yX1_differ : MethodName := ⟨RX1, "differ", "(III)Z"⟩
abbrev cX1_countJoints : ByteArray := prog_3_method_15_code
def yX1_countJoints : MethodName := ⟨RX1, "countJoints", "(I)I"⟩
abbrev cX1_isLike : ByteArray := prog_3_method_16_code
def yX1_isLike : MethodName := ⟨RX1, "isLike", "(LVeneerDesk$Drawing;ZZ)Z"⟩
def RX2 : String := "VeneerDesk$Finder"
def TX2 : u_T := fun k => match k with
  | 0 => ("VeneerDesk$Finder", "leaf", "I", false)
  | 1 => ("VeneerDesk$Finder", "height", "I", false)
  | 2 => ("VeneerDesk$Finder", "x", "I", false)
  | _ => ("VeneerDesk$Finder", "met", "[I", true)
def tyX2 : Nat → FieldType := fun k => match k with
  | 0 => .int
  | 1 => .int
  | 2 => .int
  | _ => .array .int
abbrev wsX20 : List Cond := u_ws RX2 TX2 4
theorem nmX2 : ∀ a, a < 4 → ∀ b, b < 4 → a ≠ b → (TX2 a).2.1 ≠ (TX2 b).2.1 := by decide +kernel
theorem tyX2_ok : ∀ k, k < 4 → parseFieldDescriptor (TX2 k).2.2.1 = some (tyX2 k) := by decide +kernel
abbrev cX2_init : ByteArray := prog_4_method_1_code
def yX2_init : MethodName := ⟨RX2, "<init>", "()V"⟩
abbrev cX2_reason : ByteArray := prog_4_method_2_code
def yX2_reason : MethodName := ⟨RX2, "reason", "(LVeneerDesk$Door;LVeneerDesk$Log;III)I"⟩
abbrev cX2_reasonOfCut : ByteArray := prog_4_method_3_code
def yX2_reasonOfCut : MethodName := ⟨RX2, "reasonOfCut", "(LVeneerDesk$Door;LVeneerDesk$Log;JJI)I"⟩
abbrev cX2_areTonesApart : ByteArray := prog_4_method_4_code
def yX2_areTonesApart : MethodName := ⟨RX2, "areTonesApart", "(LVeneerDesk$Door;LVeneerDesk$Log;)Z"⟩
abbrev cX2_find : ByteArray := prog_4_method_5_code
def yX2_find : MethodName := ⟨RX2, "find", "(LVeneerDesk$Door;LVeneerDesk$Log;)Z"⟩
abbrev cX2_findFrom : ByteArray := prog_4_method_6_code
def yX2_findFrom : MethodName := ⟨RX2, "findFrom", "(LVeneerDesk$Door;LVeneerDesk$Log;I)Z"⟩
abbrev cX2_takenColumns : ByteArray := prog_4_method_7_code
def yX2_takenColumns : MethodName := ⟨RX2, "takenColumns", "(LVeneerDesk$Door;LVeneerDesk$Log;II)J"⟩
abbrev cX2_firstFree : ByteArray := prog_4_method_8_code
def yX2_firstFree : MethodName := ⟨RX2, "firstFree", "(JII)I"⟩
def RX3 : String := "VeneerDesk$Flaw"
def TX3 : u_T := fun k => match k with
  | 0 => ("VeneerDesk$Flaw", "first", "I", false)
  | 1 => ("VeneerDesk$Flaw", "last", "I", false)
  | 2 => ("VeneerDesk$Flaw", "x", "I", false)
  | 3 => ("VeneerDesk$Flaw", "y", "I", false)
  | 4 => ("VeneerDesk$Flaw", "wide", "I", false)
  | 5 => ("VeneerDesk$Flaw", "high", "I", false)
  | 6 => ("VeneerDesk$Flaw", "dx", "I", false)
  | _ => ("VeneerDesk$Flaw", "dy", "I", false)
def tyX3 : Nat → FieldType := fun k => match k with
  | 0 => .int
  | 1 => .int
  | 2 => .int
  | 3 => .int
  | 4 => .int
  | 5 => .int
  | 6 => .int
  | _ => .int
abbrev wsX30 : List Cond := u_ws RX3 TX3 8
theorem nmX3 : ∀ a, a < 8 → ∀ b, b < 8 → a ≠ b → (TX3 a).2.1 ≠ (TX3 b).2.1 := by decide +kernel
theorem tyX3_ok : ∀ k, k < 8 → parseFieldDescriptor (TX3 k).2.2.1 = some (tyX3 k) := by decide +kernel
abbrev cX3_init : ByteArray := prog_5_method_1_code
def yX3_init : MethodName := ⟨RX3, "<init>", "()V"⟩
abbrev cX3_begin : ByteArray := prog_5_method_2_code
def yX3_begin : MethodName := ⟨RX3, "begin", "(IIIII)V"⟩
abbrev cX3_driftTo : ByteArray := prog_5_method_3_code
def yX3_driftTo : MethodName := ⟨RX3, "driftTo", "(III)V"⟩
abbrev cX3_leftIn : ByteArray := prog_5_method_4_code
def yX3_leftIn : MethodName := ⟨RX3, "leftIn", "(I)I"⟩
abbrev cX3_topIn : ByteArray := prog_5_method_5_code
def yX3_topIn : MethodName := ⟨RX3, "topIn", "(I)I"⟩
abbrev cX3_overlaps : ByteArray := prog_5_method_6_code
def yX3_overlaps : MethodName := ⟨RX3, "overlaps", "(IIIII)Z"⟩
def RX4 : String := "VeneerDesk$Log"
def TX4 : u_T := fun k => match k with
  | 0 => ("VeneerDesk$Log", "there", "Z", false)
  | 1 => ("VeneerDesk$Log", "leaves", "I", false)
  | 2 => ("VeneerDesk$Log", "length", "I", false)
  | 3 => ("VeneerDesk$Log", "tone", "I", false)
  | 4 => ("VeneerDesk$Log", "darkens", "I", false)
  | 5 => ("VeneerDesk$Log", "cutCounts", "[I", true)
  | 6 => ("VeneerDesk$Log", "wide", "I", false)
  | 7 => ("VeneerDesk$Log", "grows", "I", false)
  | 8 => ("VeneerDesk$Log", "flawCount", "I", false)
  | 9 => ("VeneerDesk$Log", "flaws", "[LVeneerDesk$Flaw;", true)
  | 10 => ("VeneerDesk$Log", "flawRows", "[J", true)
  | _ => ("VeneerDesk$Log", "cutRows", "[J", true)
def tyX4 : Nat → FieldType := fun k => match k with
  | 0 => .boolean
  | 1 => .int
  | 2 => .int
  | 3 => .int
  | 4 => .int
  | 5 => .array .int
  | 6 => .int
  | 7 => .int
  | 8 => .int
  | 9 => .array (.object "VeneerDesk$Flaw")
  | 10 => .array .long
  | _ => .array .long
abbrev wsX40 : List Cond := u_ws RX4 TX4 12
theorem nmX4 : ∀ a, a < 12 → ∀ b, b < 12 → a ≠ b → (TX4 a).2.1 ≠ (TX4 b).2.1 := by decide +kernel
theorem tyX4_ok : ∀ k, k < 12 → parseFieldDescriptor (TX4 k).2.2.1 = some (tyX4 k) := by decide +kernel
abbrev cX4_init : ByteArray := prog_6_method_1_code
def yX4_init : MethodName := ⟨RX4, "<init>", "()V"⟩
abbrev cX4_begin : ByteArray := prog_6_method_2_code
def yX4_begin : MethodName := ⟨RX4, "begin", "(IIII)V"⟩
abbrev cX4_hasLeaf : ByteArray := prog_6_method_3_code
def yX4_hasLeaf : MethodName := ⟨RX4, "hasLeaf", "(J)Z"⟩
abbrev cX4_widthOf : ByteArray := prog_6_method_4_code
def yX4_widthOf : MethodName := ⟨RX4, "widthOf", "(I)I"⟩
abbrev cX4_toneOf : ByteArray := prog_6_method_5_code
def yX4_toneOf : MethodName := ⟨RX4, "toneOf", "(I)I"⟩
abbrev cX4_holds : ByteArray := prog_6_method_6_code
def yX4_holds : MethodName := ⟨RX4, "holds", "(IIJII)Z"⟩
abbrev cX4_addFlaw : ByteArray := prog_6_method_7_code
def yX4_addFlaw : MethodName := ⟨RX4, "addFlaw", "(IIIII)I"⟩
abbrev cX4_driftLatest : ByteArray := prog_6_method_8_code
def yX4_driftLatest : MethodName := ⟨RX4, "driftLatest", "(III)Z"⟩
abbrev cX4_markFlaw : ByteArray := prog_6_method_9_code
def yX4_markFlaw : MethodName := ⟨RX4, "markFlaw", "(LVeneerDesk$Flaw;)V"⟩
abbrev cX4_countFlawsIn : ByteArray := prog_6_method_10_code
def yX4_countFlawsIn : MethodName := ⟨RX4, "countFlawsIn", "(I)I"⟩
abbrev cX4_leastFlawIn : ByteArray := prog_6_method_11_code
def yX4_leastFlawIn : MethodName := ⟨RX4, "leastFlawIn", "(IIIII)I"⟩
abbrev cX4_isFlawed : ByteArray := prog_6_method_12_code
def yX4_isFlawed : MethodName := ⟨RX4, "isFlawed", "(IIIII)Z"⟩
abbrev cX4_isCut : ByteArray := prog_6_method_13_code
def yX4_isCut : MethodName := ⟨RX4, "isCut", "(IIIII)Z"⟩
abbrev cX4_meets : ByteArray := prog_6_method_14_code
def yX4_meets : MethodName := ⟨RX4, "meets", "([JIIIJ)Z"⟩
abbrev cX4_takenColumns : ByteArray := prog_6_method_15_code
def yX4_takenColumns : MethodName := ⟨RX4, "takenColumns", "(III)J"⟩
abbrev cX4_changeCuts : ByteArray := prog_6_method_16_code
def yX4_changeCuts : MethodName := ⟨RX4, "changeCuts", "(LVeneerDesk$Door;I)V"⟩
abbrev cX4_addCuts : ByteArray := prog_6_method_17_code
def yX4_addCuts : MethodName := ⟨RX4, "addCuts", "(LVeneerDesk$Door;)V"⟩
abbrev cX4_removeCuts : ByteArray := prog_6_method_18_code
def yX4_removeCuts : MethodName := ⟨RX4, "removeCuts", "(LVeneerDesk$Door;)V"⟩
abbrev cX4_mask : ByteArray := prog_6_method_19_code
def yX4_mask : MethodName := ⟨RX4, "mask", "(II)J"⟩
def RX5 : String := "VeneerDesk$Planner"
def TX5 : u_T := fun k => match k with
  | 0 => ("VeneerDesk$Planner", "yard", "LVeneerDesk$Yard;", true)
  | 1 => ("VeneerDesk$Planner", "told", "[I", true)
  | 2 => ("VeneerDesk$Planner", "waiting", "[I", true)
  | 3 => ("VeneerDesk$Planner", "tried", "[I", true)
  | 4 => ("VeneerDesk$Planner", "best", "[I", true)
  | 5 => ("VeneerDesk$Planner", "count", "I", false)
  | _ => ("VeneerDesk$Planner", "bestLogs", "I", false)
def tyX5 : Nat → FieldType := fun k => match k with
  | 0 => .object "VeneerDesk$Yard"
  | 1 => .array .int
  | 2 => .array .int
  | 3 => .array .int
  | 4 => .array .int
  | 5 => .int
  | _ => .int
abbrev wsX50 : List Cond := u_ws RX5 TX5 7
theorem nmX5 : ∀ a, a < 7 → ∀ b, b < 7 → a ≠ b → (TX5 a).2.1 ≠ (TX5 b).2.1 := by decide +kernel
theorem tyX5_ok : ∀ k, k < 7 → parseFieldDescriptor (TX5 k).2.2.1 = some (tyX5 k) := by decide +kernel
abbrev cX5_init : ByteArray := prog_7_method_1_code
def yX5_init : MethodName := ⟨RX5, "<init>", "()V"⟩
abbrev cX5_tell : ByteArray := prog_7_method_2_code
def yX5_tell : MethodName := ⟨RX5, "tell", "()I"⟩
abbrev cX5_gatherWaiting : ByteArray := prog_7_method_3_code
def yX5_gatherWaiting : MethodName := ⟨RX5, "gatherWaiting", "()Z"⟩
abbrev cX5_tryDoor : ByteArray := prog_7_method_4_code
def yX5_tryDoor : MethodName := ⟨RX5, "tryDoor", "(II)V"⟩
def RX6 : String := "VeneerDesk$Reader"
def TX6 : u_T := fun k => match k with
  | 0 => ("VeneerDesk$Reader", "tape", "LVeneerDesk$Tape;", true)
  | 1 => ("VeneerDesk$Reader", "drawing", "LVeneerDesk$Drawing;", true)
  | 2 => ("VeneerDesk$Reader", "faultKind", "I", false)
  | 3 => ("VeneerDesk$Reader", "faultPlace", "I", false)
  | 4 => ("VeneerDesk$Reader", "at", "I", false)
  | 5 => ("VeneerDesk$Reader", "wide", "I", false)
  | _ => ("VeneerDesk$Reader", "high", "I", false)
def tyX6 : Nat → FieldType := fun k => match k with
  | 0 => .object "VeneerDesk$Tape"
  | 1 => .object "VeneerDesk$Drawing"
  | 2 => .int
  | 3 => .int
  | 4 => .int
  | 5 => .int
  | _ => .int
abbrev wsX60 : List Cond := u_ws RX6 TX6 7
theorem nmX6 : ∀ a, a < 7 → ∀ b, b < 7 → a ≠ b → (TX6 a).2.1 ≠ (TX6 b).2.1 := by decide +kernel
theorem tyX6_ok : ∀ k, k < 7 → parseFieldDescriptor (TX6 k).2.2.1 = some (tyX6 k) := by decide +kernel
abbrev cX6_init : ByteArray := prog_8_method_1_code
def yX6_init : MethodName := ⟨RX6, "<init>", "()V"⟩
abbrev cX6_readTape : ByteArray := prog_8_method_2_code
def yX6_readTape : MethodName := ⟨RX6, "readTape", "()Z"⟩
abbrev cX6_readRow : ByteArray := prog_8_method_3_code
def yX6_readRow : MethodName := ⟨RX6, "readRow", "(III)Z"⟩
abbrev cX6_readColumn : ByteArray := prog_8_method_4_code
def yX6_readColumn : MethodName := ⟨RX6, "readColumn", "(III)Z"⟩
abbrev cX6_readPart : ByteArray := prog_8_method_5_code
def yX6_readPart : MethodName := ⟨RX6, "readPart", "(III)Z"⟩
abbrev cX6_drawPiece : ByteArray := prog_8_method_6_code
def yX6_drawPiece : MethodName := ⟨RX6, "drawPiece", "(III)Z"⟩
abbrev cX6_readBracket : ByteArray := prog_8_method_7_code
def yX6_readBracket : MethodName := ⟨RX6, "readBracket", "(III)Z"⟩
abbrev cX6_readChanged : ByteArray := prog_8_method_8_code
def yX6_readChanged : MethodName := ⟨RX6, "readChanged", "(IIIZ)Z"⟩
abbrev cX6_readRepeated : ByteArray := prog_8_method_9_code
def yX6_readRepeated : MethodName := ⟨RX6, "readRepeated", "(IIII)Z"⟩
abbrev cX6_nextByte : ByteArray := prog_8_method_10_code
def yX6_nextByte : MethodName := ⟨RX6, "nextByte", "()I"⟩
abbrev cX6_isBlank : ByteArray := prog_8_method_11_code
def yX6_isBlank : MethodName := ⟨RX6, "isBlank", "(I)Z"⟩
abbrev cX6_refuse : ByteArray := prog_8_method_12_code
def yX6_refuse : MethodName := ⟨RX6, "refuse", "(II)Z"⟩
def RX7 : String := "VeneerDesk$Tape"
def TX7 : u_T := fun k => match k with
  | 0 => ("VeneerDesk$Tape", "bytes", "[I", true)
  | _ => ("VeneerDesk$Tape", "length", "I", false)
def tyX7 : Nat → FieldType := fun k => match k with
  | 0 => .array .int
  | _ => .int
abbrev wsX70 : List Cond := u_ws RX7 TX7 2
theorem nmX7 : ∀ a, a < 2 → ∀ b, b < 2 → a ≠ b → (TX7 a).2.1 ≠ (TX7 b).2.1 := by decide +kernel
theorem tyX7_ok : ∀ k, k < 2 → parseFieldDescriptor (TX7 k).2.2.1 = some (tyX7 k) := by decide +kernel
abbrev cX7_init : ByteArray := prog_9_method_1_code
def yX7_init : MethodName := ⟨RX7, "<init>", "()V"⟩
abbrev cX7_hasRoom : ByteArray := prog_9_method_2_code
def yX7_hasRoom : MethodName := ⟨RX7, "hasRoom", "()Z"⟩
abbrev cX7_append : ByteArray := prog_9_method_3_code
def yX7_append : MethodName := ⟨RX7, "append", "(I)V"⟩
abbrev cX7_shorten : ByteArray := prog_9_method_4_code
def yX7_shorten : MethodName := ⟨RX7, "shorten", "(I)Z"⟩
abbrev cX7_byteAt : ByteArray := prog_9_method_5_code
def yX7_byteAt : MethodName := ⟨RX7, "byteAt", "(I)I"⟩
def RX8 : String := "VeneerDesk$Yard"
def TX8 : u_T := fun k => match k with
  | 0 => ("VeneerDesk$Yard", "logs", "[LVeneerDesk$Log;", true)
  | 1 => ("VeneerDesk$Yard", "doors", "[LVeneerDesk$Door;", true)
  | _ => ("VeneerDesk$Yard", "finder", "LVeneerDesk$Finder;", true)
def tyX8 : Nat → FieldType := fun k => match k with
  | 0 => .array (.object "VeneerDesk$Log")
  | 1 => .array (.object "VeneerDesk$Door")
  | _ => .object "VeneerDesk$Finder"
abbrev wsX80 : List Cond := u_ws RX8 TX8 3
theorem nmX8 : ∀ a, a < 3 → ∀ b, b < 3 → a ≠ b → (TX8 a).2.1 ≠ (TX8 b).2.1 := by decide +kernel
theorem tyX8_ok : ∀ k, k < 3 → parseFieldDescriptor (TX8 k).2.2.1 = some (tyX8 k) := by decide +kernel
abbrev cX8_init : ByteArray := prog_10_method_1_code
def yX8_init : MethodName := ⟨RX8, "<init>", "()V"⟩
abbrev cX8_logAt : ByteArray := prog_10_method_2_code
def yX8_logAt : MethodName := ⟨RX8, "logAt", "(I)LVeneerDesk$Log;"⟩
abbrev cX8_doorAt : ByteArray := prog_10_method_3_code
def yX8_doorAt : MethodName := ⟨RX8, "doorAt", "(I)LVeneerDesk$Door;"⟩
abbrev cX8_forgetMadeOf : ByteArray := prog_10_method_4_code
def yX8_forgetMadeOf : MethodName := ⟨RX8, "forgetMadeOf", "(I)V"⟩
abbrev cX8_makeIn : ByteArray := prog_10_method_5_code
def yX8_makeIn : MethodName := ⟨RX8, "makeIn", "(LVeneerDesk$Door;I)Z"⟩
abbrev cX8_takeBack : ByteArray := prog_10_method_6_code
def yX8_takeBack : MethodName := ⟨RX8, "takeBack", "(LVeneerDesk$Door;)V"⟩
def RX9 : String := "VeneerDesk"
def TX9 : u_T := fun k => match k with
  | 0 => ("VeneerDesk", "reader", "LVeneerDesk$Reader;", true)
  | 1 => ("VeneerDesk", "tape", "LVeneerDesk$Tape;", true)
  | 2 => ("VeneerDesk", "planner", "LVeneerDesk$Planner;", true)
  | _ => ("VeneerDesk", "yard", "LVeneerDesk$Yard;", true)
def tyX9 : Nat → FieldType := fun k => match k with
  | 0 => .object "VeneerDesk$Reader"
  | 1 => .object "VeneerDesk$Tape"
  | 2 => .object "VeneerDesk$Planner"
  | _ => .object "VeneerDesk$Yard"
abbrev wsX90 : List Cond := u_ws RX9 TX9 4
theorem nmX9 : ∀ a, a < 4 → ∀ b, b < 4 → a ≠ b → (TX9 a).2.1 ≠ (TX9 b).2.1 := by decide +kernel
theorem tyX9_ok : ∀ k, k < 4 → parseFieldDescriptor (TX9 k).2.2.1 = some (tyX9 k) := by decide +kernel
abbrev cX9_init : ByteArray := prog_1_method_1_code
def yX9_init : MethodName := ⟨RX9, "<init>", "()V"⟩
abbrev cX9_feed : ByteArray := prog_1_method_2_code
def yX9_feed : MethodName := ⟨RX9, "feed", "(IIIII)I"⟩
abbrev cX9_end : ByteArray := prog_1_method_3_code
def yX9_end : MethodName := ⟨RX9, "end", "(I)Z"⟩
abbrev cX9_log : ByteArray := prog_1_method_4_code
def yX9_log : MethodName := ⟨RX9, "log", "(IIIII)Z"⟩
abbrev cX9_tone : ByteArray := prog_1_method_5_code
def yX9_tone : MethodName := ⟨RX9, "tone", "(III)Z"⟩
abbrev cX9_flaw : ByteArray := prog_1_method_6_code
def yX9_flaw : MethodName := ⟨RX9, "flaw", "(IIIIII)I"⟩
abbrev cX9_drift : ByteArray := prog_1_method_7_code
def yX9_drift : MethodName := ⟨RX9, "drift", "(IIII)Z"⟩
abbrev cX9_leaf : ByteArray := prog_1_method_8_code
def yX9_leaf : MethodName := ⟨RX9, "leaf", "(III)I"⟩
abbrev cX9_hit : ByteArray := prog_1_method_9_code
def yX9_hit : MethodName := ⟨RX9, "hit", "(IIIIII)I"⟩
abbrev cX9_door : ByteArray := prog_1_method_10_code
def yX9_door : MethodName := ⟨RX9, "door", "(IIII)I"⟩
abbrev cX9_fault : ByteArray := prog_1_method_11_code
def yX9_fault : MethodName := ⟨RX9, "fault", "(I)I"⟩
abbrev cX9_of : ByteArray := prog_1_method_12_code
def yX9_of : MethodName := ⟨RX9, "of", "(II)I"⟩
abbrev cX9_piece : ByteArray := prog_1_method_13_code
def yX9_piece : MethodName := ⟨RX9, "piece", "(III)I"⟩
abbrev cX9_joint : ByteArray := prog_1_method_14_code
def yX9_joint : MethodName := ⟨RX9, "joint", "(IIIZ)I"⟩
abbrev cX9_same : ByteArray := prog_1_method_15_code
def yX9_same : MethodName := ⟨RX9, "same", "(III)I"⟩
abbrev cX9_why : ByteArray := prog_1_method_16_code
def yX9_why : MethodName := ⟨RX9, "why", "(IIIII)I"⟩
abbrev cX9_place : ByteArray := prog_1_method_17_code
def yX9_place : MethodName := ⟨RX9, "place", "(III)I"⟩
abbrev cX9_make : ByteArray := prog_1_method_18_code
def yX9_make : MethodName := ⟨RX9, "make", "(II)I"⟩
abbrev cX9_plan : ByteArray := prog_1_method_19_code
def yX9_plan : MethodName := ⟨RX9, "plan", "()I"⟩
abbrev cX9_planned : ByteArray := prog_1_method_20_code
def yX9_planned : MethodName := ⟨RX9, "planned", "(I)I"⟩
abbrev cX9_free : ByteArray := prog_1_method_21_code
def yX9_free : MethodName := ⟨RX9, "free", "(I)Z"⟩
abbrev cX9_isFrom : ByteArray := prog_1_method_22_code
def yX9_isFrom : MethodName := ⟨RX9, "isFrom", "(III)Z"⟩
def RX10 : String := "VeneerDeskModel"
def TX10 : u_T := fun k => match k with
  | 0 => ("VeneerDeskModel", "leaves", "[I", true)
  | 1 => ("VeneerDeskModel", "length", "[I", true)
  | 2 => ("VeneerDeskModel", "wide", "[I", true)
  | 3 => ("VeneerDeskModel", "grows", "[I", true)
  | 4 => ("VeneerDeskModel", "tone", "[I", true)
  | 5 => ("VeneerDeskModel", "darkens", "[I", true)
  | 6 => ("VeneerDeskModel", "flaws", "[I", true)
  | 7 => ("VeneerDeskModel", "flawFirst", "[I", true)
  | 8 => ("VeneerDeskModel", "flawLast", "[I", true)
  | 9 => ("VeneerDeskModel", "flawX", "[I", true)
  | 10 => ("VeneerDeskModel", "flawY", "[I", true)
  | 11 => ("VeneerDeskModel", "flawDx", "[I", true)
  | 12 => ("VeneerDeskModel", "flawDy", "[I", true)
  | 13 => ("VeneerDeskModel", "flawWide", "[I", true)
  | 14 => ("VeneerDeskModel", "flawHigh", "[I", true)
  | 15 => ("VeneerDeskModel", "strips", "I", false)
  | 16 => ("VeneerDeskModel", "stripLog", "[I", true)
  | 17 => ("VeneerDeskModel", "stripLeaf", "[I", true)
  | 18 => ("VeneerDeskModel", "stripX", "[I", true)
  | 19 => ("VeneerDeskModel", "stripY", "[I", true)
  | 20 => ("VeneerDeskModel", "stripWide", "[I", true)
  | 21 => ("VeneerDeskModel", "stripHigh", "[I", true)
  | 22 => ("VeneerDeskModel", "stripMany", "[I", true)
  | 23 => ("VeneerDeskModel", "stripDoor", "[I", true)
  | 24 => ("VeneerDeskModel", "tape", "[I", true)
  | 25 => ("VeneerDeskModel", "taped", "I", false)
  | 26 => ("VeneerDeskModel", "at", "I", false)
  | 27 => ("VeneerDeskModel", "size", "I", false)
  | 28 => ("VeneerDeskModel", "bad", "I", false)
  | 29 => ("VeneerDeskModel", "badPlace", "I", false)
  | 30 => ("VeneerDeskModel", "fault", "I", false)
  | 31 => ("VeneerDeskModel", "faultPlace", "I", false)
  | 32 => ("VeneerDeskModel", "partWide", "I", false)
  | 33 => ("VeneerDeskModel", "partHigh", "I", false)
  | 34 => ("VeneerDeskModel", "part", "[I", true)
  | 35 => ("VeneerDeskModel", "swap", "[I", true)
  | 36 => ("VeneerDeskModel", "rowWide", "[I", true)
  | 37 => ("VeneerDeskModel", "rowHigh", "[I", true)
  | 38 => ("VeneerDeskModel", "row", "[I", true)
  | 39 => ("VeneerDeskModel", "columnWide", "[I", true)
  | 40 => ("VeneerDeskModel", "columnHigh", "[I", true)
  | 41 => ("VeneerDeskModel", "column", "[I", true)
  | 42 => ("VeneerDeskModel", "rowSign", "[I", true)
  | 43 => ("VeneerDeskModel", "columnSign", "[I", true)
  | 44 => ("VeneerDeskModel", "depth", "I", false)
  | 45 => ("VeneerDeskModel", "open", "I", false)
  | 46 => ("VeneerDeskModel", "openSign", "[I", true)
  | 47 => ("VeneerDeskModel", "openMany", "[I", true)
  | 48 => ("VeneerDeskModel", "openPlace", "[I", true)
  | 49 => ("VeneerDeskModel", "doorWide", "[I", true)
  | 50 => ("VeneerDeskModel", "doorHigh", "[I", true)
  | 51 => ("VeneerDeskModel", "pieces", "[I", true)
  | 52 => ("VeneerDeskModel", "pieceWide", "[I", true)
  | 53 => ("VeneerDeskModel", "pieceHigh", "[I", true)
  | 54 => ("VeneerDeskModel", "tones", "[I", true)
  | 55 => ("VeneerDeskModel", "madeOf", "[I", true)
  | 56 => ("VeneerDeskModel", "madeF", "[I", true)
  | 57 => ("VeneerDeskModel", "madeY", "[I", true)
  | 58 => ("VeneerDeskModel", "madeX", "[I", true)
  | 59 => ("VeneerDeskModel", "many", "[I", true)
  | 60 => ("VeneerDeskModel", "placeF", "I", false)
  | 61 => ("VeneerDeskModel", "placeY", "I", false)
  | 62 => ("VeneerDeskModel", "placeX", "I", false)
  | 63 => ("VeneerDeskModel", "plans", "[I", true)
  | 64 => ("VeneerDeskModel", "wanted", "[I", true)
  | 65 => ("VeneerDeskModel", "chosen", "[I", true)
  | _ => ("VeneerDeskModel", "hasPlan", "Z", false)
def tyX10 : Nat → FieldType := fun k => match k with
  | 0 => .array .int
  | 1 => .array .int
  | 2 => .array .int
  | 3 => .array .int
  | 4 => .array .int
  | 5 => .array .int
  | 6 => .array .int
  | 7 => .array .int
  | 8 => .array .int
  | 9 => .array .int
  | 10 => .array .int
  | 11 => .array .int
  | 12 => .array .int
  | 13 => .array .int
  | 14 => .array .int
  | 15 => .int
  | 16 => .array .int
  | 17 => .array .int
  | 18 => .array .int
  | 19 => .array .int
  | 20 => .array .int
  | 21 => .array .int
  | 22 => .array .int
  | 23 => .array .int
  | 24 => .array .int
  | 25 => .int
  | 26 => .int
  | 27 => .int
  | 28 => .int
  | 29 => .int
  | 30 => .int
  | 31 => .int
  | 32 => .int
  | 33 => .int
  | 34 => .array .int
  | 35 => .array .int
  | 36 => .array .int
  | 37 => .array .int
  | 38 => .array .int
  | 39 => .array .int
  | 40 => .array .int
  | 41 => .array .int
  | 42 => .array .int
  | 43 => .array .int
  | 44 => .int
  | 45 => .int
  | 46 => .array .int
  | 47 => .array .int
  | 48 => .array .int
  | 49 => .array .int
  | 50 => .array .int
  | 51 => .array .int
  | 52 => .array .int
  | 53 => .array .int
  | 54 => .array .int
  | 55 => .array .int
  | 56 => .array .int
  | 57 => .array .int
  | 58 => .array .int
  | 59 => .array .int
  | 60 => .int
  | 61 => .int
  | 62 => .int
  | 63 => .array .int
  | 64 => .array .int
  | 65 => .array .int
  | _ => .boolean
abbrev wsX100 : List Cond := u_ws RX10 TX10 67
theorem nmX10 : ∀ a, a < 67 → ∀ b, b < 67 → a ≠ b → (TX10 a).2.1 ≠ (TX10 b).2.1 := by decide +kernel
theorem tyX10_ok : ∀ k, k < 67 → parseFieldDescriptor (TX10 k).2.2.1 = some (tyX10 k) := by decide +kernel
abbrev cX10_init : ByteArray := prog_12_method_1_code
def yX10_init : MethodName := ⟨RX10, "<init>", "()V"⟩
abbrev cX10_isIn : ByteArray := prog_12_method_2_code
def yX10_isIn : MethodName := ⟨RX10, "isIn", "(III)Z"⟩
abbrev cX10_isLog : ByteArray := prog_12_method_3_code
def yX10_isLog : MethodName := ⟨RX10, "isLog", "(I)Z"⟩
abbrev cX10_isLeaf : ByteArray := prog_12_method_4_code
def yX10_isLeaf : MethodName := ⟨RX10, "isLeaf", "(II)Z"⟩
abbrev cX10_widthOf : ByteArray := prog_12_method_5_code
def yX10_widthOf : MethodName := ⟨RX10, "widthOf", "(II)I"⟩
abbrev cX10_toneOf : ByteArray := prog_12_method_6_code
def yX10_toneOf : MethodName := ⟨RX10, "toneOf", "(II)I"⟩
abbrev cX10_goes : ByteArray := prog_12_method_7_code
def yX10_goes : MethodName := ⟨RX10, "goes", "(II)V"⟩
abbrev cX10_log : ByteArray := prog_12_method_8_code
def yX10_log : MethodName := ⟨RX10, "log", "(IIIII)Z"⟩
abbrev cX10_tone : ByteArray := prog_12_method_9_code
def yX10_tone : MethodName := ⟨RX10, "tone", "(III)Z"⟩
abbrev cX10_flaw : ByteArray := prog_12_method_10_code
def yX10_flaw : MethodName := ⟨RX10, "flaw", "(IIIIII)I"⟩
abbrev cX10_drift : ByteArray := prog_12_method_11_code
def yX10_drift : MethodName := ⟨RX10, "drift", "(IIII)Z"⟩
abbrev cX10_laps : ByteArray := prog_12_method_12_code
def yX10_laps : MethodName := ⟨RX10, "laps", "(IIIIIIII)Z"⟩
abbrev cX10_isFlawed : ByteArray := prog_12_method_13_code
def yX10_isFlawed : MethodName := ⟨RX10, "isFlawed", "(IIIIII)Z"⟩
abbrev cX10_leaf : ByteArray := prog_12_method_14_code
def yX10_leaf : MethodName := ⟨RX10, "leaf", "(III)I"⟩
abbrev cX10_flawIn : ByteArray := prog_12_method_15_code
def yX10_flawIn : MethodName := ⟨RX10, "flawIn", "(IIIIII)I"⟩
abbrev cX10_isCut : ByteArray := prog_12_method_16_code
def yX10_isCut : MethodName := ⟨RX10, "isCut", "(IIIIII)Z"⟩
abbrev cX10_isWithin : ByteArray := prog_12_method_17_code
def yX10_isWithin : MethodName := ⟨RX10, "isWithin", "(IIJJII)Z"⟩
abbrev cX10_hit : ByteArray := prog_12_method_18_code
def yX10_hit : MethodName := ⟨RX10, "hit", "(IIIIII)I"⟩
abbrev cX10_feed : ByteArray := prog_12_method_19_code
def yX10_feed : MethodName := ⟨RX10, "feed", "(IIIII)I"⟩
abbrev cX10_end : ByteArray := prog_12_method_20_code
def yX10_end : MethodName := ⟨RX10, "end", "(I)Z"⟩
abbrev cX10_fail : ByteArray := prog_12_method_21_code
def yX10_fail : MethodName := ⟨RX10, "fail", "(II)V"⟩
abbrev cX10_next : ByteArray := prog_12_method_22_code
def yX10_next : MethodName := ⟨RX10, "next", "()I"⟩
abbrev cX10_begins : ByteArray := prog_12_method_23_code
def yX10_begins : MethodName := ⟨RX10, "begins", "()V"⟩
abbrev cX10_opens : ByteArray := prog_12_method_24_code
def yX10_opens : MethodName := ⟨RX10, "opens", "(IIII)V"⟩
abbrev cX10_turns : ByteArray := prog_12_method_25_code
def yX10_turns : MethodName := ⟨RX10, "turns", "(ZZ)V"⟩
abbrev cX10_repeats : ByteArray := prog_12_method_26_code
def yX10_repeats : MethodName := ⟨RX10, "repeats", "(II)V"⟩
abbrev cX10_comes : ByteArray := prog_12_method_27_code
def yX10_comes : MethodName := ⟨RX10, "comes", "()V"⟩
abbrev cX10_ends : ByteArray := prog_12_method_28_code
def yX10_ends : MethodName := ⟨RX10, "ends", "()V"⟩
abbrev cX10_rowIsPart : ByteArray := prog_12_method_29_code
def yX10_rowIsPart : MethodName := ⟨RX10, "rowIsPart", "()V"⟩
abbrev cX10_parts : ByteArray := prog_12_method_30_code
def yX10_parts : MethodName := ⟨RX10, "parts", "()Z"⟩
abbrev cX10_draws : ByteArray := prog_12_method_31_code
def yX10_draws : MethodName := ⟨RX10, "draws", "()V"⟩
abbrev cX10_isDoor : ByteArray := prog_12_method_32_code
def yX10_isDoor : MethodName := ⟨RX10, "isDoor", "(I)Z"⟩
abbrev cX10_door : ByteArray := prog_12_method_33_code
def yX10_door : MethodName := ⟨RX10, "door", "(IIII)I"⟩
abbrev cX10_fault : ByteArray := prog_12_method_34_code
def yX10_fault : MethodName := ⟨RX10, "fault", "(I)I"⟩
abbrev cX10_pieceOf : ByteArray := prog_12_method_35_code
def yX10_pieceOf : MethodName := ⟨RX10, "pieceOf", "(III)I"⟩
abbrev cX10_jointOf : ByteArray := prog_12_method_36_code
def yX10_jointOf : MethodName := ⟨RX10, "jointOf", "(IIZ)I"⟩
abbrev cX10_joint : ByteArray := prog_12_method_37_code
def yX10_joint : MethodName := ⟨RX10, "joint", "(IIIZ)I"⟩
abbrev cX10_joints : ByteArray := prog_12_method_38_code
def yX10_joints : MethodName := ⟨RX10, "joints", "(II)I"⟩
abbrev cX10_greatest : ByteArray := prog_12_method_39_code
def yX10_greatest : MethodName := ⟨RX10, "greatest", "(I)I"⟩
abbrev cX10_of : ByteArray := prog_12_method_40_code
def yX10_of : MethodName := ⟨RX10, "of", "(II)I"⟩
abbrev cX10_piece : ByteArray := prog_12_method_41_code
def yX10_piece : MethodName := ⟨RX10, "piece", "(III)I"⟩
abbrev cX10_same : ByteArray := prog_12_method_42_code
def yX10_same : MethodName := ⟨RX10, "same", "(III)I"⟩
abbrev cX10_counts : ByteArray := prog_12_method_43_code
def yX10_counts : MethodName := ⟨RX10, "counts", "(I)V"⟩
abbrev cX10_hasTones : ByteArray := prog_12_method_44_code
def yX10_hasTones : MethodName := ⟨RX10, "hasTones", "(III)Z"⟩
abbrev cX10_fits : ByteArray := prog_12_method_45_code
def yX10_fits : MethodName := ⟨RX10, "fits", "(IIIII)Z"⟩
abbrev cX10_why : ByteArray := prog_12_method_46_code
def yX10_why : MethodName := ⟨RX10, "why", "(IIIII)I"⟩
abbrev cX10_hasLeaves : ByteArray := prog_12_method_47_code
def yX10_hasLeaves : MethodName := ⟨RX10, "hasLeaves", "(III)Z"⟩
abbrev cX10_places : ByteArray := prog_12_method_48_code
def yX10_places : MethodName := ⟨RX10, "places", "(II)Z"⟩
abbrev cX10_place : ByteArray := prog_12_method_49_code
def yX10_place : MethodName := ⟨RX10, "place", "(III)I"⟩
abbrev cX10_cuts : ByteArray := prog_12_method_50_code
def yX10_cuts : MethodName := ⟨RX10, "cuts", "(II)V"⟩
abbrev cX10_make : ByteArray := prog_12_method_51_code
def yX10_make : MethodName := ⟨RX10, "make", "(II)I"⟩
abbrev cX10_isPlaced : ByteArray := prog_12_method_52_code
def yX10_isPlaced : MethodName := ⟨RX10, "isPlaced", "(I)Z"⟩
abbrev cX10_logsOf : ByteArray := prog_12_method_53_code
def yX10_logsOf : MethodName := ⟨RX10, "logsOf", "(I)I"⟩
abbrev cX10_plan : ByteArray := prog_12_method_54_code
def yX10_plan : MethodName := ⟨RX10, "plan", "()I"⟩
abbrev cX10_planned : ByteArray := prog_12_method_55_code
def yX10_planned : MethodName := ⟨RX10, "planned", "(I)I"⟩
abbrev cX10_free : ByteArray := prog_12_method_56_code
def yX10_free : MethodName := ⟨RX10, "free", "(I)Z"⟩
def RJ6 : String := "java/lang/Integer"
def TJ6 : u_T := fun k => match k with
  | _ => ("", "", "", false)
def tyJ6 : Nat → FieldType := fun k => match k with
  | _ => .int
abbrev wsJ60 : List Cond := u_ws RJ6 TJ6 0
theorem nmJ6 : ∀ a, a < 0 → ∀ b, b < 0 → a ≠ b → (TJ6 a).2.1 ≠ (TJ6 b).2.1 := by decide +kernel
theorem tyJ6_ok : ∀ k, k < 0 → parseFieldDescriptor (TJ6 k).2.2.1 = some (tyJ6 k) := by decide +kernel
abbrev cJ6_bitCount_0f7a4 : ByteArray := prog_13_method_49_code
def yJ6_bitCount_0f7a4 : MethodName := ⟨RJ6, "bitCount", "(I)I"⟩
def RJ9 : String := "java/lang/Math"
def TJ9 : u_T := fun k => match k with
  | _ => ("", "", "", false)
def tyJ9 : Nat → FieldType := fun k => match k with
  | _ => .int
abbrev wsJ90 : List Cond := u_ws RJ9 TJ9 0
theorem nmJ9 : ∀ a, a < 0 → ∀ b, b < 0 → a ≠ b → (TJ9 a).2.1 ≠ (TJ9 b).2.1 := by decide +kernel
theorem tyJ9_ok : ∀ k, k < 0 → parseFieldDescriptor (TJ9 k).2.2.1 = some (tyJ9 k) := by decide +kernel
abbrev cJ9_abs_0f7a4 : ByteArray := prog_14_method_59_code
def yJ9_abs_0f7a4 : MethodName := ⟨RJ9, "abs", "(I)I"⟩
abbrev cJ9_max_7cf53 : ByteArray := prog_14_method_65_code
def yJ9_max_7cf53 : MethodName := ⟨RJ9, "max", "(II)I"⟩
abbrev cJ9_min_7cf53 : ByteArray := prog_14_method_69_code
def yJ9_min_7cf53 : MethodName := ⟨RJ9, "min", "(II)I"⟩
def RJ10 : String := "java/lang/System"
def TJ10 : u_T := fun k => match k with
  | _ => ("", "", "", false)
def tyJ10 : Nat → FieldType := fun k => match k with
  | _ => .int
abbrev wsJ100 : List Cond := u_ws RJ10 TJ10 0
theorem nmJ10 : ∀ a, a < 0 → ∀ b, b < 0 → a ≠ b → (TJ10 a).2.1 ≠ (TJ10 b).2.1 := by decide +kernel
theorem tyJ10_ok : ∀ k, k < 0 → parseFieldDescriptor (TJ10 k).2.2.1 = some (tyJ10 k) := by decide +kernel
def RJ7 : String := "java/util/Arrays"
def TJ7 : u_T := fun k => match k with
  | _ => ("", "", "", false)
def tyJ7 : Nat → FieldType := fun k => match k with
  | _ => .int
abbrev wsJ70 : List Cond := u_ws RJ7 TJ7 0
theorem nmJ7 : ∀ a, a < 0 → ∀ b, b < 0 → a ≠ b → (TJ7 a).2.1 ≠ (TJ7 b).2.1 := by decide +kernel
theorem tyJ7_ok : ∀ k, k < 0 → parseFieldDescriptor (TJ7 k).2.2.1 = some (tyJ7 k) := by decide +kernel
abbrev cJ7_fill_d0a16 : ByteArray := prog_16_method_101_code
def yJ7_fill_d0a16 : MethodName := ⟨RJ7, "fill", "([JJ)V"⟩
abbrev cJ7_fill_53178 : ByteArray := prog_16_method_103_code
def yJ7_fill_53178 : MethodName := ⟨RJ7, "fill", "([II)V"⟩
def RL : String := "VeneerDeskLaw"
abbrev cL_law : ByteArray := code
def yL_law : MethodName := ⟨RL, "law", "([I)Z"⟩
abbrev vwCl : List vw_C := [(RX0, TX0, 12), (RX1, TX1, 3), (RX2, TX2, 4), (RX3, TX3, 8), (RX4, TX4, 12), (RX5, TX5, 7), (RX6, TX6, 7), (RX7, TX7, 2), (RX8, TX8, 3), (RX9, TX9, 4), (RX10, TX10, 67)]
