section
-- ===== PART A: goes FIRST, ahead of the names: the tables' words, and 'selects' of the private methods out of them =====
/-- a private method of a class that the tables say can be made, by its rows of tables_1 -/
def lw_okq (q : MethodName × Nat) : Prop := (q.1.cls ≠ "java/lang/invoke/MethodHandle" ∧ q.1.cls ≠ "java/lang/invoke/VarHandle") ∧ Cond.instantiable q.1.cls q.2 ∈ tables_1 ∧ Cond.privateMethod q.1 ∈ tables_1 ∧ Cond.instanceMethod q.1 ∈ tables_1
theorem lw_p0 : lw_okq (⟨"NewsDraughts", "layText", "()Z"⟩, 12) := ⟨⟨by decide +kernel, by decide +kernel⟩, List.mem_of_getElem? (i := 20) (by decide +kernel), List.mem_of_getElem? (i := 335) (by decide +kernel), List.mem_of_getElem? (i := 336) (by decide +kernel)⟩
theorem lw_p1 : lw_okq (⟨"NewsDraughts$Parish", "takeGrid", "(II)Z"⟩, 13) := ⟨⟨by decide +kernel, by decide +kernel⟩, List.mem_of_getElem? (i := 58) (by decide +kernel), List.mem_of_getElem? (i := 350) (by decide +kernel), List.mem_of_getElem? (i := 351) (by decide +kernel)⟩
theorem lw_p2 : lw_okq (⟨"NewsDraughts$Reader", "readNumbers", "()I"⟩, 3) := ⟨⟨by decide +kernel, by decide +kernel⟩, List.mem_of_getElem? (i := 42) (by decide +kernel), List.mem_of_getElem? (i := 364) (by decide +kernel), List.mem_of_getElem? (i := 365) (by decide +kernel)⟩
theorem lw_p3 : lw_okq (⟨"NewsDraughts$Reader", "readNumber", "()I"⟩, 3) := ⟨⟨by decide +kernel, by decide +kernel⟩, List.mem_of_getElem? (i := 42) (by decide +kernel), List.mem_of_getElem? (i := 368) (by decide +kernel), List.mem_of_getElem? (i := 369) (by decide +kernel)⟩
theorem lw_p4 : lw_okq (⟨"NewsDraughts$Parish", "takeHouse", "(III)Z"⟩, 13) := ⟨⟨by decide +kernel, by decide +kernel⟩, List.mem_of_getElem? (i := 58) (by decide +kernel), List.mem_of_getElem? (i := 389) (by decide +kernel), List.mem_of_getElem? (i := 390) (by decide +kernel)⟩
theorem lw_p5 : lw_okq (⟨"NewsDraughts$Parish", "takeNews", "(III)Z"⟩, 13) := ⟨⟨by decide +kernel, by decide +kernel⟩, List.mem_of_getElem? (i := 58) (by decide +kernel), List.mem_of_getElem? (i := 406) (by decide +kernel), List.mem_of_getElem? (i := 407) (by decide +kernel)⟩
theorem lw_p6 : lw_okq (⟨"NewsDraughts$Parish", "takeWind", "(I)Z"⟩, 13) := ⟨⟨by decide +kernel, by decide +kernel⟩, List.mem_of_getElem? (i := 58) (by decide +kernel), List.mem_of_getElem? (i := 410) (by decide +kernel), List.mem_of_getElem? (i := 411) (by decide +kernel)⟩
theorem lw_p7 : lw_okq (⟨"NewsDraughts$Pile", "placeOf", "(I)LNewsDraughts$Standing;"⟩, 3) := ⟨⟨by decide +kernel, by decide +kernel⟩, List.mem_of_getElem? (i := 120) (by decide +kernel), List.mem_of_getElem? (i := 578) (by decide +kernel), List.mem_of_getElem? (i := 579) (by decide +kernel)⟩
theorem lw_p8 : lw_okq (⟨"NewsDraughts$Draught", "letsInFromTalkers", "(II)Z"⟩, 12) := ⟨⟨by decide +kernel, by decide +kernel⟩, List.mem_of_getElem? (i := 139) (by decide +kernel), List.mem_of_getElem? (i := 623) (by decide +kernel), List.mem_of_getElem? (i := 624) (by decide +kernel)⟩
theorem lw_p9 : lw_okq (⟨"NewsDraughts$Draught", "letsInFromGossips", "(II)Z"⟩, 12) := ⟨⟨by decide +kernel, by decide +kernel⟩, List.mem_of_getElem? (i := 139) (by decide +kernel), List.mem_of_getElem? (i := 628) (by decide +kernel), List.mem_of_getElem? (i := 629) (by decide +kernel)⟩
theorem lw_p10 : lw_okq (⟨"NewsDraughts$Openings", "found", "(III)V"⟩, 9) := ⟨⟨by decide +kernel, by decide +kernel⟩, List.mem_of_getElem? (i := 198) (by decide +kernel), List.mem_of_getElem? (i := 750) (by decide +kernel), List.mem_of_getElem? (i := 751) (by decide +kernel)⟩
theorem lw_p11 : lw_okq (⟨"NewsDraughts$Openings", "isSo", "(I)Z"⟩, 9) := ⟨⟨by decide +kernel, by decide +kernel⟩, List.mem_of_getElem? (i := 198) (by decide +kernel), List.mem_of_getElem? (i := 761) (by decide +kernel), List.mem_of_getElem? (i := 762) (by decide +kernel)⟩
theorem lw_p12 : lw_okq (⟨"NewsDraughts$Openings", "fittingWidth", "(I)I"⟩, 9) := ⟨⟨by decide +kernel, by decide +kernel⟩, List.mem_of_getElem? (i := 198) (by decide +kernel), List.mem_of_getElem? (i := 770) (by decide +kernel), List.mem_of_getElem? (i := 771) (by decide +kernel)⟩
theorem lw_p13 : lw_okq (⟨"NewsDraughts$Openings", "isFoundWith", "(II)Z"⟩, 9) := ⟨⟨by decide +kernel, by decide +kernel⟩, List.mem_of_getElem? (i := 198) (by decide +kernel), List.mem_of_getElem? (i := 784) (by decide +kernel), List.mem_of_getElem? (i := 785) (by decide +kernel)⟩
theorem lw_p14 : lw_okq (⟨"NewsDraughts$Outlook", "burden", "(II)I"⟩, 3) := ⟨⟨by decide +kernel, by decide +kernel⟩, List.mem_of_getElem? (i := 182) (by decide +kernel), List.mem_of_getElem? (i := 800) (by decide +kernel), List.mem_of_getElem? (i := 801) (by decide +kernel)⟩
theorem lw_p15 : lw_okq (⟨"NewsDraughts$Sightings", "allSoFrom", "(II)Z"⟩, 7) := ⟨⟨by decide +kernel, by decide +kernel⟩, List.mem_of_getElem? (i := 251) (by decide +kernel), List.mem_of_getElem? (i := 857) (by decide +kernel), List.mem_of_getElem? (i := 858) (by decide +kernel)⟩
def lw_privs_1 : List (MethodName × Nat) := [(⟨"NewsDraughts", "layText", "()Z"⟩, 12), (⟨"NewsDraughts$Parish", "takeGrid", "(II)Z"⟩, 13), (⟨"NewsDraughts$Reader", "readNumbers", "()I"⟩, 3), (⟨"NewsDraughts$Reader", "readNumber", "()I"⟩, 3), (⟨"NewsDraughts$Parish", "takeHouse", "(III)Z"⟩, 13), (⟨"NewsDraughts$Parish", "takeNews", "(III)Z"⟩, 13), (⟨"NewsDraughts$Parish", "takeWind", "(I)Z"⟩, 13), (⟨"NewsDraughts$Pile", "placeOf", "(I)LNewsDraughts$Standing;"⟩, 3), (⟨"NewsDraughts$Draught", "letsInFromTalkers", "(II)Z"⟩, 12), (⟨"NewsDraughts$Draught", "letsInFromGossips", "(II)Z"⟩, 12), (⟨"NewsDraughts$Openings", "found", "(III)V"⟩, 9), (⟨"NewsDraughts$Openings", "isSo", "(I)Z"⟩, 9), (⟨"NewsDraughts$Openings", "fittingWidth", "(I)I"⟩, 9), (⟨"NewsDraughts$Openings", "isFoundWith", "(II)Z"⟩, 9), (⟨"NewsDraughts$Outlook", "burden", "(II)I"⟩, 3), (⟨"NewsDraughts$Sightings", "allSoFrom", "(II)Z"⟩, 7)]
theorem lw_r1 : ∀ q ∈ lw_privs_1, lw_okq q := List.forall_mem_cons.mpr ⟨lw_p0, List.forall_mem_cons.mpr ⟨lw_p1, List.forall_mem_cons.mpr ⟨lw_p2, List.forall_mem_cons.mpr ⟨lw_p3, List.forall_mem_cons.mpr ⟨lw_p4, List.forall_mem_cons.mpr ⟨lw_p5, List.forall_mem_cons.mpr ⟨lw_p6, List.forall_mem_cons.mpr ⟨lw_p7, List.forall_mem_cons.mpr ⟨lw_p8, List.forall_mem_cons.mpr ⟨lw_p9, List.forall_mem_cons.mpr ⟨lw_p10, List.forall_mem_cons.mpr ⟨lw_p11, List.forall_mem_cons.mpr ⟨lw_p12, List.forall_mem_cons.mpr ⟨lw_p13, List.forall_mem_cons.mpr ⟨lw_p14, List.forall_mem_cons.mpr ⟨lw_p15, fun _ h => absurd h List.not_mem_nil⟩⟩⟩⟩⟩⟩⟩⟩⟩⟩⟩⟩⟩⟩⟩⟩
theorem lw_p16 : lw_okq (⟨"NewsDraughts$Sightings", "isSo", "(II)Z"⟩, 7) := ⟨⟨by decide +kernel, by decide +kernel⟩, List.mem_of_getElem? (i := 251) (by decide +kernel), List.mem_of_getElem? (i := 865) (by decide +kernel), List.mem_of_getElem? (i := 866) (by decide +kernel)⟩
theorem lw_p17 : lw_okq (⟨"NewsDraughts$Sightings", "allSoBy", "(I)Z"⟩, 7) := ⟨⟨by decide +kernel, by decide +kernel⟩, List.mem_of_getElem? (i := 251) (by decide +kernel), List.mem_of_getElem? (i := 878) (by decide +kernel), List.mem_of_getElem? (i := 879) (by decide +kernel)⟩
theorem lw_p18 : lw_okq (⟨"NewsDraughts$Chances", "openByDraw", "(I)V"⟩, 4) := ⟨⟨by decide +kernel, by decide +kernel⟩, List.mem_of_getElem? (i := 232) (by decide +kernel), List.mem_of_getElem? (i := 919) (by decide +kernel), List.mem_of_getElem? (i := 920) (by decide +kernel)⟩
theorem lw_p19 : lw_okq (⟨"NewsDraughtsModel", "clearTold", "()V"⟩, 32) := ⟨⟨by decide +kernel, by decide +kernel⟩, List.mem_of_getElem? (i := 957) (by decide +kernel), List.mem_of_getElem? (i := 963) (by decide +kernel), List.mem_of_getElem? (i := 964) (by decide +kernel)⟩
theorem lw_p20 : lw_okq (⟨"NewsDraughtsModel", "tellsHouse", "(III)V"⟩, 32) := ⟨⟨by decide +kernel, by decide +kernel⟩, List.mem_of_getElem? (i := 957) (by decide +kernel), List.mem_of_getElem? (i := 967) (by decide +kernel), List.mem_of_getElem? (i := 968) (by decide +kernel)⟩
theorem lw_p21 : lw_okq (⟨"NewsDraughtsModel", "tellsNews", "(III)V"⟩, 32) := ⟨⟨by decide +kernel, by decide +kernel⟩, List.mem_of_getElem? (i := 957) (by decide +kernel), List.mem_of_getElem? (i := 971) (by decide +kernel), List.mem_of_getElem? (i := 972) (by decide +kernel)⟩
theorem lw_p22 : lw_okq (⟨"NewsDraughtsModel", "settles", "()V"⟩, 32) := ⟨⟨by decide +kernel, by decide +kernel⟩, List.mem_of_getElem? (i := 957) (by decide +kernel), List.mem_of_getElem? (i := 975) (by decide +kernel), List.mem_of_getElem? (i := 976) (by decide +kernel)⟩
theorem lw_p23 : lw_okq (⟨"NewsDraughtsModel", "readItem", "()Z"⟩, 32) := ⟨⟨by decide +kernel, by decide +kernel⟩, List.mem_of_getElem? (i := 957) (by decide +kernel), List.mem_of_getElem? (i := 1094) (by decide +kernel), List.mem_of_getElem? (i := 1095) (by decide +kernel)⟩
theorem lw_p24 : lw_okq (⟨"NewsDraughtsModel", "letterAt", "(I)I"⟩, 32) := ⟨⟨by decide +kernel, by decide +kernel⟩, List.mem_of_getElem? (i := 957) (by decide +kernel), List.mem_of_getElem? (i := 1098) (by decide +kernel), List.mem_of_getElem? (i := 1099) (by decide +kernel)⟩
theorem lw_p25 : lw_okq (⟨"NewsDraughtsModel", "readGridOf", "()Z"⟩, 32) := ⟨⟨by decide +kernel, by decide +kernel⟩, List.mem_of_getElem? (i := 957) (by decide +kernel), List.mem_of_getElem? (i := 1102) (by decide +kernel), List.mem_of_getElem? (i := 1103) (by decide +kernel)⟩
theorem lw_p26 : lw_okq (⟨"NewsDraughtsModel", "readNumbers", "(I)Z"⟩, 32) := ⟨⟨by decide +kernel, by decide +kernel⟩, List.mem_of_getElem? (i := 957) (by decide +kernel), List.mem_of_getElem? (i := 1106) (by decide +kernel), List.mem_of_getElem? (i := 1107) (by decide +kernel)⟩
theorem lw_p27 : lw_okq (⟨"NewsDraughtsModel", "isTold", "(III)Z"⟩, 32) := ⟨⟨by decide +kernel, by decide +kernel⟩, List.mem_of_getElem? (i := 957) (by decide +kernel), List.mem_of_getElem? (i := 1113) (by decide +kernel), List.mem_of_getElem? (i := 1114) (by decide +kernel)⟩
theorem lw_p28 : lw_okq (⟨"NewsDraughtsModel", "readHouseOf", "()Z"⟩, 32) := ⟨⟨by decide +kernel, by decide +kernel⟩, List.mem_of_getElem? (i := 957) (by decide +kernel), List.mem_of_getElem? (i := 1117) (by decide +kernel), List.mem_of_getElem? (i := 1118) (by decide +kernel)⟩
theorem lw_p29 : lw_okq (⟨"NewsDraughtsModel", "lastTold", "()I"⟩, 32) := ⟨⟨by decide +kernel, by decide +kernel⟩, List.mem_of_getElem? (i := 957) (by decide +kernel), List.mem_of_getElem? (i := 1121) (by decide +kernel), List.mem_of_getElem? (i := 1122) (by decide +kernel)⟩
theorem lw_p30 : lw_okq (⟨"NewsDraughtsModel", "readNewsOf", "()Z"⟩, 32) := ⟨⟨by decide +kernel, by decide +kernel⟩, List.mem_of_getElem? (i := 957) (by decide +kernel), List.mem_of_getElem? (i := 1125) (by decide +kernel), List.mem_of_getElem? (i := 1126) (by decide +kernel)⟩
theorem lw_p31 : lw_okq (⟨"NewsDraughtsModel", "readWindOf", "()Z"⟩, 32) := ⟨⟨by decide +kernel, by decide +kernel⟩, List.mem_of_getElem? (i := 957) (by decide +kernel), List.mem_of_getElem? (i := 1129) (by decide +kernel), List.mem_of_getElem? (i := 1130) (by decide +kernel)⟩
def lw_privs_2 : List (MethodName × Nat) := [(⟨"NewsDraughts$Sightings", "isSo", "(II)Z"⟩, 7), (⟨"NewsDraughts$Sightings", "allSoBy", "(I)Z"⟩, 7), (⟨"NewsDraughts$Chances", "openByDraw", "(I)V"⟩, 4), (⟨"NewsDraughtsModel", "clearTold", "()V"⟩, 32), (⟨"NewsDraughtsModel", "tellsHouse", "(III)V"⟩, 32), (⟨"NewsDraughtsModel", "tellsNews", "(III)V"⟩, 32), (⟨"NewsDraughtsModel", "settles", "()V"⟩, 32), (⟨"NewsDraughtsModel", "readItem", "()Z"⟩, 32), (⟨"NewsDraughtsModel", "letterAt", "(I)I"⟩, 32), (⟨"NewsDraughtsModel", "readGridOf", "()Z"⟩, 32), (⟨"NewsDraughtsModel", "readNumbers", "(I)Z"⟩, 32), (⟨"NewsDraughtsModel", "isTold", "(III)Z"⟩, 32), (⟨"NewsDraughtsModel", "readHouseOf", "()Z"⟩, 32), (⟨"NewsDraughtsModel", "lastTold", "()I"⟩, 32), (⟨"NewsDraughtsModel", "readNewsOf", "()Z"⟩, 32), (⟨"NewsDraughtsModel", "readWindOf", "()Z"⟩, 32)]
theorem lw_r2 : ∀ q ∈ lw_privs_2, lw_okq q := List.forall_mem_cons.mpr ⟨lw_p16, List.forall_mem_cons.mpr ⟨lw_p17, List.forall_mem_cons.mpr ⟨lw_p18, List.forall_mem_cons.mpr ⟨lw_p19, List.forall_mem_cons.mpr ⟨lw_p20, List.forall_mem_cons.mpr ⟨lw_p21, List.forall_mem_cons.mpr ⟨lw_p22, List.forall_mem_cons.mpr ⟨lw_p23, List.forall_mem_cons.mpr ⟨lw_p24, List.forall_mem_cons.mpr ⟨lw_p25, List.forall_mem_cons.mpr ⟨lw_p26, List.forall_mem_cons.mpr ⟨lw_p27, List.forall_mem_cons.mpr ⟨lw_p28, List.forall_mem_cons.mpr ⟨lw_p29, List.forall_mem_cons.mpr ⟨lw_p30, List.forall_mem_cons.mpr ⟨lw_p31, fun _ h => absurd h List.not_mem_nil⟩⟩⟩⟩⟩⟩⟩⟩⟩⟩⟩⟩⟩⟩⟩⟩
theorem lw_p32 : lw_okq (⟨"NewsDraughtsModel", "isHouse", "(I)Z"⟩, 32) := ⟨⟨by decide +kernel, by decide +kernel⟩, List.mem_of_getElem? (i := 957) (by decide +kernel), List.mem_of_getElem? (i := 1142) (by decide +kernel), List.mem_of_getElem? (i := 1143) (by decide +kernel)⟩
theorem lw_p33 : lw_okq (⟨"NewsDraughtsModel", "asItIs", "()V"⟩, 32) := ⟨⟨by decide +kernel, by decide +kernel⟩, List.mem_of_getElem? (i := 957) (by decide +kernel), List.mem_of_getElem? (i := 1146) (by decide +kernel), List.mem_of_getElem? (i := 1147) (by decide +kernel)⟩
theorem lw_p34 : lw_okq (⟨"NewsDraughtsModel", "known", "(I)I"⟩, 32) := ⟨⟨by decide +kernel, by decide +kernel⟩, List.mem_of_getElem? (i := 957) (by decide +kernel), List.mem_of_getElem? (i := 1150) (by decide +kernel), List.mem_of_getElem? (i := 1151) (by decide +kernel)⟩
theorem lw_p35 : lw_okq (⟨"NewsDraughtsModel", "isNews", "(I)Z"⟩, 32) := ⟨⟨by decide +kernel, by decide +kernel⟩, List.mem_of_getElem? (i := 957) (by decide +kernel), List.mem_of_getElem? (i := 1161) (by decide +kernel), List.mem_of_getElem? (i := 1162) (by decide +kernel)⟩
theorem lw_p36 : lw_okq (⟨"NewsDraughtsModel", "windOf", "(I)I"⟩, 32) := ⟨⟨by decide +kernel, by decide +kernel⟩, List.mem_of_getElem? (i := 957) (by decide +kernel), List.mem_of_getElem? (i := 1172) (by decide +kernel), List.mem_of_getElem? (i := 1173) (by decide +kernel)⟩
theorem lw_p37 : lw_okq (⟨"NewsDraughtsModel", "remembers", "()V"⟩, 32) := ⟨⟨by decide +kernel, by decide +kernel⟩, List.mem_of_getElem? (i := 957) (by decide +kernel), List.mem_of_getElem? (i := 1180) (by decide +kernel), List.mem_of_getElem? (i := 1181) (by decide +kernel)⟩
theorem lw_p38 : lw_okq (⟨"NewsDraughtsModel", "goes", "(I)V"⟩, 32) := ⟨⟨by decide +kernel, by decide +kernel⟩, List.mem_of_getElem? (i := 957) (by decide +kernel), List.mem_of_getElem? (i := 1184) (by decide +kernel), List.mem_of_getElem? (i := 1185) (by decide +kernel)⟩
theorem lw_p39 : lw_okq (⟨"NewsDraughtsModel", "goesBy", "(I)V"⟩, 32) := ⟨⟨by decide +kernel, by decide +kernel⟩, List.mem_of_getElem? (i := 957) (by decide +kernel), List.mem_of_getElem? (i := 1188) (by decide +kernel), List.mem_of_getElem? (i := 1189) (by decide +kernel)⟩
theorem lw_p40 : lw_okq (⟨"NewsDraughtsModel", "letsOut", "(II)Z"⟩, 32) := ⟨⟨by decide +kernel, by decide +kernel⟩, List.mem_of_getElem? (i := 957) (by decide +kernel), List.mem_of_getElem? (i := 1192) (by decide +kernel), List.mem_of_getElem? (i := 1193) (by decide +kernel)⟩
theorem lw_p41 : lw_okq (⟨"NewsDraughtsModel", "blowsFrom", "(IIII)V"⟩, 32) := ⟨⟨by decide +kernel, by decide +kernel⟩, List.mem_of_getElem? (i := 957) (by decide +kernel), List.mem_of_getElem? (i := 1196) (by decide +kernel), List.mem_of_getElem? (i := 1197) (by decide +kernel)⟩
theorem lw_p42 : lw_okq (⟨"NewsDraughtsModel", "beside", "(II)I"⟩, 32) := ⟨⟨by decide +kernel, by decide +kernel⟩, List.mem_of_getElem? (i := 957) (by decide +kernel), List.mem_of_getElem? (i := 1200) (by decide +kernel), List.mem_of_getElem? (i := 1201) (by decide +kernel)⟩
theorem lw_p43 : lw_okq (⟨"NewsDraughtsModel", "letsIn", "(III)Z"⟩, 32) := ⟨⟨by decide +kernel, by decide +kernel⟩, List.mem_of_getElem? (i := 957) (by decide +kernel), List.mem_of_getElem? (i := 1204) (by decide +kernel), List.mem_of_getElem? (i := 1205) (by decide +kernel)⟩
theorem lw_p44 : lw_okq (⟨"NewsDraughtsModel", "asItIsOf", "(I)V"⟩, 32) := ⟨⟨by decide +kernel, by decide +kernel⟩, List.mem_of_getElem? (i := 957) (by decide +kernel), List.mem_of_getElem? (i := 1228) (by decide +kernel), List.mem_of_getElem? (i := 1229) (by decide +kernel)⟩
theorem lw_p45 : lw_okq (⟨"NewsDraughtsModel", "knowsBehind", "(II)I"⟩, 32) := ⟨⟨by decide +kernel, by decide +kernel⟩, List.mem_of_getElem? (i := 957) (by decide +kernel), List.mem_of_getElem? (i := 1232) (by decide +kernel), List.mem_of_getElem? (i := 1233) (by decide +kernel)⟩
theorem lw_p46 : lw_okq (⟨"NewsDraughtsModel", "isCutBy", "(III)Z"⟩, 32) := ⟨⟨by decide +kernel, by decide +kernel⟩, List.mem_of_getElem? (i := 957) (by decide +kernel), List.mem_of_getElem? (i := 1244) (by decide +kernel), List.mem_of_getElem? (i := 1245) (by decide +kernel)⟩
theorem lw_p47 : lw_okq (⟨"NewsDraughtsModel", "findWay", "(IIIII)Z"⟩, 32) := ⟨⟨by decide +kernel, by decide +kernel⟩, List.mem_of_getElem? (i := 957) (by decide +kernel), List.mem_of_getElem? (i := 1252) (by decide +kernel), List.mem_of_getElem? (i := 1253) (by decide +kernel)⟩
def lw_privs_3 : List (MethodName × Nat) := [(⟨"NewsDraughtsModel", "isHouse", "(I)Z"⟩, 32), (⟨"NewsDraughtsModel", "asItIs", "()V"⟩, 32), (⟨"NewsDraughtsModel", "known", "(I)I"⟩, 32), (⟨"NewsDraughtsModel", "isNews", "(I)Z"⟩, 32), (⟨"NewsDraughtsModel", "windOf", "(I)I"⟩, 32), (⟨"NewsDraughtsModel", "remembers", "()V"⟩, 32), (⟨"NewsDraughtsModel", "goes", "(I)V"⟩, 32), (⟨"NewsDraughtsModel", "goesBy", "(I)V"⟩, 32), (⟨"NewsDraughtsModel", "letsOut", "(II)Z"⟩, 32), (⟨"NewsDraughtsModel", "blowsFrom", "(IIII)V"⟩, 32), (⟨"NewsDraughtsModel", "beside", "(II)I"⟩, 32), (⟨"NewsDraughtsModel", "letsIn", "(III)Z"⟩, 32), (⟨"NewsDraughtsModel", "asItIsOf", "(I)V"⟩, 32), (⟨"NewsDraughtsModel", "knowsBehind", "(II)I"⟩, 32), (⟨"NewsDraughtsModel", "isCutBy", "(III)Z"⟩, 32), (⟨"NewsDraughtsModel", "findWay", "(IIIII)Z"⟩, 32)]
theorem lw_r3 : ∀ q ∈ lw_privs_3, lw_okq q := List.forall_mem_cons.mpr ⟨lw_p32, List.forall_mem_cons.mpr ⟨lw_p33, List.forall_mem_cons.mpr ⟨lw_p34, List.forall_mem_cons.mpr ⟨lw_p35, List.forall_mem_cons.mpr ⟨lw_p36, List.forall_mem_cons.mpr ⟨lw_p37, List.forall_mem_cons.mpr ⟨lw_p38, List.forall_mem_cons.mpr ⟨lw_p39, List.forall_mem_cons.mpr ⟨lw_p40, List.forall_mem_cons.mpr ⟨lw_p41, List.forall_mem_cons.mpr ⟨lw_p42, List.forall_mem_cons.mpr ⟨lw_p43, List.forall_mem_cons.mpr ⟨lw_p44, List.forall_mem_cons.mpr ⟨lw_p45, List.forall_mem_cons.mpr ⟨lw_p46, List.forall_mem_cons.mpr ⟨lw_p47, fun _ h => absurd h List.not_mem_nil⟩⟩⟩⟩⟩⟩⟩⟩⟩⟩⟩⟩⟩⟩⟩⟩
theorem lw_p48 : lw_okq (⟨"NewsDraughtsModel", "isSoBy", "(IIII)Z"⟩, 32) := ⟨⟨by decide +kernel, by decide +kernel⟩, List.mem_of_getElem? (i := 957) (by decide +kernel), List.mem_of_getElem? (i := 1256) (by decide +kernel), List.mem_of_getElem? (i := 1257) (by decide +kernel)⟩
theorem lw_p49 : lw_okq (⟨"NewsDraughtsModel", "heavy", "(I)I"⟩, 32) := ⟨⟨by decide +kernel, by decide +kernel⟩, List.mem_of_getElem? (i := 957) (by decide +kernel), List.mem_of_getElem? (i := 1264) (by decide +kernel), List.mem_of_getElem? (i := 1265) (by decide +kernel)⟩
theorem lw_p50 : lw_okq (⟨"NewsDraughtsModel", "isWon", "(IIII)Z"⟩, 32) := ⟨⟨by decide +kernel, by decide +kernel⟩, List.mem_of_getElem? (i := 957) (by decide +kernel), List.mem_of_getElem? (i := 1272) (by decide +kernel), List.mem_of_getElem? (i := 1273) (by decide +kernel)⟩
theorem lw_p51 : lw_okq (⟨"NewsDraughtsModel", "knowsBy", "(IIIII)Z"⟩, 32) := ⟨⟨by decide +kernel, by decide +kernel⟩, List.mem_of_getElem? (i := 957) (by decide +kernel), List.mem_of_getElem? (i := 1276) (by decide +kernel), List.mem_of_getElem? (i := 1277) (by decide +kernel)⟩
theorem lw_p52 : lw_okq (⟨"NewsDraughtsModel", "isSoAll", "(II)Z"⟩, 32) := ⟨⟨by decide +kernel, by decide +kernel⟩, List.mem_of_getElem? (i := 957) (by decide +kernel), List.mem_of_getElem? (i := 1292) (by decide +kernel), List.mem_of_getElem? (i := 1293) (by decide +kernel)⟩
theorem lw_p53 : lw_okq (⟨"NewsDraughtsModel", "isSo", "(II)Z"⟩, 32) := ⟨⟨by decide +kernel, by decide +kernel⟩, List.mem_of_getElem? (i := 957) (by decide +kernel), List.mem_of_getElem? (i := 1296) (by decide +kernel), List.mem_of_getElem? (i := 1297) (by decide +kernel)⟩
theorem lw_p54 : lw_okq (⟨"NewsDraughtsModel", "allKnown", "()I"⟩, 32) := ⟨⟨by decide +kernel, by decide +kernel⟩, List.mem_of_getElem? (i := 957) (by decide +kernel), List.mem_of_getElem? (i := 1312) (by decide +kernel), List.mem_of_getElem? (i := 1313) (by decide +kernel)⟩
theorem lw_p55 : lw_okq (⟨"NewsDraughtsModel", "knowers", "()I"⟩, 32) := ⟨⟨by decide +kernel, by decide +kernel⟩, List.mem_of_getElem? (i := 957) (by decide +kernel), List.mem_of_getElem? (i := 1320) (by decide +kernel), List.mem_of_getElem? (i := 1321) (by decide +kernel)⟩
def lw_privs_4 : List (MethodName × Nat) := [(⟨"NewsDraughtsModel", "isSoBy", "(IIII)Z"⟩, 32), (⟨"NewsDraughtsModel", "heavy", "(I)I"⟩, 32), (⟨"NewsDraughtsModel", "isWon", "(IIII)Z"⟩, 32), (⟨"NewsDraughtsModel", "knowsBy", "(IIIII)Z"⟩, 32), (⟨"NewsDraughtsModel", "isSoAll", "(II)Z"⟩, 32), (⟨"NewsDraughtsModel", "isSo", "(II)Z"⟩, 32), (⟨"NewsDraughtsModel", "allKnown", "()I"⟩, 32), (⟨"NewsDraughtsModel", "knowers", "()I"⟩, 32)]
theorem lw_r4 : ∀ q ∈ lw_privs_4, lw_okq q := List.forall_mem_cons.mpr ⟨lw_p48, List.forall_mem_cons.mpr ⟨lw_p49, List.forall_mem_cons.mpr ⟨lw_p50, List.forall_mem_cons.mpr ⟨lw_p51, List.forall_mem_cons.mpr ⟨lw_p52, List.forall_mem_cons.mpr ⟨lw_p53, List.forall_mem_cons.mpr ⟨lw_p54, List.forall_mem_cons.mpr ⟨lw_p55, fun _ h => absurd h List.not_mem_nil⟩⟩⟩⟩⟩⟩⟩⟩
def lw_privs : List (MethodName × Nat) := lw_privs_1 ++ (lw_privs_2 ++ (lw_privs_3 ++ (lw_privs_4)))
def lw_tbl : List Cond := k2_sels lw_privs ++ tables_1
theorem lw_privs_ok : ∀ q ∈ lw_privs, lw_okq q := by
  show ∀ q ∈ lw_privs_1 ++ (lw_privs_2 ++ (lw_privs_3 ++ (lw_privs_4))), lw_okq q
  exact List.forall_mem_append.mpr ⟨lw_r1, List.forall_mem_append.mpr ⟨lw_r2, List.forall_mem_append.mpr ⟨lw_r3, lw_r4⟩⟩⟩
/-! ===== BEGIN words of one list among another's, by their places ===== -/
theorem goodIn_r {big : List Cond} (ws : List Cond) (ps : List Nat) (hp : ws = ps.filterMap (fun i => big[i]?)) (h : ws.all goodWord = true) : GoodIn big ws := by
  intro w hw
  have h1 := List.all_eq_true.mp h w hw
  rw [hp] at hw
  obtain ⟨i, -, hi⟩ := List.mem_filterMap.mp hw
  have hm : w ∈ big := by first | exact List.mem_of_getElem? hi | exact List.getElem?_mem hi
  exact ⟨hm, good_of_word h1⟩
theorem goodIn_app {big a b : List Cond} (ha : GoodIn big a) (hb : GoodIn big b) : GoodIn big (a ++ b) := fun w h => (List.mem_append.mp h).elim (ha w) (hb w)
theorem goodIn_ca {big a b : List Cond} {c : Cond} (ha : GoodIn big (c :: a)) (hb : GoodIn big b) : GoodIn big (c :: (a ++ b)) := fun w h => (List.mem_cons.mp h).elim (fun e => ha w (List.mem_cons.mpr (Or.inl e))) (fun h => (List.mem_append.mp h).elim (fun h => ha w (List.mem_cons.mpr (Or.inr h))) (hb w))
theorem goodIn_sub {big ws : List Cond} (hm : ∀ w ∈ ws, w ∈ big) (h : ws.all goodWord = true) : GoodIn big ws := fun w hw => ⟨hm w hw, good_of_word (List.all_eq_true.mp h w hw)⟩
/-! ===== END ===== -/

/-! ===== BEGIN printed: names, fields, word lists, decode rows ===== -/
def RX0 : String := "NewsDraughts$Chances"
def TX0 : u_T := fun k => match k with
  | 0 => ("NewsDraughts$Chances", "parish", "LNewsDraughts$Parish;", true)
  | 1 => ("NewsDraughts$Chances", "draught", "LNewsDraughts$Draught;", true)
  | 2 => ("NewsDraughts$Chances", "housesThatKnow", "I", false)
  | _ => ("NewsDraughts$Chances", "timesHeard", "I", false)
def tyX0 : Nat → FieldType := fun k => match k with
  | 0 => .object "NewsDraughts$Parish"
  | 1 => .object "NewsDraughts$Draught"
  | 2 => .int
  | _ => .int
abbrev wsX00 : List Cond := u_ws RX0 TX0 4
theorem nmX0 : ∀ a, a < 4 → ∀ b, b < 4 → a ≠ b → (TX0 a).2.1 ≠ (TX0 b).2.1 := by decide +kernel
theorem tyX0_ok : ∀ k, k < 4 → parseFieldDescriptor (TX0 k).2.2.1 = some (tyX0 k) := by decide +kernel
abbrev cX0_init : ByteArray := prog_2_method_1_code
def yX0_init : MethodName := ⟨RX0, "<init>", "(LNewsDraughts$Parish;LNewsDraughts$Draught;)V"⟩
abbrev cX0_gustsThatReach : ByteArray := prog_2_method_2_code
def yX0_gustsThatReach : MethodName := ⟨RX0, "gustsThatReach", "(III)I"⟩
abbrev cX0_inLowestTerms : ByteArray := prog_2_method_3_code
def yX0_inLowestTerms : MethodName := ⟨RX0, "inLowestTerms", "(III)I"⟩
abbrev cX0_waysOf : ByteArray := prog_2_method_4_code
def yX0_waysOf : MethodName := ⟨RX0, "waysOf", "(I)I"⟩
abbrev cX0_runYear : ByteArray := prog_2_method_5_code
def yX0_runYear : MethodName := ⟨RX0, "runYear", "(II)V"⟩
abbrev cX0_housesThatKnow : ByteArray := prog_2_method_6_code
def yX0_housesThatKnow : MethodName := ⟨RX0, "housesThatKnow", "()I"⟩
abbrev cX0_timesHeard : ByteArray := prog_2_method_7_code
def yX0_timesHeard : MethodName := ⟨RX0, "timesHeard", "()I"⟩
abbrev cX0_openByDraw : ByteArray := prog_2_method_8_code
def yX0_openByDraw : MethodName := ⟨RX0, "openByDraw", "(I)V"⟩
abbrev cX0_draw : ByteArray := prog_2_method_9_code
def yX0_draw : MethodName := ⟨RX0, "draw", "(II)I"⟩
def RX1 : String := "NewsDraughts$Draught"
def TX1 : u_T := fun k => match k with
  | 0 => ("NewsDraughts$Draught", "parish", "LNewsDraughts$Parish;", true)
  | 1 => ("NewsDraughts$Draught", "now", "LNewsDraughts$Standing;", true)
  | 2 => ("NewsDraughts$Draught", "sashes", "[I", true)
  | 3 => ("NewsDraughts$Draught", "needed", "[I", true)
  | 4 => ("NewsDraughts$Draught", "whoKnows", "I", false)
  | 5 => ("NewsDraughts$Draught", "gossips", "I", false)
  | 6 => ("NewsDraughts$Draught", "talkers", "I", false)
  | 7 => ("NewsDraughts$Draught", "openToGossips", "I", false)
  | 8 => ("NewsDraughts$Draught", "openToTalkers", "I", false)
  | 9 => ("NewsDraughts$Draught", "columns", "I", false)
  | 10 => ("NewsDraughts$Draught", "firstColumn", "I", false)
  | _ => ("NewsDraughts$Draught", "lastColumn", "I", false)
def tyX1 : Nat → FieldType := fun k => match k with
  | 0 => .object "NewsDraughts$Parish"
  | 1 => .object "NewsDraughts$Standing"
  | 2 => .array .int
  | 3 => .array .int
  | 4 => .int
  | 5 => .int
  | 6 => .int
  | 7 => .int
  | 8 => .int
  | 9 => .int
  | 10 => .int
  | _ => .int
abbrev wsX10 : List Cond := u_ws RX1 TX1 12
theorem nmX1 : ∀ a, a < 12 → ∀ b, b < 12 → a ≠ b → (TX1 a).2.1 ≠ (TX1 b).2.1 := by decide +kernel
theorem tyX1_ok : ∀ k, k < 12 → parseFieldDescriptor (TX1 k).2.2.1 = some (tyX1 k) := by decide +kernel
abbrev cX1_init : ByteArray := prog_3_method_1_code
def yX1_init : MethodName := ⟨RX1, "<init>", "(LNewsDraughts$Parish;LNewsDraughts$Standing;)V"⟩
abbrev cX1_pick : ByteArray := prog_3_method_2_code
def yX1_pick : MethodName := ⟨RX1, "pick", "(I)V"⟩
abbrev cX1_reopen : ByteArray := prog_3_method_3_code
def yX1_reopen : MethodName := ⟨RX1, "reopen", "(II)V"⟩
abbrev cX1_isAnother : ByteArray := prog_3_method_4_code
def yX1_isAnother : MethodName := ⟨RX1, "isAnother", "(II)Z"⟩
abbrev cX1_letsInFromTalkers : ByteArray := prog_3_method_5_code
def yX1_letsInFromTalkers : MethodName := ⟨RX1, "letsInFromTalkers", "(II)Z"⟩
abbrev cX1_letsInFromGossips : ByteArray := prog_3_method_6_code
def yX1_letsInFromGossips : MethodName := ⟨RX1, "letsInFromGossips", "(II)Z"⟩
abbrev cX1_stuff : ByteArray := prog_3_method_7_code
def yX1_stuff : MethodName := ⟨RX1, "stuff", "(I)V"⟩
abbrev cX1_sashOf : ByteArray := prog_3_method_8_code
def yX1_sashOf : MethodName := ⟨RX1, "sashOf", "(I)I"⟩
abbrev cX1_whoKnows : ByteArray := prog_3_method_9_code
def yX1_whoKnows : MethodName := ⟨RX1, "whoKnows", "()I"⟩
abbrev cX1_hears : ByteArray := prog_3_method_10_code
def yX1_hears : MethodName := ⟨RX1, "hears", "(II)Z"⟩
abbrev cX1_along : ByteArray := prog_3_method_11_code
def yX1_along : MethodName := ⟨RX1, "along", "(III)I"⟩
abbrev cX1_onward : ByteArray := prog_3_method_12_code
def yX1_onward : MethodName := ⟨RX1, "onward", "(II)I"⟩
def RX2 : String := "NewsDraughts$Openings"
def TX2 : u_T := fun k => match k with
  | 0 => ("NewsDraughts$Openings", "parish", "LNewsDraughts$Parish;", true)
  | 1 => ("NewsDraughts$Openings", "now", "LNewsDraughts$Standing;", true)
  | 2 => ("NewsDraughts$Openings", "draught", "LNewsDraughts$Draught;", true)
  | 3 => ("NewsDraughts$Openings", "steps", "I", false)
  | 4 => ("NewsDraughts$Openings", "shallKnow", "I", false)
  | 5 => ("NewsDraughts$Openings", "shallNot", "I", false)
  | 6 => ("NewsDraughts$Openings", "opened", "I", false)
  | 7 => ("NewsDraughts$Openings", "first", "I", false)
  | _ => ("NewsDraughts$Openings", "second", "I", false)
def tyX2 : Nat → FieldType := fun k => match k with
  | 0 => .object "NewsDraughts$Parish"
  | 1 => .object "NewsDraughts$Standing"
  | 2 => .object "NewsDraughts$Draught"
  | 3 => .int
  | 4 => .int
  | 5 => .int
  | 6 => .int
  | 7 => .int
  | _ => .int
abbrev wsX20 : List Cond := u_ws RX2 TX2 9
theorem nmX2 : ∀ a, a < 9 → ∀ b, b < 9 → a ≠ b → (TX2 a).2.1 ≠ (TX2 b).2.1 := by decide +kernel
theorem tyX2_ok : ∀ k, k < 9 → parseFieldDescriptor (TX2 k).2.2.1 = some (tyX2 k) := by decide +kernel
abbrev cX2_init : ByteArray := prog_4_method_1_code
def yX2_init : MethodName := ⟨RX2, "<init>", "(LNewsDraughts$Parish;LNewsDraughts$Standing;LNewsDraughts$Draught;)V"⟩
abbrev cX2_pose : ByteArray := prog_4_method_2_code
def yX2_pose : MethodName := ⟨RX2, "pose", "(IIII)V"⟩
abbrev cX2_answer : ByteArray := prog_4_method_3_code
def yX2_answer : MethodName := ⟨RX2, "answer", "(I)I"⟩
abbrev cX2_found : ByteArray := prog_4_method_4_code
def yX2_found : MethodName := ⟨RX2, "found", "(III)V"⟩
abbrev cX2_isSo : ByteArray := prog_4_method_5_code
def yX2_isSo : MethodName := ⟨RX2, "isSo", "(I)Z"⟩
abbrev cX2_isFoundByNone : ByteArray := prog_4_method_6_code
def yX2_isFoundByNone : MethodName := ⟨RX2, "isFoundByNone", "()Z"⟩
abbrev cX2_isFoundByOne : ByteArray := prog_4_method_7_code
def yX2_isFoundByOne : MethodName := ⟨RX2, "isFoundByOne", "()Z"⟩
abbrev cX2_findByTwo : ByteArray := prog_4_method_8_code
def yX2_findByTwo : MethodName := ⟨RX2, "findByTwo", "()V"⟩
abbrev cX2_isFoundWith : ByteArray := prog_4_method_9_code
def yX2_isFoundWith : MethodName := ⟨RX2, "isFoundWith", "(II)Z"⟩
abbrev cX2_fittingWidth : ByteArray := prog_4_method_10_code
def yX2_fittingWidth : MethodName := ⟨RX2, "fittingWidth", "(I)I"⟩
def RX3 : String := "NewsDraughts$Outlook"
def TX3 : u_T := fun k => match k with
  | 0 => ("NewsDraughts$Outlook", "parish", "LNewsDraughts$Parish;", true)
  | 1 => ("NewsDraughts$Outlook", "now", "LNewsDraughts$Standing;", true)
  | _ => ("NewsDraughts$Outlook", "draught", "LNewsDraughts$Draught;", true)
def tyX3 : Nat → FieldType := fun k => match k with
  | 0 => .object "NewsDraughts$Parish"
  | 1 => .object "NewsDraughts$Standing"
  | _ => .object "NewsDraughts$Draught"
abbrev wsX30 : List Cond := u_ws RX3 TX3 3
theorem nmX3 : ∀ a, a < 3 → ∀ b, b < 3 → a ≠ b → (TX3 a).2.1 ≠ (TX3 b).2.1 := by decide +kernel
theorem tyX3_ok : ∀ k, k < 3 → parseFieldDescriptor (TX3 k).2.2.1 = some (tyX3 k) := by decide +kernel
abbrev cX3_init : ByteArray := prog_5_method_1_code
def yX3_init : MethodName := ⟨RX3, "<init>", "(LNewsDraughts$Parish;LNewsDraughts$Standing;LNewsDraughts$Draught;)V"⟩
abbrev cX3_knownBehind : ByteArray := prog_5_method_2_code
def yX3_knownBehind : MethodName := ⟨RX3, "knownBehind", "(II)I"⟩
abbrev cX3_firstHeard : ByteArray := prog_5_method_3_code
def yX3_firstHeard : MethodName := ⟨RX3, "firstHeard", "(II)I"⟩
abbrev cX3_latestHouse : ByteArray := prog_5_method_4_code
def yX3_latestHouse : MethodName := ⟨RX3, "latestHouse", "(I)I"⟩
abbrev cX3_fewestStuffed : ByteArray := prog_5_method_5_code
def yX3_fewestStuffed : MethodName := ⟨RX3, "fewestStuffed", "(II)I"⟩
abbrev cX3_widestBorne : ByteArray := prog_5_method_6_code
def yX3_widestBorne : MethodName := ⟨RX3, "widestBorne", "(II)I"⟩
abbrev cX3_burden : ByteArray := prog_5_method_7_code
def yX3_burden : MethodName := ⟨RX3, "burden", "(II)I"⟩
abbrev cX3_bestToOpen : ByteArray := prog_5_method_8_code
def yX3_bestToOpen : MethodName := ⟨RX3, "bestToOpen", "(III)I"⟩
abbrev cX3_hearsInSpite : ByteArray := prog_5_method_9_code
def yX3_hearsInSpite : MethodName := ⟨RX3, "hearsInSpite", "(IIII)Z"⟩
def RX4 : String := "NewsDraughts$Parish"
def TX4 : u_T := fun k => match k with
  | 0 => ("NewsDraughts$Parish", "kinds", "[I", true)
  | 1 => ("NewsDraughts$Parish", "sashes", "[I", true)
  | 2 => ("NewsDraughts$Parish", "newsKinds", "[I", true)
  | 3 => ("NewsDraughts$Parish", "weights", "[I", true)
  | 4 => ("NewsDraughts$Parish", "beginnings", "[I", true)
  | 5 => ("NewsDraughts$Parish", "winds", "[I", true)
  | 6 => ("NewsDraughts$Parish", "rows", "I", false)
  | 7 => ("NewsDraughts$Parish", "columns", "I", false)
  | 8 => ("NewsDraughts$Parish", "firstColumn", "I", false)
  | 9 => ("NewsDraughts$Parish", "lastColumn", "I", false)
  | 10 => ("NewsDraughts$Parish", "newsTold", "I", false)
  | 11 => ("NewsDraughts$Parish", "windsTold", "I", false)
  | _ => ("NewsDraughts$Parish", "gridsAlone", "Z", false)
def tyX4 : Nat → FieldType := fun k => match k with
  | 0 => .array .int
  | 1 => .array .int
  | 2 => .array .int
  | 3 => .array .int
  | 4 => .array .int
  | 5 => .array .int
  | 6 => .int
  | 7 => .int
  | 8 => .int
  | 9 => .int
  | 10 => .int
  | 11 => .int
  | _ => .boolean
abbrev wsX40 : List Cond := u_ws RX4 TX4 13
theorem nmX4 : ∀ a, a < 13 → ∀ b, b < 13 → a ≠ b → (TX4 a).2.1 ≠ (TX4 b).2.1 := by decide +kernel
theorem tyX4_ok : ∀ k, k < 13 → parseFieldDescriptor (TX4 k).2.2.1 = some (tyX4 k) := by decide +kernel
abbrev cX4_init : ByteArray := prog_6_method_1_code
def yX4_init : MethodName := ⟨RX4, "<init>", "()V"⟩
abbrev cX4_clear : ByteArray := prog_6_method_2_code
def yX4_clear : MethodName := ⟨RX4, "clear", "()V"⟩
abbrev cX4_take : ByteArray := prog_6_method_3_code
def yX4_take : MethodName := ⟨RX4, "take", "(II[I)Z"⟩
abbrev cX4_takeGrid : ByteArray := prog_6_method_4_code
def yX4_takeGrid : MethodName := ⟨RX4, "takeGrid", "(II)Z"⟩
abbrev cX4_takeHouse : ByteArray := prog_6_method_5_code
def yX4_takeHouse : MethodName := ⟨RX4, "takeHouse", "(III)Z"⟩
abbrev cX4_takeNews : ByteArray := prog_6_method_6_code
def yX4_takeNews : MethodName := ⟨RX4, "takeNews", "(III)Z"⟩
abbrev cX4_takeWind : ByteArray := prog_6_method_7_code
def yX4_takeWind : MethodName := ⟨RX4, "takeWind", "(I)Z"⟩
abbrev cX4_rows : ByteArray := prog_6_method_8_code
def yX4_rows : MethodName := ⟨RX4, "rows", "()I"⟩
abbrev cX4_columns : ByteArray := prog_6_method_9_code
def yX4_columns : MethodName := ⟨RX4, "columns", "()I"⟩
abbrev cX4_firstColumn : ByteArray := prog_6_method_10_code
def yX4_firstColumn : MethodName := ⟨RX4, "firstColumn", "()I"⟩
abbrev cX4_lastColumn : ByteArray := prog_6_method_11_code
def yX4_lastColumn : MethodName := ⟨RX4, "lastColumn", "()I"⟩
abbrev cX4_houses : ByteArray := prog_6_method_12_code
def yX4_houses : MethodName := ⟨RX4, "houses", "()I"⟩
abbrev cX4_allHouses : ByteArray := prog_6_method_13_code
def yX4_allHouses : MethodName := ⟨RX4, "allHouses", "()I"⟩
abbrev cX4_hasHouse : ByteArray := prog_6_method_14_code
def yX4_hasHouse : MethodName := ⟨RX4, "hasHouse", "(I)Z"⟩
abbrev cX4_hasHouses : ByteArray := prog_6_method_15_code
def yX4_hasHouses : MethodName := ⟨RX4, "hasHouses", "(I)Z"⟩
abbrev cX4_kindOf : ByteArray := prog_6_method_16_code
def yX4_kindOf : MethodName := ⟨RX4, "kindOf", "(I)I"⟩
abbrev cX4_sashOf : ByteArray := prog_6_method_17_code
def yX4_sashOf : MethodName := ⟨RX4, "sashOf", "(I)I"⟩
abbrev cX4_newsTold : ByteArray := prog_6_method_18_code
def yX4_newsTold : MethodName := ⟨RX4, "newsTold", "()I"⟩
abbrev cX4_hasNews : ByteArray := prog_6_method_19_code
def yX4_hasNews : MethodName := ⟨RX4, "hasNews", "(I)Z"⟩
abbrev cX4_newsKindOf : ByteArray := prog_6_method_20_code
def yX4_newsKindOf : MethodName := ⟨RX4, "newsKindOf", "(I)I"⟩
abbrev cX4_weightOf : ByteArray := prog_6_method_21_code
def yX4_weightOf : MethodName := ⟨RX4, "weightOf", "(I)I"⟩
abbrev cX4_beginningOf : ByteArray := prog_6_method_22_code
def yX4_beginningOf : MethodName := ⟨RX4, "beginningOf", "(I)I"⟩
abbrev cX4_windsInTurn : ByteArray := prog_6_method_23_code
def yX4_windsInTurn : MethodName := ⟨RX4, "windsInTurn", "()I"⟩
abbrev cX4_windOf : ByteArray := prog_6_method_24_code
def yX4_windOf : MethodName := ⟨RX4, "windOf", "(I)I"⟩
def RX5 : String := "NewsDraughts$Pile"
def TX5 : u_T := fun k => match k with
  | 0 => ("NewsDraughts$Pile", "places", "[LNewsDraughts$Standing;", true)
  | 1 => ("NewsDraughts$Pile", "lowest", "I", false)
  | _ => ("NewsDraughts$Pile", "size", "I", false)
def tyX5 : Nat → FieldType := fun k => match k with
  | 0 => .array (.object "NewsDraughts$Standing")
  | 1 => .int
  | _ => .int
abbrev wsX50 : List Cond := u_ws RX5 TX5 3
theorem nmX5 : ∀ a, a < 3 → ∀ b, b < 3 → a ≠ b → (TX5 a).2.1 ≠ (TX5 b).2.1 := by decide +kernel
theorem tyX5_ok : ∀ k, k < 3 → parseFieldDescriptor (TX5 k).2.2.1 = some (tyX5 k) := by decide +kernel
abbrev cX5_init : ByteArray := prog_7_method_1_code
def yX5_init : MethodName := ⟨RX5, "<init>", "(I)V"⟩
abbrev cX5_push : ByteArray := prog_7_method_2_code
def yX5_push : MethodName := ⟨RX5, "push", "(LNewsDraughts$Standing;)V"⟩
abbrev cX5_popInto : ByteArray := prog_7_method_3_code
def yX5_popInto : MethodName := ⟨RX5, "popInto", "(LNewsDraughts$Standing;)Z"⟩
abbrev cX5_clear : ByteArray := prog_7_method_4_code
def yX5_clear : MethodName := ⟨RX5, "clear", "()V"⟩
abbrev cX5_size : ByteArray := prog_7_method_5_code
def yX5_size : MethodName := ⟨RX5, "size", "()I"⟩
abbrev cX5_isFull : ByteArray := prog_7_method_6_code
def yX5_isFull : MethodName := ⟨RX5, "isFull", "()Z"⟩
abbrev cX5_placeOf : ByteArray := prog_7_method_7_code
def yX5_placeOf : MethodName := ⟨RX5, "placeOf", "(I)LNewsDraughts$Standing;"⟩
def RX6 : String := "NewsDraughts$Reader"
def TX6 : u_T := fun k => match k with
  | 0 => ("NewsDraughts$Reader", "sheet", "LNewsDraughts$Sheet;", true)
  | 1 => ("NewsDraughts$Reader", "numbers", "[I", true)
  | _ => ("NewsDraughts$Reader", "place", "I", false)
def tyX6 : Nat → FieldType := fun k => match k with
  | 0 => .object "NewsDraughts$Sheet"
  | 1 => .array .int
  | _ => .int
abbrev wsX60 : List Cond := u_ws RX6 TX6 3
theorem nmX6 : ∀ a, a < 3 → ∀ b, b < 3 → a ≠ b → (TX6 a).2.1 ≠ (TX6 b).2.1 := by decide +kernel
theorem tyX6_ok : ∀ k, k < 3 → parseFieldDescriptor (TX6 k).2.2.1 = some (tyX6 k) := by decide +kernel
abbrev cX6_init : ByteArray := prog_8_method_1_code
def yX6_init : MethodName := ⟨RX6, "<init>", "(LNewsDraughts$Sheet;)V"⟩
abbrev cX6_readInto : ByteArray := prog_8_method_2_code
def yX6_readInto : MethodName := ⟨RX6, "readInto", "(LNewsDraughts$Parish;)I"⟩
abbrev cX6_readNumbers : ByteArray := prog_8_method_3_code
def yX6_readNumbers : MethodName := ⟨RX6, "readNumbers", "()I"⟩
abbrev cX6_readNumber : ByteArray := prog_8_method_4_code
def yX6_readNumber : MethodName := ⟨RX6, "readNumber", "()I"⟩
abbrev cX6_isFigure : ByteArray := prog_8_method_5_code
def yX6_isFigure : MethodName := ⟨RX6, "isFigure", "(I)Z"⟩
def RX7 : String := "NewsDraughts$Sheet"
def TX7 : u_T := fun k => match k with
  | 0 => ("NewsDraughts$Sheet", "letters", "[I", true)
  | _ => ("NewsDraughts$Sheet", "length", "I", false)
def tyX7 : Nat → FieldType := fun k => match k with
  | 0 => .array .int
  | _ => .int
abbrev wsX70 : List Cond := u_ws RX7 TX7 2
theorem nmX7 : ∀ a, a < 2 → ∀ b, b < 2 → a ≠ b → (TX7 a).2.1 ≠ (TX7 b).2.1 := by decide +kernel
theorem tyX7_ok : ∀ k, k < 2 → parseFieldDescriptor (TX7 k).2.2.1 = some (tyX7 k) := by decide +kernel
abbrev cX7_init : ByteArray := prog_9_method_1_code
def yX7_init : MethodName := ⟨RX7, "<init>", "()V"⟩
abbrev cX7_add : ByteArray := prog_9_method_2_code
def yX7_add : MethodName := ⟨RX7, "add", "(I)Z"⟩
abbrev cX7_clear : ByteArray := prog_9_method_3_code
def yX7_clear : MethodName := ⟨RX7, "clear", "()V"⟩
abbrev cX7_length : ByteArray := prog_9_method_4_code
def yX7_length : MethodName := ⟨RX7, "length", "()I"⟩
abbrev cX7_letterAt : ByteArray := prog_9_method_5_code
def yX7_letterAt : MethodName := ⟨RX7, "letterAt", "(I)I"⟩
def RX8 : String := "NewsDraughts$Sightings"
def TX8 : u_T := fun k => match k with
  | 0 => ("NewsDraughts$Sightings", "parish", "LNewsDraughts$Parish;", true)
  | 1 => ("NewsDraughts$Sightings", "draught", "LNewsDraughts$Draught;", true)
  | 2 => ("NewsDraughts$Sightings", "houses", "[I", true)
  | 3 => ("NewsDraughts$Sightings", "news", "[I", true)
  | 4 => ("NewsDraughts$Sightings", "times", "[I", true)
  | 5 => ("NewsDraughts$Sightings", "knows", "[I", true)
  | _ => ("NewsDraughts$Sightings", "size", "I", false)
def tyX8 : Nat → FieldType := fun k => match k with
  | 0 => .object "NewsDraughts$Parish"
  | 1 => .object "NewsDraughts$Draught"
  | 2 => .array .int
  | 3 => .array .int
  | 4 => .array .int
  | 5 => .array .int
  | _ => .int
abbrev wsX80 : List Cond := u_ws RX8 TX8 7
theorem nmX8 : ∀ a, a < 7 → ∀ b, b < 7 → a ≠ b → (TX8 a).2.1 ≠ (TX8 b).2.1 := by decide +kernel
theorem tyX8_ok : ∀ k, k < 7 → parseFieldDescriptor (TX8 k).2.2.1 = some (tyX8 k) := by decide +kernel
abbrev cX8_init : ByteArray := prog_10_method_1_code
def yX8_init : MethodName := ⟨RX8, "<init>", "(LNewsDraughts$Parish;LNewsDraughts$Draught;)V"⟩
abbrev cX8_add : ByteArray := prog_10_method_2_code
def yX8_add : MethodName := ⟨RX8, "add", "(IIIZ)Z"⟩
abbrev cX8_clear : ByteArray := prog_10_method_3_code
def yX8_clear : MethodName := ⟨RX8, "clear", "()V"⟩
abbrev cX8_size : ByteArray := prog_10_method_4_code
def yX8_size : MethodName := ⟨RX8, "size", "()I"⟩
abbrev cX8_beginnings : ByteArray := prog_10_method_5_code
def yX8_beginnings : MethodName := ⟨RX8, "beginnings", "(I)I"⟩
abbrev cX8_allSoFrom : ByteArray := prog_10_method_6_code
def yX8_allSoFrom : MethodName := ⟨RX8, "allSoFrom", "(II)Z"⟩
abbrev cX8_nextWinds : ByteArray := prog_10_method_7_code
def yX8_nextWinds : MethodName := ⟨RX8, "nextWinds", "()I"⟩
abbrev cX8_allSoBy : ByteArray := prog_10_method_8_code
def yX8_allSoBy : MethodName := ⟨RX8, "allSoBy", "(I)Z"⟩
abbrev cX8_isSo : ByteArray := prog_10_method_9_code
def yX8_isSo : MethodName := ⟨RX8, "isSo", "(II)Z"⟩
def RX9 : String := "NewsDraughts$Standing"
def TX9 : u_T := fun k => match k with
  | 0 => ("NewsDraughts$Standing", "sashes", "[I", true)
  | 1 => ("NewsDraughts$Standing", "whoKnows", "[I", true)
  | _ => ("NewsDraughts$Standing", "stepsGone", "I", false)
def tyX9 : Nat → FieldType := fun k => match k with
  | 0 => .array .int
  | 1 => .array .int
  | _ => .int
abbrev wsX90 : List Cond := u_ws RX9 TX9 3
theorem nmX9 : ∀ a, a < 3 → ∀ b, b < 3 → a ≠ b → (TX9 a).2.1 ≠ (TX9 b).2.1 := by decide +kernel
theorem tyX9_ok : ∀ k, k < 3 → parseFieldDescriptor (TX9 k).2.2.1 = some (tyX9 k) := by decide +kernel
abbrev cX9_init : ByteArray := prog_11_method_1_code
def yX9_init : MethodName := ⟨RX9, "<init>", "()V"⟩
abbrev cX9_begin : ByteArray := prog_11_method_2_code
def yX9_begin : MethodName := ⟨RX9, "begin", "(LNewsDraughts$Parish;)V"⟩
abbrev cX9_copyOf : ByteArray := prog_11_method_3_code
def yX9_copyOf : MethodName := ⟨RX9, "copyOf", "(LNewsDraughts$Standing;)V"⟩
abbrev cX9_sashOf : ByteArray := prog_11_method_4_code
def yX9_sashOf : MethodName := ⟨RX9, "sashOf", "(I)I"⟩
abbrev cX9_setSash : ByteArray := prog_11_method_5_code
def yX9_setSash : MethodName := ⟨RX9, "setSash", "(II)V"⟩
abbrev cX9_whoKnows : ByteArray := prog_11_method_6_code
def yX9_whoKnows : MethodName := ⟨RX9, "whoKnows", "(I)I"⟩
abbrev cX9_setWhoKnows : ByteArray := prog_11_method_7_code
def yX9_setWhoKnows : MethodName := ⟨RX9, "setWhoKnows", "(II)V"⟩
abbrev cX9_whoKnowsAny : ByteArray := prog_11_method_8_code
def yX9_whoKnowsAny : MethodName := ⟨RX9, "whoKnowsAny", "()I"⟩
abbrev cX9_knownIn : ByteArray := prog_11_method_9_code
def yX9_knownIn : MethodName := ⟨RX9, "knownIn", "(I)I"⟩
abbrev cX9_stepsGone : ByteArray := prog_11_method_10_code
def yX9_stepsGone : MethodName := ⟨RX9, "stepsGone", "()I"⟩
abbrev cX9_goOn : ByteArray := prog_11_method_11_code
def yX9_goOn : MethodName := ⟨RX9, "goOn", "(I)V"⟩
def RX10 : String := "NewsDraughts"
def TX10 : u_T := fun k => match k with
  | 0 => ("NewsDraughts", "sheet", "LNewsDraughts$Sheet;", true)
  | 1 => ("NewsDraughts", "reader", "LNewsDraughts$Reader;", true)
  | 2 => ("NewsDraughts", "draft", "LNewsDraughts$Parish;", true)
  | 3 => ("NewsDraughts", "parish", "LNewsDraughts$Parish;", true)
  | 4 => ("NewsDraughts", "now", "LNewsDraughts$Standing;", true)
  | 5 => ("NewsDraughts", "undone", "LNewsDraughts$Pile;", true)
  | 6 => ("NewsDraughts", "kept", "LNewsDraughts$Pile;", true)
  | 7 => ("NewsDraughts", "draught", "LNewsDraughts$Draught;", true)
  | 8 => ("NewsDraughts", "outlook", "LNewsDraughts$Outlook;", true)
  | 9 => ("NewsDraughts", "ways", "LNewsDraughts$Openings;", true)
  | 10 => ("NewsDraughts", "chances", "LNewsDraughts$Chances;", true)
  | _ => ("NewsDraughts", "sightings", "LNewsDraughts$Sightings;", true)
def tyX10 : Nat → FieldType := fun k => match k with
  | 0 => .object "NewsDraughts$Sheet"
  | 1 => .object "NewsDraughts$Reader"
  | 2 => .object "NewsDraughts$Parish"
  | 3 => .object "NewsDraughts$Parish"
  | 4 => .object "NewsDraughts$Standing"
  | 5 => .object "NewsDraughts$Pile"
  | 6 => .object "NewsDraughts$Pile"
  | 7 => .object "NewsDraughts$Draught"
  | 8 => .object "NewsDraughts$Outlook"
  | 9 => .object "NewsDraughts$Openings"
  | 10 => .object "NewsDraughts$Chances"
  | _ => .object "NewsDraughts$Sightings"
abbrev wsX100 : List Cond := u_ws RX10 TX10 12
theorem nmX10 : ∀ a, a < 12 → ∀ b, b < 12 → a ≠ b → (TX10 a).2.1 ≠ (TX10 b).2.1 := by decide +kernel
theorem tyX10_ok : ∀ k, k < 12 → parseFieldDescriptor (TX10 k).2.2.1 = some (tyX10 k) := by decide +kernel
abbrev cX10_init : ByteArray := prog_1_method_1_code
def yX10_init : MethodName := ⟨RX10, "<init>", "()V"⟩
abbrev cX10_write : ByteArray := prog_1_method_2_code
def yX10_write : MethodName := ⟨RX10, "write", "(I)I"⟩
abbrev cX10_wipe : ByteArray := prog_1_method_3_code
def yX10_wipe : MethodName := ⟨RX10, "wipe", "()I"⟩
abbrev cX10_fault : ByteArray := prog_1_method_4_code
def yX10_fault : MethodName := ⟨RX10, "fault", "()I"⟩
abbrev cX10_lay : ByteArray := prog_1_method_5_code
def yX10_lay : MethodName := ⟨RX10, "lay", "()I"⟩
abbrev cX10_house : ByteArray := prog_1_method_6_code
def yX10_house : MethodName := ⟨RX10, "house", "(II)I"⟩
abbrev cX10_news : ByteArray := prog_1_method_7_code
def yX10_news : MethodName := ⟨RX10, "news", "(II)I"⟩
abbrev cX10_wind : ByteArray := prog_1_method_8_code
def yX10_wind : MethodName := ⟨RX10, "wind", "(I)I"⟩
abbrev cX10_step : ByteArray := prog_1_method_9_code
def yX10_step : MethodName := ⟨RX10, "step", "(I)I"⟩
abbrev cX10_open : ByteArray := prog_1_method_10_code
def yX10_open : MethodName := ⟨RX10, "open", "(II)I"⟩
abbrev cX10_tell : ByteArray := prog_1_method_11_code
def yX10_tell : MethodName := ⟨RX10, "tell", "(II)I"⟩
abbrev cX10_undo : ByteArray := prog_1_method_12_code
def yX10_undo : MethodName := ⟨RX10, "undo", "()I"⟩
abbrev cX10_behind : ByteArray := prog_1_method_13_code
def yX10_behind : MethodName := ⟨RX10, "behind", "(II)I"⟩
abbrev cX10_when : ByteArray := prog_1_method_14_code
def yX10_when : MethodName := ⟨RX10, "when", "(II)I"⟩
abbrev cX10_last : ByteArray := prog_1_method_15_code
def yX10_last : MethodName := ⟨RX10, "last", "(II)I"⟩
abbrev cX10_cut : ByteArray := prog_1_method_16_code
def yX10_cut : MethodName := ⟨RX10, "cut", "(III)I"⟩
abbrev cX10_openings : ByteArray := prog_1_method_17_code
def yX10_openings : MethodName := ⟨RX10, "openings", "(IIIII)I"⟩
abbrev cX10_bears : ByteArray := prog_1_method_18_code
def yX10_bears : MethodName := ⟨RX10, "bears", "(II)I"⟩
abbrev cX10_quarrel : ByteArray := prog_1_method_19_code
def yX10_quarrel : MethodName := ⟨RX10, "quarrel", "(IIII)I"⟩
abbrev cX10_see : ByteArray := prog_1_method_20_code
def yX10_see : MethodName := ⟨RX10, "see", "(IIIZ)I"⟩
abbrev cX10_forget : ByteArray := prog_1_method_21_code
def yX10_forget : MethodName := ⟨RX10, "forget", "()I"⟩
abbrev cX10_began : ByteArray := prog_1_method_22_code
def yX10_began : MethodName := ⟨RX10, "began", "(I)I"⟩
abbrev cX10_blew : ByteArray := prog_1_method_23_code
def yX10_blew : MethodName := ⟨RX10, "blew", "()I"⟩
abbrev cX10_gusts : ByteArray := prog_1_method_24_code
def yX10_gusts : MethodName := ⟨RX10, "gusts", "(IIII)I"⟩
abbrev cX10_year : ByteArray := prog_1_method_25_code
def yX10_year : MethodName := ⟨RX10, "year", "(III)I"⟩
abbrev cX10_keep : ByteArray := prog_1_method_26_code
def yX10_keep : MethodName := ⟨RX10, "keep", "()I"⟩
abbrev cX10_back : ByteArray := prog_1_method_27_code
def yX10_back : MethodName := ⟨RX10, "back", "()I"⟩
abbrev cX10_count : ByteArray := prog_1_method_28_code
def yX10_count : MethodName := ⟨RX10, "count", "(I)I"⟩
abbrev cX10_layText : ByteArray := prog_1_method_29_code
def yX10_layText : MethodName := ⟨RX10, "layText", "()Z"⟩
abbrev cX10_within : ByteArray := prog_1_method_30_code
def yX10_within : MethodName := ⟨RX10, "within", "(III)Z"⟩
abbrev cX10_isWidth : ByteArray := prog_1_method_31_code
def yX10_isWidth : MethodName := ⟨RX10, "isWidth", "(I)Z"⟩
abbrev cX10_bit : ByteArray := prog_1_method_32_code
def yX10_bit : MethodName := ⟨RX10, "bit", "(I)I"⟩
abbrev cX10_holds : ByteArray := prog_1_method_33_code
def yX10_holds : MethodName := ⟨RX10, "holds", "(II)Z"⟩
abbrev cX10_at : ByteArray := prog_1_method_34_code
def yX10_at : MethodName := ⟨RX10, "at", "([II)I"⟩
abbrev cX10_put : ByteArray := prog_1_method_35_code
def yX10_put : MethodName := ⟨RX10, "put", "([III)V"⟩
abbrev cX10_fill : ByteArray := prog_1_method_36_code
def yX10_fill : MethodName := ⟨RX10, "fill", "([II)V"⟩
abbrev cX10_copy : ByteArray := prog_1_method_37_code
def yX10_copy : MethodName := ⟨RX10, "copy", "([I[I)V"⟩
def RX11 : String := "NewsDraughtsModel"
def TX11 : u_T := fun k => match k with
  | 0 => ("NewsDraughtsModel", "rows", "I", false)
  | 1 => ("NewsDraughtsModel", "columns", "I", false)
  | 2 => ("NewsDraughtsModel", "houses", "I", false)
  | 3 => ("NewsDraughtsModel", "kinds", "[I", true)
  | 4 => ("NewsDraughtsModel", "newsMany", "I", false)
  | 5 => ("NewsDraughtsModel", "news", "[I", true)
  | 6 => ("NewsDraughtsModel", "windMany", "I", false)
  | 7 => ("NewsDraughtsModel", "winds", "[I", true)
  | 8 => ("NewsDraughtsModel", "st", "[I", true)
  | 9 => ("NewsDraughtsModel", "acts", "I", false)
  | 10 => ("NewsDraughtsModel", "was", "[I", true)
  | 11 => ("NewsDraughtsModel", "keeps", "I", false)
  | 12 => ("NewsDraughtsModel", "kept", "[I", true)
  | 13 => ("NewsDraughtsModel", "sees", "I", false)
  | 14 => ("NewsDraughtsModel", "seen", "[I", true)
  | 15 => ("NewsDraughtsModel", "text", "[I", true)
  | 16 => ("NewsDraughtsModel", "texted", "I", false)
  | 17 => ("NewsDraughtsModel", "at", "I", false)
  | 18 => ("NewsDraughtsModel", "told", "[I", true)
  | 19 => ("NewsDraughtsModel", "isBegun", "Z", false)
  | 20 => ("NewsDraughtsModel", "readRows", "I", false)
  | 21 => ("NewsDraughtsModel", "readColumns", "I", false)
  | 22 => ("NewsDraughtsModel", "readKind", "[I", true)
  | 23 => ("NewsDraughtsModel", "readOpen", "[I", true)
  | 24 => ("NewsDraughtsModel", "readNewsMany", "I", false)
  | 25 => ("NewsDraughtsModel", "readNews", "[I", true)
  | 26 => ("NewsDraughtsModel", "readWinds", "I", false)
  | 27 => ("NewsDraughtsModel", "readWind", "[I", true)
  | 28 => ("NewsDraughtsModel", "now", "[I", true)
  | 29 => ("NewsDraughtsModel", "only", "I", false)
  | 30 => ("NewsDraughtsModel", "one", "I", false)
  | _ => ("NewsDraughtsModel", "other", "I", false)
def tyX11 : Nat → FieldType := fun k => match k with
  | 0 => .int
  | 1 => .int
  | 2 => .int
  | 3 => .array .int
  | 4 => .int
  | 5 => .array .int
  | 6 => .int
  | 7 => .array .int
  | 8 => .array .int
  | 9 => .int
  | 10 => .array .int
  | 11 => .int
  | 12 => .array .int
  | 13 => .int
  | 14 => .array .int
  | 15 => .array .int
  | 16 => .int
  | 17 => .int
  | 18 => .array .int
  | 19 => .boolean
  | 20 => .int
  | 21 => .int
  | 22 => .array .int
  | 23 => .array .int
  | 24 => .int
  | 25 => .array .int
  | 26 => .int
  | 27 => .array .int
  | 28 => .array .int
  | 29 => .int
  | 30 => .int
  | _ => .int
abbrev wsX110 : List Cond := u_ws RX11 TX11 32
theorem nmX11 : ∀ a, a < 32 → ∀ b, b < 32 → a ≠ b → (TX11 a).2.1 ≠ (TX11 b).2.1 := by decide +kernel
theorem tyX11_ok : ∀ k, k < 32 → parseFieldDescriptor (TX11 k).2.2.1 = some (tyX11 k) := by decide +kernel
abbrev cX11_init : ByteArray := prog_13_method_1_code
def yX11_init : MethodName := ⟨RX11, "<init>", "()V"⟩
abbrev cX11_tellsHouse : ByteArray := prog_13_method_3_code
def yX11_tellsHouse : MethodName := ⟨RX11, "tellsHouse", "(III)V"⟩
abbrev cX11_tellsNews : ByteArray := prog_13_method_4_code
def yX11_tellsNews : MethodName := ⟨RX11, "tellsNews", "(III)V"⟩
abbrev cX11_in : ByteArray := prog_13_method_5_code
def yX11_in : MethodName := ⟨RX11, "in", "(III)Z"⟩
abbrev cX11_has : ByteArray := prog_13_method_6_code
def yX11_has : MethodName := ⟨RX11, "has", "(II)Z"⟩
abbrev cX11_bits : ByteArray := prog_13_method_7_code
def yX11_bits : MethodName := ⟨RX11, "bits", "(I)I"⟩
abbrev cX11_isHouse : ByteArray := prog_13_method_8_code
def yX11_isHouse : MethodName := ⟨RX11, "isHouse", "(I)Z"⟩
abbrev cX11_isNews : ByteArray := prog_13_method_9_code
def yX11_isNews : MethodName := ⟨RX11, "isNews", "(I)Z"⟩
abbrev cX11_write : ByteArray := prog_13_method_10_code
def yX11_write : MethodName := ⟨RX11, "write", "(I)I"⟩
abbrev cX11_wipe : ByteArray := prog_13_method_11_code
def yX11_wipe : MethodName := ⟨RX11, "wipe", "()I"⟩
abbrev cX11_letterAt : ByteArray := prog_13_method_12_code
def yX11_letterAt : MethodName := ⟨RX11, "letterAt", "(I)I"⟩
abbrev cX11_isFigure : ByteArray := prog_13_method_13_code
def yX11_isFigure : MethodName := ⟨RX11, "isFigure", "(I)Z"⟩
abbrev cX11_readNumbers : ByteArray := prog_13_method_14_code
def yX11_readNumbers : MethodName := ⟨RX11, "readNumbers", "(I)Z"⟩
abbrev cX11_isTold : ByteArray := prog_13_method_15_code
def yX11_isTold : MethodName := ⟨RX11, "isTold", "(III)Z"⟩
abbrev cX11_clearTold : ByteArray := prog_13_method_16_code
def yX11_clearTold : MethodName := ⟨RX11, "clearTold", "()V"⟩
abbrev cX11_lastTold : ByteArray := prog_13_method_17_code
def yX11_lastTold : MethodName := ⟨RX11, "lastTold", "()I"⟩
abbrev cX11_readGridOf : ByteArray := prog_13_method_18_code
def yX11_readGridOf : MethodName := ⟨RX11, "readGridOf", "()Z"⟩
abbrev cX11_readHouseOf : ByteArray := prog_13_method_19_code
def yX11_readHouseOf : MethodName := ⟨RX11, "readHouseOf", "()Z"⟩
abbrev cX11_readNewsOf : ByteArray := prog_13_method_20_code
def yX11_readNewsOf : MethodName := ⟨RX11, "readNewsOf", "()Z"⟩
abbrev cX11_readWindOf : ByteArray := prog_13_method_21_code
def yX11_readWindOf : MethodName := ⟨RX11, "readWindOf", "()Z"⟩
abbrev cX11_readItem : ByteArray := prog_13_method_22_code
def yX11_readItem : MethodName := ⟨RX11, "readItem", "()Z"⟩
abbrev cX11_fault : ByteArray := prog_13_method_23_code
def yX11_fault : MethodName := ⟨RX11, "fault", "()I"⟩
abbrev cX11_lay : ByteArray := prog_13_method_24_code
def yX11_lay : MethodName := ⟨RX11, "lay", "()I"⟩
abbrev cX11_copies : ByteArray := prog_13_method_25_code
def yX11_copies : MethodName := ⟨RX11, "copies", "([II[III)V"⟩
abbrev cX11_settles : ByteArray := prog_13_method_26_code
def yX11_settles : MethodName := ⟨RX11, "settles", "()V"⟩
abbrev cX11_asItIs : ByteArray := prog_13_method_27_code
def yX11_asItIs : MethodName := ⟨RX11, "asItIs", "()V"⟩
abbrev cX11_asItIsOf : ByteArray := prog_13_method_28_code
def yX11_asItIsOf : MethodName := ⟨RX11, "asItIsOf", "(I)V"⟩
abbrev cX11_windOf : ByteArray := prog_13_method_29_code
def yX11_windOf : MethodName := ⟨RX11, "windOf", "(I)I"⟩
abbrev cX11_beside : ByteArray := prog_13_method_30_code
def yX11_beside : MethodName := ⟨RX11, "beside", "(II)I"⟩
abbrev cX11_letsOut : ByteArray := prog_13_method_31_code
def yX11_letsOut : MethodName := ⟨RX11, "letsOut", "(II)Z"⟩
abbrev cX11_letsIn : ByteArray := prog_13_method_32_code
def yX11_letsIn : MethodName := ⟨RX11, "letsIn", "(III)Z"⟩
abbrev cX11_blowsFrom : ByteArray := prog_13_method_33_code
def yX11_blowsFrom : MethodName := ⟨RX11, "blowsFrom", "(IIII)V"⟩
abbrev cX11_goesBy : ByteArray := prog_13_method_34_code
def yX11_goesBy : MethodName := ⟨RX11, "goesBy", "(I)V"⟩
abbrev cX11_goes : ByteArray := prog_13_method_35_code
def yX11_goes : MethodName := ⟨RX11, "goes", "(I)V"⟩
abbrev cX11_known : ByteArray := prog_13_method_36_code
def yX11_known : MethodName := ⟨RX11, "known", "(I)I"⟩
abbrev cX11_house : ByteArray := prog_13_method_37_code
def yX11_house : MethodName := ⟨RX11, "house", "(II)I"⟩
abbrev cX11_news : ByteArray := prog_13_method_38_code
def yX11_news : MethodName := ⟨RX11, "news", "(II)I"⟩
abbrev cX11_wind : ByteArray := prog_13_method_39_code
def yX11_wind : MethodName := ⟨RX11, "wind", "(I)I"⟩
abbrev cX11_remembers : ByteArray := prog_13_method_40_code
def yX11_remembers : MethodName := ⟨RX11, "remembers", "()V"⟩
abbrev cX11_step : ByteArray := prog_13_method_41_code
def yX11_step : MethodName := ⟨RX11, "step", "(I)I"⟩
abbrev cX11_open : ByteArray := prog_13_method_42_code
def yX11_open : MethodName := ⟨RX11, "open", "(II)I"⟩
abbrev cX11_tell : ByteArray := prog_13_method_43_code
def yX11_tell : MethodName := ⟨RX11, "tell", "(II)I"⟩
abbrev cX11_undo : ByteArray := prog_13_method_44_code
def yX11_undo : MethodName := ⟨RX11, "undo", "()I"⟩
abbrev cX11_behind : ByteArray := prog_13_method_45_code
def yX11_behind : MethodName := ⟨RX11, "behind", "(II)I"⟩
abbrev cX11_knowsBehind : ByteArray := prog_13_method_46_code
def yX11_knowsBehind : MethodName := ⟨RX11, "knowsBehind", "(II)I"⟩
abbrev cX11_when : ByteArray := prog_13_method_47_code
def yX11_when : MethodName := ⟨RX11, "when", "(II)I"⟩
abbrev cX11_last : ByteArray := prog_13_method_48_code
def yX11_last : MethodName := ⟨RX11, "last", "(II)I"⟩
abbrev cX11_isCutBy : ByteArray := prog_13_method_49_code
def yX11_isCutBy : MethodName := ⟨RX11, "isCutBy", "(III)Z"⟩
abbrev cX11_cut : ByteArray := prog_13_method_50_code
def yX11_cut : MethodName := ⟨RX11, "cut", "(III)I"⟩
abbrev cX11_isSoBy : ByteArray := prog_13_method_51_code
def yX11_isSoBy : MethodName := ⟨RX11, "isSoBy", "(IIII)Z"⟩
abbrev cX11_findWay : ByteArray := prog_13_method_52_code
def yX11_findWay : MethodName := ⟨RX11, "findWay", "(IIIII)Z"⟩
abbrev cX11_openings : ByteArray := prog_13_method_53_code
def yX11_openings : MethodName := ⟨RX11, "openings", "(IIIII)I"⟩
abbrev cX11_heavy : ByteArray := prog_13_method_54_code
def yX11_heavy : MethodName := ⟨RX11, "heavy", "(I)I"⟩
abbrev cX11_bears : ByteArray := prog_13_method_55_code
def yX11_bears : MethodName := ⟨RX11, "bears", "(II)I"⟩
abbrev cX11_knowsBy : ByteArray := prog_13_method_56_code
def yX11_knowsBy : MethodName := ⟨RX11, "knowsBy", "(IIIII)Z"⟩
abbrev cX11_isWon : ByteArray := prog_13_method_57_code
def yX11_isWon : MethodName := ⟨RX11, "isWon", "(IIII)Z"⟩
abbrev cX11_quarrel : ByteArray := prog_13_method_58_code
def yX11_quarrel : MethodName := ⟨RX11, "quarrel", "(IIII)I"⟩
abbrev cX11_see : ByteArray := prog_13_method_59_code
def yX11_see : MethodName := ⟨RX11, "see", "(IIIZ)I"⟩
abbrev cX11_forget : ByteArray := prog_13_method_60_code
def yX11_forget : MethodName := ⟨RX11, "forget", "()I"⟩
abbrev cX11_isSo : ByteArray := prog_13_method_61_code
def yX11_isSo : MethodName := ⟨RX11, "isSo", "(II)Z"⟩
abbrev cX11_isSoAll : ByteArray := prog_13_method_62_code
def yX11_isSoAll : MethodName := ⟨RX11, "isSoAll", "(II)Z"⟩
abbrev cX11_began : ByteArray := prog_13_method_63_code
def yX11_began : MethodName := ⟨RX11, "began", "(I)I"⟩
abbrev cX11_blew : ByteArray := prog_13_method_64_code
def yX11_blew : MethodName := ⟨RX11, "blew", "()I"⟩
abbrev cX11_gusts : ByteArray := prog_13_method_65_code
def yX11_gusts : MethodName := ⟨RX11, "gusts", "(IIII)I"⟩
abbrev cX11_knowers : ByteArray := prog_13_method_66_code
def yX11_knowers : MethodName := ⟨RX11, "knowers", "()I"⟩
abbrev cX11_allKnown : ByteArray := prog_13_method_67_code
def yX11_allKnown : MethodName := ⟨RX11, "allKnown", "()I"⟩
abbrev cX11_year : ByteArray := prog_13_method_68_code
def yX11_year : MethodName := ⟨RX11, "year", "(III)I"⟩
abbrev cX11_keep : ByteArray := prog_13_method_69_code
def yX11_keep : MethodName := ⟨RX11, "keep", "()I"⟩
abbrev cX11_back : ByteArray := prog_13_method_70_code
def yX11_back : MethodName := ⟨RX11, "back", "()I"⟩
abbrev cX11_count : ByteArray := prog_13_method_71_code
def yX11_count : MethodName := ⟨RX11, "count", "(I)I"⟩
def RJ6 : String := "java/lang/Integer"
def TJ6 : u_T := fun k => match k with
  | _ => ("", "", "", false)
def tyJ6 : Nat → FieldType := fun k => match k with
  | _ => .int
abbrev wsJ60 : List Cond := u_ws RJ6 TJ6 0
theorem nmJ6 : ∀ a, a < 0 → ∀ b, b < 0 → a ≠ b → (TJ6 a).2.1 ≠ (TJ6 b).2.1 := by decide +kernel
theorem tyJ6_ok : ∀ k, k < 0 → parseFieldDescriptor (TJ6 k).2.2.1 = some (tyJ6 k) := by decide +kernel
abbrev cJ6_bitCount_0f7a4 : ByteArray := prog_14_method_49_code
def yJ6_bitCount_0f7a4 : MethodName := ⟨RJ6, "bitCount", "(I)I"⟩
def RJ9 : String := "java/lang/Math"
def TJ9 : u_T := fun k => match k with
  | _ => ("", "", "", false)
def tyJ9 : Nat → FieldType := fun k => match k with
  | _ => .int
abbrev wsJ90 : List Cond := u_ws RJ9 TJ9 0
theorem nmJ9 : ∀ a, a < 0 → ∀ b, b < 0 → a ≠ b → (TJ9 a).2.1 ≠ (TJ9 b).2.1 := by decide +kernel
theorem tyJ9_ok : ∀ k, k < 0 → parseFieldDescriptor (TJ9 k).2.2.1 = some (tyJ9 k) := by decide +kernel
abbrev cJ9_floorMod_7cf53 : ByteArray := prog_15_method_50_code
def yJ9_floorMod_7cf53 : MethodName := ⟨RJ9, "floorMod", "(II)I"⟩
abbrev cJ9_max_7cf53 : ByteArray := prog_15_method_65_code
def yJ9_max_7cf53 : MethodName := ⟨RJ9, "max", "(II)I"⟩
abbrev cJ9_min_7cf53 : ByteArray := prog_15_method_69_code
def yJ9_min_7cf53 : MethodName := ⟨RJ9, "min", "(II)I"⟩
def RJ0 : String := "java/lang/String"
def TJ0 : u_T := fun k => match k with
  | _ => ("", "", "", false)
def tyJ0 : Nat → FieldType := fun k => match k with
  | _ => .int
abbrev wsJ00 : List Cond := u_ws RJ0 TJ0 0
theorem nmJ0 : ∀ a, a < 0 → ∀ b, b < 0 → a ≠ b → (TJ0 a).2.1 ≠ (TJ0 b).2.1 := by decide +kernel
theorem tyJ0_ok : ∀ k, k < 0 → parseFieldDescriptor (TJ0 k).2.2.1 = some (tyJ0 k) := by decide +kernel
abbrev cJ0_length_8abf5 : ByteArray := prog_16_method_54_code
def yJ0_length_8abf5 : MethodName := ⟨RJ0, "length", "()I"⟩
abbrev cJ0_charAt_5068e : ByteArray := prog_16_method_56_code
def yJ0_charAt_5068e : MethodName := ⟨RJ0, "charAt", "(I)C"⟩
abbrev cJ0_coder_7d493 : ByteArray := prog_16_method_152_code
def yJ0_coder_7d493 : MethodName := ⟨RJ0, "coder", "()B"⟩
abbrev cJ0_isLatin1_aae02 : ByteArray := prog_16_method_154_code
def yJ0_isLatin1_aae02 : MethodName := ⟨RJ0, "isLatin1", "()Z"⟩
abbrev cJ0_checkIndex_df160 : ByteArray := prog_16_method_155_code
def yJ0_checkIndex_df160 : MethodName := ⟨RJ0, "checkIndex", "(II)V"⟩
def RJ1 : String := "java/lang/StringLatin1"
def TJ1 : u_T := fun k => match k with
  | _ => ("", "", "", false)
def tyJ1 : Nat → FieldType := fun k => match k with
  | _ => .int
abbrev wsJ10 : List Cond := u_ws RJ1 TJ1 0
theorem nmJ1 : ∀ a, a < 0 → ∀ b, b < 0 → a ≠ b → (TJ1 a).2.1 ≠ (TJ1 b).2.1 := by decide +kernel
theorem tyJ1_ok : ∀ k, k < 0 → parseFieldDescriptor (TJ1 k).2.2.1 = some (tyJ1 k) := by decide +kernel
abbrev cJ1_charAt_3b067 : ByteArray := prog_17_method_2_code
def yJ1_charAt_3b067 : MethodName := ⟨RJ1, "charAt", "([BI)C"⟩
def RJ2 : String := "java/lang/StringUTF16"
def TJ2 : u_T := fun k => match k with
  | _ => ("", "", "", false)
def tyJ2 : Nat → FieldType := fun k => match k with
  | _ => .int
abbrev wsJ20 : List Cond := u_ws RJ2 TJ2 0
theorem nmJ2 : ∀ a, a < 0 → ∀ b, b < 0 → a ≠ b → (TJ2 a).2.1 ≠ (TJ2 b).2.1 := by decide +kernel
theorem tyJ2_ok : ∀ k, k < 0 → parseFieldDescriptor (TJ2 k).2.2.1 = some (tyJ2 k) := by decide +kernel
abbrev cJ2_getChar_3b067 : ByteArray := prog_18_method_5_code
def yJ2_getChar_3b067 : MethodName := ⟨RJ2, "getChar", "([BI)C"⟩
abbrev cJ2_length_9d52b : ByteArray := prog_18_method_6_code
def yJ2_length_9d52b : MethodName := ⟨RJ2, "length", "([B)I"⟩
abbrev cJ2_charAt_3b067 : ByteArray := prog_18_method_83_code
def yJ2_charAt_3b067 : MethodName := ⟨RJ2, "charAt", "([BI)C"⟩
abbrev cJ2_checkIndex_2214a : ByteArray := prog_18_method_91_code
def yJ2_checkIndex_2214a : MethodName := ⟨RJ2, "checkIndex", "(I[B)V"⟩
def RJ3 : String := "jdk/internal/util/Preconditions"
def TJ3 : u_T := fun k => match k with
  | _ => ("", "", "", false)
def tyJ3 : Nat → FieldType := fun k => match k with
  | _ => .int
abbrev wsJ30 : List Cond := u_ws RJ3 TJ3 0
theorem nmJ3 : ∀ a, a < 0 → ∀ b, b < 0 → a ≠ b → (TJ3 a).2.1 ≠ (TJ3 b).2.1 := by decide +kernel
theorem tyJ3_ok : ∀ k, k < 0 → parseFieldDescriptor (TJ3 k).2.2.1 = some (tyJ3 k) := by decide +kernel
abbrev cJ3_checkIndex_8e157 : ByteArray := prog_19_method_11_code
def yJ3_checkIndex_8e157 : MethodName := ⟨RJ3, "checkIndex", "(IILjava/util/function/BiFunction;)I"⟩
def RL : String := "NewsDraughtsLaw"
abbrev cL_law : ByteArray := code
def yL_law : MethodName := ⟨RL, "law", "([I)Z"⟩
def wsL_law_r1 : List Cond := [Cond.classLink RL 7 RX10, Cond.instantiable RX10 12, Cond.initialized RX10, Cond.classLink RL 10 RX11, Cond.instantiable RX11 32, Cond.initialized RX11, Cond.methodLink RL 9 yX10_init, Cond.instanceMethod yX10_init, Cond.code yX10_init cX10_init 2 none, Cond.methodLink RX10 1 objectInit, Cond.instanceMethod objectInit, Cond.code objectInit ⟨#[0xb1]⟩ 1 none, Cond.classLink RX10 7 RX7, Cond.instantiable RX7 2, Cond.initialized RX7, Cond.fieldLink RX10 10 "NewsDraughts" "sheet" "LNewsDraughts$Sheet;", Cond.classLink RX10 16 RX6, Cond.instantiable RX6 3, Cond.initialized RX6, Cond.fieldLink RX10 21 "NewsDraughts" "reader" "LNewsDraughts$Reader;", Cond.classLink RX10 25 RX4, Cond.instantiable RX4 13, Cond.initialized RX4, Cond.fieldLink RX10 28 "NewsDraughts" "draft" "LNewsDraughts$Parish;"]
def wsL_law_r2 : List Cond := [Cond.fieldLink RX10 32 "NewsDraughts" "parish" "LNewsDraughts$Parish;", Cond.classLink RX10 35 RX9, Cond.instantiable RX9 3, Cond.initialized RX9, Cond.fieldLink RX10 38 "NewsDraughts" "now" "LNewsDraughts$Standing;", Cond.classLink RX10 42 RX5, Cond.instantiable RX5 3, Cond.initialized RX5, Cond.fieldLink RX10 47 "NewsDraughts" "undone" "LNewsDraughts$Pile;", Cond.fieldLink RX10 51 "NewsDraughts" "kept" "LNewsDraughts$Pile;", Cond.classLink RX10 54 RX1, Cond.instantiable RX1 12, Cond.initialized RX1, Cond.fieldLink RX10 59 "NewsDraughts" "draught" "LNewsDraughts$Draught;", Cond.classLink RX10 63 RX3, Cond.instantiable RX3 3, Cond.initialized RX3, Cond.fieldLink RX10 68 "NewsDraughts" "outlook" "LNewsDraughts$Outlook;", Cond.classLink RX10 72 RX2, Cond.instantiable RX2 9, Cond.initialized RX2, Cond.fieldLink RX10 75 "NewsDraughts" "ways" "LNewsDraughts$Openings;", Cond.classLink RX10 79 RX0, Cond.instantiable RX0 4]
def wsL_law_r3 : List Cond := [Cond.initialized RX0, Cond.fieldLink RX10 84 "NewsDraughts" "chances" "LNewsDraughts$Chances;", Cond.classLink RX10 88 RX8, Cond.instantiable RX8 7, Cond.initialized RX8, Cond.fieldLink RX10 91 "NewsDraughts" "sightings" "LNewsDraughts$Sightings;", Cond.instanceMethod yX7_init, Cond.code yX7_init cX7_init 1 none, Cond.methodLink RX7 3 objectInit, Cond.arrayClass .int, Cond.fieldLink RX7 9 "NewsDraughts$Sheet" "letters" "[I", Cond.fieldLink RX7 15 "NewsDraughts$Sheet" "length" "I", Cond.methodLink RX10 18 yX6_init, Cond.instanceMethod yX6_init, Cond.code yX6_init cX6_init 2 none, Cond.methodLink RX6 3 objectInit, Cond.fieldLink RX6 9 "NewsDraughts$Reader" "numbers" "[I", Cond.fieldLink RX6 15 "NewsDraughts$Reader" "place" "I", Cond.fieldLink RX6 19 "NewsDraughts$Reader" "sheet" "LNewsDraughts$Sheet;", Cond.instanceMethod yX4_init, Cond.code yX4_init cX4_init 1 none, Cond.methodLink RX4 3 objectInit, Cond.fieldLink RX4 9 "NewsDraughts$Parish" "kinds" "[I", Cond.fieldLink RX4 15 "NewsDraughts$Parish" "sashes" "[I"]
def wsL_law_r4 : List Cond := [Cond.fieldLink RX4 18 "NewsDraughts$Parish" "newsKinds" "[I", Cond.fieldLink RX4 21 "NewsDraughts$Parish" "weights" "[I", Cond.fieldLink RX4 24 "NewsDraughts$Parish" "beginnings" "[I", Cond.fieldLink RX4 27 "NewsDraughts$Parish" "winds" "[I", Cond.fieldLink RX4 30 "NewsDraughts$Parish" "rows" "I", Cond.fieldLink RX4 34 "NewsDraughts$Parish" "columns" "I", Cond.fieldLink RX4 37 "NewsDraughts$Parish" "firstColumn" "I", Cond.fieldLink RX4 40 "NewsDraughts$Parish" "lastColumn" "I", Cond.fieldLink RX4 43 "NewsDraughts$Parish" "newsTold" "I", Cond.fieldLink RX4 46 "NewsDraughts$Parish" "windsTold" "I", Cond.fieldLink RX4 49 "NewsDraughts$Parish" "gridsAlone" "Z", Cond.instanceMethod yX9_init, Cond.code yX9_init cX9_init 1 none, Cond.methodLink RX9 3 objectInit, Cond.fieldLink RX9 9 "NewsDraughts$Standing" "sashes" "[I", Cond.fieldLink RX9 15 "NewsDraughts$Standing" "whoKnows" "[I", Cond.fieldLink RX9 18 "NewsDraughts$Standing" "stepsGone" "I", Cond.methodLink RX10 44 yX5_init, Cond.instanceMethod yX5_init, Cond.code yX5_init cX5_init 3 none, Cond.methodLink RX5 1 objectInit, Cond.fieldLink RX5 7 "NewsDraughts$Pile" "lowest" "I", Cond.fieldLink RX5 13 "NewsDraughts$Pile" "size" "I", Cond.classLink RX5 16 RX9]
def wsL_law_r5 : List Cond := [Cond.fieldLink RX5 18 "NewsDraughts$Pile" "places" "[LNewsDraughts$Standing;", Cond.methodLink RX10 56 yX1_init, Cond.instanceMethod yX1_init, Cond.code yX1_init cX1_init 3 none, Cond.methodLink RX1 3 objectInit, Cond.fieldLink RX1 9 "NewsDraughts$Draught" "sashes" "[I", Cond.fieldLink RX1 15 "NewsDraughts$Draught" "needed" "[I", Cond.fieldLink RX1 18 "NewsDraughts$Draught" "whoKnows" "I", Cond.fieldLink RX1 22 "NewsDraughts$Draught" "gossips" "I", Cond.fieldLink RX1 25 "NewsDraughts$Draught" "talkers" "I", Cond.fieldLink RX1 28 "NewsDraughts$Draught" "openToGossips" "I", Cond.fieldLink RX1 31 "NewsDraughts$Draught" "openToTalkers" "I", Cond.fieldLink RX1 34 "NewsDraughts$Draught" "columns" "I", Cond.fieldLink RX1 37 "NewsDraughts$Draught" "firstColumn" "I", Cond.fieldLink RX1 40 "NewsDraughts$Draught" "lastColumn" "I", Cond.fieldLink RX1 43 "NewsDraughts$Draught" "parish" "LNewsDraughts$Parish;", Cond.fieldLink RX1 47 "NewsDraughts$Draught" "now" "LNewsDraughts$Standing;", Cond.methodLink RX10 65 yX3_init, Cond.instanceMethod yX3_init, Cond.code yX3_init cX3_init 4 none, Cond.methodLink RX3 3 objectInit, Cond.fieldLink RX3 9 "NewsDraughts$Outlook" "parish" "LNewsDraughts$Parish;", Cond.fieldLink RX3 15 "NewsDraughts$Outlook" "now" "LNewsDraughts$Standing;", Cond.fieldLink RX3 19 "NewsDraughts$Outlook" "draught" "LNewsDraughts$Draught;"]
def wsL_law_r6 : List Cond := [Cond.methodLink RX10 74 yX2_init, Cond.instanceMethod yX2_init, Cond.code yX2_init cX2_init 4 none, Cond.methodLink RX2 3 objectInit, Cond.fieldLink RX2 9 "NewsDraughts$Openings" "steps" "I", Cond.fieldLink RX2 15 "NewsDraughts$Openings" "shallKnow" "I", Cond.fieldLink RX2 18 "NewsDraughts$Openings" "shallNot" "I", Cond.fieldLink RX2 21 "NewsDraughts$Openings" "opened" "I", Cond.fieldLink RX2 24 "NewsDraughts$Openings" "first" "I", Cond.fieldLink RX2 27 "NewsDraughts$Openings" "second" "I", Cond.fieldLink RX2 30 "NewsDraughts$Openings" "parish" "LNewsDraughts$Parish;", Cond.fieldLink RX2 34 "NewsDraughts$Openings" "now" "LNewsDraughts$Standing;", Cond.fieldLink RX2 38 "NewsDraughts$Openings" "draught" "LNewsDraughts$Draught;", Cond.methodLink RX10 81 yX0_init, Cond.instanceMethod yX0_init, Cond.code yX0_init cX0_init 3 none, Cond.methodLink RX0 3 objectInit, Cond.fieldLink RX0 9 "NewsDraughts$Chances" "housesThatKnow" "I", Cond.fieldLink RX0 15 "NewsDraughts$Chances" "timesHeard" "I", Cond.fieldLink RX0 18 "NewsDraughts$Chances" "parish" "LNewsDraughts$Parish;", Cond.fieldLink RX0 22 "NewsDraughts$Chances" "draught" "LNewsDraughts$Draught;", Cond.methodLink RX10 90 yX8_init, Cond.instanceMethod yX8_init, Cond.code yX8_init cX8_init 3 none]
def wsL_law_r7 : List Cond := [Cond.methodLink RX8 3 objectInit, Cond.fieldLink RX8 9 "NewsDraughts$Sightings" "houses" "[I", Cond.fieldLink RX8 15 "NewsDraughts$Sightings" "news" "[I", Cond.fieldLink RX8 18 "NewsDraughts$Sightings" "times" "[I", Cond.fieldLink RX8 21 "NewsDraughts$Sightings" "knows" "[I", Cond.fieldLink RX8 24 "NewsDraughts$Sightings" "size" "I", Cond.fieldLink RX8 28 "NewsDraughts$Sightings" "parish" "LNewsDraughts$Parish;", Cond.fieldLink RX8 32 "NewsDraughts$Sightings" "draught" "LNewsDraughts$Draught;", Cond.methodLink RX10 97 yJ0_length_8abf5, Cond.instanceMethod yJ0_length_8abf5, Cond.selects RJ0 yJ0_length_8abf5 yJ0_length_8abf5, Cond.initialized RJ0, Cond.code yJ0_length_8abf5 cJ0_length_8abf5 1 (some .int), Cond.fieldLink RJ0 9 "java/lang/String" "value" "[B", Cond.methodLink RJ0 335 yJ0_coder_7d493, Cond.instanceMethod yJ0_coder_7d493, Cond.selects RJ0 yJ0_coder_7d493 yJ0_coder_7d493, Cond.code yJ0_coder_7d493 cJ0_coder_7d493 1 (some .byte), Cond.fieldLink RJ0 38 "java/lang/String" "COMPACT_STRINGS" "Z", Cond.fieldLink RJ0 15 "java/lang/String" "coder" "B", Cond.methodLink RX10 103 yJ0_charAt_5068e, Cond.instanceMethod yJ0_charAt_5068e, Cond.selects RJ0 yJ0_charAt_5068e yJ0_charAt_5068e, Cond.code yJ0_charAt_5068e cJ0_charAt_5068e 2 (some .char)]
def wsL_law_r8 : List Cond := [Cond.methodLink RJ0 492 yJ0_isLatin1_aae02, Cond.instanceMethod yJ0_isLatin1_aae02, Cond.selects RJ0 yJ0_isLatin1_aae02 yJ0_isLatin1_aae02, Cond.code yJ0_isLatin1_aae02 cJ0_isLatin1_aae02 1 (some .boolean), Cond.methodLink RJ0 495 yJ1_charAt_3b067, Cond.static yJ1_charAt_3b067, Cond.initialized RJ1, Cond.code yJ1_charAt_3b067 cJ1_charAt_3b067 2 (some .char), Cond.methodLink RJ1 9 yJ0_checkIndex_df160, Cond.static yJ0_checkIndex_df160, Cond.code yJ0_checkIndex_df160 cJ0_checkIndex_df160 2 none, Cond.fieldLink RJ0 1053 "jdk/internal/util/Preconditions" "SIOOBE_FORMATTER" "Ljava/util/function/BiFunction;", Cond.methodLink RJ0 1059 yJ3_checkIndex_8e157, Cond.static yJ3_checkIndex_8e157, Cond.initialized RJ3, Cond.code yJ3_checkIndex_8e157 cJ3_checkIndex_8e157 3 (some .int), Cond.methodLink RJ0 498 yJ2_charAt_3b067, Cond.static yJ2_charAt_3b067, Cond.initialized RJ2, Cond.code yJ2_charAt_3b067 cJ2_charAt_3b067 2 (some .char), Cond.methodLink RJ2 67 yJ2_checkIndex_2214a, Cond.static yJ2_checkIndex_2214a, Cond.code yJ2_checkIndex_2214a cJ2_checkIndex_2214a 2 none, Cond.methodLink RJ2 48 yJ2_length_9d52b]
def wsL_law_r9 : List Cond := [Cond.static yJ2_length_9d52b, Cond.code yJ2_length_9d52b cJ2_length_9d52b 1 (some .int), Cond.methodLink RJ2 414 yJ0_checkIndex_df160, Cond.methodLink RJ2 71 yJ2_getChar_3b067, Cond.static yJ2_getChar_3b067, Cond.code yJ2_getChar_3b067 cJ2_getChar_3b067 2 (some .char), Cond.fieldLink RJ2 44 "java/lang/StringUTF16" "$assertionsDisabled" "Z", Cond.fieldLink RJ2 59 "java/lang/StringUTF16" "HI_BYTE_SHIFT" "I", Cond.fieldLink RJ2 63 "java/lang/StringUTF16" "LO_BYTE_SHIFT" "I", Cond.methodLink RX10 107 yX7_add, Cond.instanceMethod yX7_add, Cond.selects RX7 yX7_add yX7_add, Cond.code yX7_add cX7_add 2 (some .boolean), Cond.static yX10_put, Cond.code yX10_put cX10_put 3 none, Cond.methodLink RX10 111 yX10_layText, Cond.instanceMethod yX10_layText, Cond.selects RX10 yX10_layText yX10_layText, Cond.code yX10_layText cX10_layText 1 (some .boolean), Cond.methodLink RX10 123 yX6_readInto, Cond.instanceMethod yX6_readInto, Cond.selects RX6 yX6_readInto yX6_readInto, Cond.code yX6_readInto cX6_readInto 5 (some .int), Cond.methodLink RX6 23 yX4_clear]
def wsL_law_r10 : List Cond := [Cond.instanceMethod yX4_clear, Cond.selects RX4 yX4_clear yX4_clear, Cond.code yX4_clear cX4_clear 1 none, Cond.static yX10_fill, Cond.code yX10_fill cX10_fill 3 none, Cond.methodLink RX4 57 yX4_takeGrid, Cond.instanceMethod yX4_takeGrid, Cond.selects RX4 yX4_takeGrid yX4_takeGrid, Cond.code yX4_takeGrid cX4_takeGrid 4 (some .boolean), Cond.static yX10_within, Cond.code yX10_within cX10_within 3 (some .boolean), Cond.static yX10_bit, Cond.code yX10_bit cX10_bit 1 (some .int), Cond.methodLink RX6 28 yX7_length, Cond.instanceMethod yX7_length, Cond.selects RX7 yX7_length yX7_length, Cond.code yX7_length cX7_length 1 (some .int), Cond.methodLink RX6 34 yX6_readNumbers, Cond.instanceMethod yX6_readNumbers, Cond.selects RX6 yX6_readNumbers yX6_readNumbers, Cond.code yX6_readNumbers cX6_readNumbers 4 (some .int), Cond.methodLink RX6 45 yX6_readNumber, Cond.instanceMethod yX6_readNumber, Cond.selects RX6 yX6_readNumber yX6_readNumber]
def wsL_law_r11 : List Cond := [Cond.code yX6_readNumber cX6_readNumber 3 (some .int), Cond.methodLink RX6 37 yX7_letterAt, Cond.instanceMethod yX7_letterAt, Cond.selects RX7 yX7_letterAt yX7_letterAt, Cond.code yX7_letterAt cX7_letterAt 2 (some .int), Cond.static yX10_at, Cond.code yX10_at cX10_at 2 (some .int), Cond.methodLink RX6 52 yX6_isFigure, Cond.static yX6_isFigure, Cond.code yX6_isFigure cX6_isFigure 1 (some .boolean), Cond.methodLink RX6 41 yX4_take, Cond.instanceMethod yX4_take, Cond.selects RX4 yX4_take yX4_take, Cond.code yX4_take cX4_take 7 (some .boolean), Cond.methodLink RX4 65 yX4_takeHouse, Cond.instanceMethod yX4_takeHouse, Cond.selects RX4 yX4_takeHouse yX4_takeHouse, Cond.code yX4_takeHouse cX4_takeHouse 4 (some .boolean), Cond.methodLink RX4 83 yX4_hasHouse, Cond.instanceMethod yX4_hasHouse, Cond.selects RX4 yX4_hasHouse yX4_hasHouse, Cond.code yX4_hasHouse cX4_hasHouse 2 (some .boolean), Cond.methodLink RX4 93 yX4_houses, Cond.instanceMethod yX4_houses]
def wsL_law_r12 : List Cond := [Cond.selects RX4 yX4_houses yX4_houses, Cond.code yX4_houses cX4_houses 1 (some .int), Cond.static yX10_isWidth, Cond.code yX10_isWidth cX10_isWidth 1 (some .boolean), Cond.methodLink RX10 118 yX10_within, Cond.methodLink RX4 69 yX4_takeNews, Cond.instanceMethod yX4_takeNews, Cond.selects RX4 yX4_takeNews yX4_takeNews, Cond.code yX4_takeNews cX4_takeNews 4 (some .boolean), Cond.methodLink RX4 72 yX4_takeWind, Cond.instanceMethod yX4_takeWind, Cond.selects RX4 yX4_takeWind yX4_takeWind, Cond.code yX4_takeWind cX4_takeWind 2 (some .boolean), Cond.methodLink RX10 173 yX4_newsTold, Cond.instanceMethod yX4_newsTold, Cond.selects RX4 yX4_newsTold yX4_newsTold, Cond.code yX4_newsTold cX4_newsTold 1 (some .int), Cond.methodLink RX10 293 yX9_begin, Cond.instanceMethod yX9_begin, Cond.selects RX9 yX9_begin yX9_begin, Cond.code yX9_begin cX9_begin 3 none, Cond.methodLink RX9 22 yX4_sashOf, Cond.instanceMethod yX4_sashOf, Cond.selects RX4 yX4_sashOf yX4_sashOf]
def wsL_law_r13 : List Cond := [Cond.code yX4_sashOf cX4_sashOf 2 (some .int), Cond.methodLink RX9 32 yX4_hasNews, Cond.instanceMethod yX4_hasNews, Cond.selects RX4 yX4_hasNews yX4_hasNews, Cond.code yX4_hasNews cX4_hasNews 2 (some .boolean), Cond.methodLink RX9 36 yX4_beginningOf, Cond.instanceMethod yX4_beginningOf, Cond.selects RX4 yX4_beginningOf yX4_beginningOf, Cond.code yX4_beginningOf cX4_beginningOf 2 (some .int), Cond.methodLink RX10 283 yX5_clear, Cond.instanceMethod yX5_clear, Cond.selects RX5 yX5_clear yX5_clear, Cond.code yX5_clear cX5_clear 1 none, Cond.methodLink RX10 258 yX8_clear, Cond.instanceMethod yX8_clear, Cond.selects RX8 yX8_clear yX8_clear, Cond.code yX8_clear cX8_clear 1 none, Cond.methodLink RX10 115 yX7_clear, Cond.instanceMethod yX7_clear, Cond.selects RX7 yX7_clear yX7_clear, Cond.code yX7_clear cX7_clear 1 none, Cond.methodLink RL 12 yX11_init, Cond.instanceMethod yX11_init, Cond.code yX11_init cX11_init 1 none]
def wsL_law_r14 : List Cond := [Cond.methodLink RX11 1 objectInit, Cond.fieldLink RX11 7 "NewsDraughtsModel" "kinds" "[I", Cond.fieldLink RX11 13 "NewsDraughtsModel" "news" "[I", Cond.fieldLink RX11 16 "NewsDraughtsModel" "winds" "[I", Cond.fieldLink RX11 19 "NewsDraughtsModel" "st" "[I", Cond.fieldLink RX11 22 "NewsDraughtsModel" "was" "[I", Cond.fieldLink RX11 25 "NewsDraughtsModel" "kept" "[I", Cond.fieldLink RX11 28 "NewsDraughtsModel" "seen" "[I", Cond.fieldLink RX11 31 "NewsDraughtsModel" "text" "[I", Cond.fieldLink RX11 34 "NewsDraughtsModel" "told" "[I", Cond.fieldLink RX11 37 "NewsDraughtsModel" "readKind" "[I", Cond.fieldLink RX11 40 "NewsDraughtsModel" "readOpen" "[I", Cond.fieldLink RX11 43 "NewsDraughtsModel" "readNews" "[I", Cond.fieldLink RX11 46 "NewsDraughtsModel" "readWind" "[I", Cond.fieldLink RX11 49 "NewsDraughtsModel" "now" "[I", Cond.fieldLink RX11 62 "NewsDraughtsModel" "readWinds" "I", Cond.methodLink RX11 52 yX11_clearTold, Cond.instanceMethod yX11_clearTold, Cond.selects RX11 yX11_clearTold yX11_clearTold, Cond.code yX11_clearTold cX11_clearTold 2 none, Cond.fieldLink RX11 96 "NewsDraughtsModel" "isBegun" "Z", Cond.fieldLink RX11 100 "NewsDraughtsModel" "readRows" "I", Cond.fieldLink RX11 103 "NewsDraughtsModel" "readColumns" "I", Cond.fieldLink RX11 69 "NewsDraughtsModel" "readNewsMany" "I"]
def wsL_law_r15 : List Cond := [Cond.methodLink RX11 55 yX11_tellsHouse, Cond.instanceMethod yX11_tellsHouse, Cond.selects RX11 yX11_tellsHouse yX11_tellsHouse, Cond.code yX11_tellsHouse cX11_tellsHouse 4 none, Cond.methodLink RX11 59 yX11_tellsNews, Cond.instanceMethod yX11_tellsNews, Cond.selects RX11 yX11_tellsNews yX11_tellsNews, Cond.code yX11_tellsNews cX11_tellsNews 4 none, Cond.methodLink RX11 66 yX11_settles, Cond.instanceMethod yX11_settles, Cond.selects RX11 yX11_settles yX11_settles, Cond.code yX11_settles cX11_settles 2 none, Cond.fieldLink RX11 135 "NewsDraughtsModel" "rows" "I", Cond.fieldLink RX11 138 "NewsDraughtsModel" "columns" "I", Cond.fieldLink RX11 72 "NewsDraughtsModel" "houses" "I", Cond.fieldLink RX11 79 "NewsDraughtsModel" "newsMany" "I", Cond.fieldLink RX11 145 "NewsDraughtsModel" "windMany" "I", Cond.fieldLink RX11 148 "NewsDraughtsModel" "acts" "I", Cond.fieldLink RX11 151 "NewsDraughtsModel" "keeps" "I", Cond.fieldLink RX11 154 "NewsDraughtsModel" "sees" "I", Cond.methodLink RX11 141 yX11_copies, Cond.static yX11_copies, Cond.code yX11_copies cX11_copies 6 none, Cond.methodLink RL 13 yX10_write]
def wsL_law_r16 : List Cond := [Cond.instanceMethod yX10_write, Cond.selects RX10 yX10_write yX10_write, Cond.code yX10_write cX10_write 2 (some .int), Cond.methodLink RX10 122 yX7_length, Cond.methodLink RL 17 yX11_write, Cond.instanceMethod yX11_write, Cond.selects RX11 yX11_write yX11_write, Cond.code yX11_write cX11_write 2 (some .int), Cond.fieldLink RX11 82 "NewsDraughtsModel" "texted" "I", Cond.methodLink RX11 75 yX11_in, Cond.static yX11_in, Cond.code yX11_in cX11_in 3 (some .boolean), Cond.methodLink RL 18 yX10_wipe, Cond.instanceMethod yX10_wipe, Cond.selects RX10 yX10_wipe yX10_wipe, Cond.code yX10_wipe cX10_wipe 2 (some .int), Cond.methodLink RL 22 yX11_wipe, Cond.instanceMethod yX11_wipe, Cond.selects RX11 yX11_wipe yX11_wipe, Cond.code yX11_wipe cX11_wipe 2 (some .int), Cond.methodLink RL 23 yX10_fault, Cond.instanceMethod yX10_fault, Cond.selects RX10 yX10_fault yX10_fault, Cond.code yX10_fault cX10_fault 1 (some .int)]
def wsL_law_r17 : List Cond := [Cond.methodLink RL 26 yX11_fault, Cond.instanceMethod yX11_fault, Cond.selects RX11 yX11_fault yX11_fault, Cond.code yX11_fault cX11_fault 2 (some .int), Cond.fieldLink RX11 85 "NewsDraughtsModel" "at" "I", Cond.methodLink RX11 129 yX11_readItem, Cond.instanceMethod yX11_readItem, Cond.selects RX11 yX11_readItem yX11_readItem, Cond.code yX11_readItem cX11_readItem 2 (some .boolean), Cond.methodLink RX11 88 yX11_letterAt, Cond.instanceMethod yX11_letterAt, Cond.selects RX11 yX11_letterAt yX11_letterAt, Cond.code yX11_letterAt cX11_letterAt 2 (some .int), Cond.methodLink RX11 116 yX11_readGridOf, Cond.instanceMethod yX11_readGridOf, Cond.selects RX11 yX11_readGridOf yX11_readGridOf, Cond.code yX11_readGridOf cX11_readGridOf 1 (some .boolean), Cond.methodLink RX11 106 yX11_readNumbers, Cond.instanceMethod yX11_readNumbers, Cond.selects RX11 yX11_readNumbers yX11_readNumbers, Cond.code yX11_readNumbers cX11_readNumbers 3 (some .boolean), Cond.methodLink RX11 92 yX11_isFigure, Cond.static yX11_isFigure, Cond.code yX11_isFigure cX11_isFigure 1 (some .boolean)]
def wsL_law_r18 : List Cond := [Cond.methodLink RX11 109 yX11_isTold, Cond.instanceMethod yX11_isTold, Cond.selects RX11 yX11_isTold yX11_isTold, Cond.code yX11_isTold cX11_isTold 4 (some .boolean), Cond.methodLink RX11 120 yX11_readHouseOf, Cond.instanceMethod yX11_readHouseOf, Cond.selects RX11 yX11_readHouseOf yX11_readHouseOf, Cond.code yX11_readHouseOf cX11_readHouseOf 1 (some .boolean), Cond.methodLink RX11 112 yX11_lastTold, Cond.instanceMethod yX11_lastTold, Cond.selects RX11 yX11_lastTold yX11_lastTold, Cond.code yX11_lastTold cX11_lastTold 1 (some .int), Cond.methodLink RX11 123 yX11_readNewsOf, Cond.instanceMethod yX11_readNewsOf, Cond.selects RX11 yX11_readNewsOf yX11_readNewsOf, Cond.code yX11_readNewsOf cX11_readNewsOf 1 (some .boolean), Cond.methodLink RX11 126 yX11_readWindOf, Cond.instanceMethod yX11_readWindOf, Cond.selects RX11 yX11_readWindOf yX11_readWindOf, Cond.code yX11_readWindOf cX11_readWindOf 1 (some .boolean), Cond.methodLink RL 27 yX10_lay, Cond.instanceMethod yX10_lay, Cond.selects RX10 yX10_lay yX10_lay, Cond.code yX10_lay cX10_lay 1 (some .int)]
def wsL_law_r19 : List Cond := [Cond.methodLink RX10 127 yX4_houses, Cond.methodLink RL 30 yX11_lay, Cond.instanceMethod yX11_lay, Cond.selects RX11 yX11_lay yX11_lay, Cond.code yX11_lay cX11_lay 1 (some .int), Cond.methodLink RX11 132 yX11_fault, Cond.methodLink RL 31 yX10_house, Cond.instanceMethod yX10_house, Cond.selects RX10 yX10_house yX10_house, Cond.code yX10_house cX10_house 3 (some .int), Cond.methodLink RX10 130 yX4_hasHouse, Cond.methodLink RX10 133 yX4_kindOf, Cond.instanceMethod yX4_kindOf, Cond.selects RX4 yX4_kindOf yX4_kindOf, Cond.code yX4_kindOf cX4_kindOf 2 (some .int), Cond.methodLink RX10 137 yX9_sashOf, Cond.instanceMethod yX9_sashOf, Cond.selects RX9 yX9_sashOf yX9_sashOf, Cond.code yX9_sashOf cX9_sashOf 2 (some .int), Cond.methodLink RX10 140 yX9_knownIn, Cond.instanceMethod yX9_knownIn, Cond.selects RX9 yX9_knownIn yX9_knownIn, Cond.code yX9_knownIn cX9_knownIn 4 (some .int), Cond.methodLink RX9 50 yX9_whoKnows]
def wsL_law_r20 : List Cond := [Cond.instanceMethod yX9_whoKnows, Cond.selects RX9 yX9_whoKnows yX9_whoKnows, Cond.code yX9_whoKnows cX9_whoKnows 2 (some .int), Cond.static yX10_holds, Cond.code yX10_holds cX10_holds 2 (some .boolean), Cond.methodLink RX10 202 yX10_bit, Cond.methodLink RL 35 yX11_house, Cond.instanceMethod yX11_house, Cond.selects RX11 yX11_house yX11_house, Cond.code yX11_house cX11_house 3 (some .int), Cond.methodLink RX11 188 yX11_isHouse, Cond.instanceMethod yX11_isHouse, Cond.selects RX11 yX11_isHouse yX11_isHouse, Cond.code yX11_isHouse cX11_isHouse 2 (some .boolean), Cond.methodLink RX11 160 yX11_asItIs, Cond.instanceMethod yX11_asItIs, Cond.selects RX11 yX11_asItIs yX11_asItIs, Cond.code yX11_asItIs cX11_asItIs 1 none, Cond.fieldLink RX11 157 "NewsDraughtsModel" "only" "I", Cond.methodLink RX11 191 yX11_known, Cond.instanceMethod yX11_known, Cond.selects RX11 yX11_known yX11_known, Cond.code yX11_known cX11_known 4 (some .int), Cond.methodLink RX11 167 yX11_has]
def wsL_law_r21 : List Cond := [Cond.static yX11_has, Cond.code yX11_has cX11_has 2 (some .boolean), Cond.methodLink RL 36 yX10_news, Cond.instanceMethod yX10_news, Cond.selects RX10 yX10_news yX10_news, Cond.code yX10_news cX10_news 3 (some .int), Cond.methodLink RX10 143 yX4_hasNews, Cond.methodLink RX10 146 yX4_newsKindOf, Cond.instanceMethod yX4_newsKindOf, Cond.selects RX4 yX4_newsKindOf yX4_newsKindOf, Cond.code yX4_newsKindOf cX4_newsKindOf 2 (some .int), Cond.methodLink RX10 149 yX4_weightOf, Cond.instanceMethod yX4_weightOf, Cond.selects RX4 yX4_weightOf yX4_weightOf, Cond.code yX4_weightOf cX4_weightOf 2 (some .int), Cond.methodLink RX10 152 yX4_beginningOf, Cond.methodLink RX10 155 yX9_whoKnows, Cond.methodLink RX10 158 yJ6_bitCount_0f7a4, Cond.static yJ6_bitCount_0f7a4, Cond.initialized RJ6, Cond.code yJ6_bitCount_0f7a4 cJ6_bitCount_0f7a4 1 (some .int), Cond.constant RJ6 265 (1431655765), Cond.constant RJ6 266 (858993459), Cond.constant RJ6 267 (252645135)]
def wsL_law_r22 : List Cond := [Cond.methodLink RL 39 yX11_news, Cond.instanceMethod yX11_news, Cond.selects RX11 yX11_news yX11_news, Cond.code yX11_news cX11_news 3 (some .int), Cond.methodLink RX11 194 yX11_isNews, Cond.instanceMethod yX11_isNews, Cond.selects RX11 yX11_isNews yX11_isNews, Cond.code yX11_isNews cX11_isNews 2 (some .boolean), Cond.methodLink RX11 197 yX11_bits, Cond.static yX11_bits, Cond.code yX11_bits cX11_bits 3 (some .int), Cond.methodLink RL 40 yX10_wind, Cond.instanceMethod yX10_wind, Cond.selects RX10 yX10_wind yX10_wind, Cond.code yX10_wind cX10_wind 2 (some .int), Cond.methodLink RX10 163 yX9_stepsGone, Cond.instanceMethod yX9_stepsGone, Cond.selects RX9 yX9_stepsGone yX9_stepsGone, Cond.code yX9_stepsGone cX9_stepsGone 1 (some .int), Cond.methodLink RX10 166 yX4_windOf, Cond.instanceMethod yX4_windOf, Cond.selects RX4 yX4_windOf yX4_windOf, Cond.code yX4_windOf cX4_windOf 3 (some .int), Cond.methodLink RX4 100 yX4_windsInTurn]
def wsL_law_r23 : List Cond := [Cond.instanceMethod yX4_windsInTurn, Cond.selects RX4 yX4_windsInTurn yX4_windsInTurn, Cond.code yX4_windsInTurn cX4_windsInTurn 1 (some .int), Cond.methodLink RX4 103 yJ9_floorMod_7cf53, Cond.static yJ9_floorMod_7cf53, Cond.initialized RJ9, Cond.code yJ9_floorMod_7cf53 cJ9_floorMod_7cf53 3 (some .int), Cond.methodLink RL 43 yX11_wind, Cond.instanceMethod yX11_wind, Cond.selects RX11 yX11_wind yX11_wind, Cond.code yX11_wind cX11_wind 2 (some .int), Cond.methodLink RX11 181 yX11_windOf, Cond.instanceMethod yX11_windOf, Cond.selects RX11 yX11_windOf yX11_windOf, Cond.code yX11_windOf cX11_windOf 2 (some .int), Cond.methodLink RL 44 yX10_step, Cond.instanceMethod yX10_step, Cond.selects RX10 yX10_step yX10_step, Cond.code yX10_step cX10_step 3 (some .int), Cond.methodLink RX10 169 yX5_push, Cond.instanceMethod yX5_push, Cond.selects RX5 yX5_push yX5_push, Cond.code yX5_push cX5_push 3 none, Cond.methodLink RX5 23 yX5_placeOf]
def wsL_law_r24 : List Cond := [Cond.instanceMethod yX5_placeOf, Cond.selects RX5 yX5_placeOf yX5_placeOf, Cond.code yX5_placeOf cX5_placeOf 3 (some (.object "NewsDraughts$Standing")), Cond.methodLink RX5 35 yJ9_floorMod_7cf53, Cond.methodLink RX5 27 yX9_copyOf, Cond.instanceMethod yX9_copyOf, Cond.selects RX9 yX9_copyOf yX9_copyOf, Cond.code yX9_copyOf cX9_copyOf 2 none, Cond.static yX10_copy, Cond.code yX10_copy cX10_copy 3 none, Cond.methodLink RX10 297 yX10_at, Cond.methodLink RX5 31 yX5_isFull, Cond.instanceMethod yX5_isFull, Cond.selects RX5 yX5_isFull yX5_isFull, Cond.code yX5_isFull cX5_isFull 1 (some .boolean), Cond.methodLink RX10 176 yX1_pick, Cond.instanceMethod yX1_pick, Cond.selects RX1 yX1_pick yX1_pick, Cond.code yX1_pick cX1_pick 6 none, Cond.methodLink RX1 51 yX4_newsKindOf, Cond.methodLink RX1 57 yX9_whoKnows, Cond.methodLink RX1 61 yX4_columns, Cond.instanceMethod yX4_columns, Cond.selects RX4 yX4_columns yX4_columns]
def wsL_law_r25 : List Cond := [Cond.code yX4_columns cX4_columns 1 (some .int), Cond.methodLink RX1 64 yX4_firstColumn, Cond.instanceMethod yX4_firstColumn, Cond.selects RX4 yX4_firstColumn yX4_firstColumn, Cond.code yX4_firstColumn cX4_firstColumn 1 (some .int), Cond.methodLink RX1 66 yX4_lastColumn, Cond.instanceMethod yX4_lastColumn, Cond.selects RX4 yX4_lastColumn yX4_lastColumn, Cond.code yX4_lastColumn cX4_lastColumn 1 (some .int), Cond.methodLink RX1 68 yX4_houses, Cond.methodLink RX1 71 yX4_kindOf, Cond.methodLink RX1 77 yX4_weightOf, Cond.methodLink RX1 84 yX9_sashOf, Cond.methodLink RX1 87 yX1_reopen, Cond.instanceMethod yX1_reopen, Cond.selects RX1 yX1_reopen yX1_reopen, Cond.code yX1_reopen cX1_reopen 3 none, Cond.methodLink RX1 91 yX1_letsInFromTalkers, Cond.instanceMethod yX1_letsInFromTalkers, Cond.selects RX1 yX1_letsInFromTalkers yX1_letsInFromTalkers, Cond.code yX1_letsInFromTalkers cX1_letsInFromTalkers 3 (some .boolean), Cond.methodLink RX1 95 yX1_letsInFromGossips, Cond.instanceMethod yX1_letsInFromGossips, Cond.selects RX1 yX1_letsInFromGossips yX1_letsInFromGossips]
def wsL_law_r26 : List Cond := [Cond.code yX1_letsInFromGossips cX1_letsInFromGossips 3 (some .boolean), Cond.methodLink RX10 179 yX1_whoKnows, Cond.instanceMethod yX1_whoKnows, Cond.selects RX1 yX1_whoKnows yX1_whoKnows, Cond.code yX1_whoKnows cX1_whoKnows 1 (some .int), Cond.methodLink RX10 181 yX1_along, Cond.instanceMethod yX1_along, Cond.selects RX1 yX1_along yX1_along, Cond.code yX1_along cX1_along 9 (some .int), Cond.methodLink RX1 109 yX4_windsInTurn, Cond.methodLink RX1 112 yX9_stepsGone, Cond.methodLink RX1 115 yX4_windOf, Cond.methodLink RX1 118 yX1_onward, Cond.instanceMethod yX1_onward, Cond.selects RX1 yX1_onward yX1_onward, Cond.code yX1_onward cX1_onward 6 (some .int), Cond.methodLink RX10 185 yX9_setWhoKnows, Cond.instanceMethod yX9_setWhoKnows, Cond.selects RX9 yX9_setWhoKnows yX9_setWhoKnows, Cond.code yX9_setWhoKnows cX9_setWhoKnows 3 none, Cond.methodLink RX10 189 yX9_goOn, Cond.instanceMethod yX9_goOn, Cond.selects RX9 yX9_goOn yX9_goOn, Cond.code yX9_goOn cX9_goOn 2 none]
def wsL_law_r27 : List Cond := [Cond.methodLink RL 47 yX11_step, Cond.instanceMethod yX11_step, Cond.selects RX11 yX11_step yX11_step, Cond.code yX11_step cX11_step 2 (some .int), Cond.methodLink RX11 200 yX11_remembers, Cond.instanceMethod yX11_remembers, Cond.selects RX11 yX11_remembers yX11_remembers, Cond.code yX11_remembers cX11_remembers 2 none, Cond.methodLink RX11 203 yX11_goes, Cond.instanceMethod yX11_goes, Cond.selects RX11 yX11_goes yX11_goes, Cond.code yX11_goes cX11_goes 3 none, Cond.methodLink RX11 184 yX11_goesBy, Cond.instanceMethod yX11_goesBy, Cond.selects RX11 yX11_goesBy yX11_goesBy, Cond.code yX11_goesBy cX11_goesBy 6 none, Cond.methodLink RX11 174 yX11_letsOut, Cond.instanceMethod yX11_letsOut, Cond.selects RX11 yX11_letsOut yX11_letsOut, Cond.code yX11_letsOut cX11_letsOut 3 (some .boolean), Cond.methodLink RX11 177 yX11_blowsFrom, Cond.instanceMethod yX11_blowsFrom, Cond.selects RX11 yX11_blowsFrom yX11_blowsFrom, Cond.code yX11_blowsFrom cX11_blowsFrom 6 none]
def wsL_law_r28 : List Cond := [Cond.methodLink RX11 163 yX11_beside, Cond.instanceMethod yX11_beside, Cond.selects RX11 yX11_beside yX11_beside, Cond.code yX11_beside cX11_beside 5 (some .int), Cond.methodLink RX11 171 yX11_letsIn, Cond.instanceMethod yX11_letsIn, Cond.selects RX11 yX11_letsIn yX11_letsIn, Cond.code yX11_letsIn cX11_letsIn 5 (some .boolean), Cond.methodLink RL 48 yX10_open, Cond.instanceMethod yX10_open, Cond.selects RX10 yX10_open yX10_open, Cond.code yX10_open cX10_open 4 (some .int), Cond.methodLink RX10 192 yX10_isWidth, Cond.methodLink RX10 195 yX9_setSash, Cond.instanceMethod yX9_setSash, Cond.selects RX9 yX9_setSash yX9_setSash, Cond.code yX9_setSash cX9_setSash 3 none, Cond.methodLink RL 51 yX11_open, Cond.instanceMethod yX11_open, Cond.selects RX11 yX11_open yX11_open, Cond.code yX11_open cX11_open 4 (some .int), Cond.methodLink RL 52 yX10_tell, Cond.instanceMethod yX10_tell, Cond.selects RX10 yX10_tell yX10_tell]
def wsL_law_r29 : List Cond := [Cond.code yX10_tell cX10_tell 4 (some .int), Cond.methodLink RX10 198 yX10_holds, Cond.methodLink RL 55 yX11_tell, Cond.instanceMethod yX11_tell, Cond.selects RX11 yX11_tell yX11_tell, Cond.code yX11_tell cX11_tell 3 (some .int), Cond.methodLink RL 56 yX10_undo, Cond.instanceMethod yX10_undo, Cond.selects RX10 yX10_undo yX10_undo, Cond.code yX10_undo cX10_undo 1 (some .int), Cond.methodLink RX10 205 yX5_popInto, Cond.instanceMethod yX5_popInto, Cond.selects RX5 yX5_popInto yX5_popInto, Cond.code yX5_popInto cX5_popInto 3 (some .boolean), Cond.methodLink RX10 209 yX5_size, Cond.instanceMethod yX5_size, Cond.selects RX5 yX5_size yX5_size, Cond.code yX5_size cX5_size 1 (some .int), Cond.methodLink RL 59 yX11_undo, Cond.instanceMethod yX11_undo, Cond.selects RX11 yX11_undo yX11_undo, Cond.code yX11_undo cX11_undo 1 (some .int), Cond.methodLink RL 60 yX10_behind, Cond.instanceMethod yX10_behind]
def wsL_law_r30 : List Cond := [Cond.selects RX10 yX10_behind yX10_behind, Cond.code yX10_behind cX10_behind 3 (some .int), Cond.methodLink RX10 212 yX3_knownBehind, Cond.instanceMethod yX3_knownBehind, Cond.selects RX3 yX3_knownBehind yX3_knownBehind, Cond.code yX3_knownBehind cX3_knownBehind 5 (some .int), Cond.methodLink RX3 23 yX4_newsTold, Cond.methodLink RX3 29 yX1_pick, Cond.methodLink RX3 35 yX1_hears, Cond.instanceMethod yX1_hears, Cond.selects RX1 yX1_hears yX1_hears, Cond.code yX1_hears cX1_hears 3 (some .boolean), Cond.methodLink RX1 105 yX1_along, Cond.methodLink RL 63 yX11_behind, Cond.instanceMethod yX11_behind, Cond.selects RX11 yX11_behind yX11_behind, Cond.code yX11_behind cX11_behind 3 (some .int), Cond.methodLink RL 64 yX10_when, Cond.instanceMethod yX10_when, Cond.selects RX10 yX10_when yX10_when, Cond.code yX10_when cX10_when 3 (some .int), Cond.methodLink RX10 216 yX3_firstHeard, Cond.instanceMethod yX3_firstHeard, Cond.selects RX3 yX3_firstHeard yX3_firstHeard]
def wsL_law_r31 : List Cond := [Cond.code yX3_firstHeard cX3_firstHeard 5 (some .int), Cond.methodLink RX3 43 yX1_whoKnows, Cond.methodLink RX3 49 yX1_along, Cond.methodLink RL 67 yX11_when, Cond.instanceMethod yX11_when, Cond.selects RX11 yX11_when yX11_when, Cond.code yX11_when cX11_when 3 (some .int), Cond.methodLink RX11 206 yX11_asItIsOf, Cond.instanceMethod yX11_asItIsOf, Cond.selects RX11 yX11_asItIsOf yX11_asItIsOf, Cond.code yX11_asItIsOf cX11_asItIsOf 2 none, Cond.methodLink RX11 209 yX11_knowsBehind, Cond.instanceMethod yX11_knowsBehind, Cond.selects RX11 yX11_knowsBehind yX11_knowsBehind, Cond.code yX11_knowsBehind cX11_knowsBehind 4 (some .int), Cond.methodLink RL 68 yX10_last, Cond.instanceMethod yX10_last, Cond.selects RX10 yX10_last yX10_last, Cond.code yX10_last cX10_last 4 (some .int), Cond.methodLink RX10 219 yX3_latestHouse, Cond.instanceMethod yX3_latestHouse, Cond.selects RX3 yX3_latestHouse yX3_latestHouse, Cond.code yX3_latestHouse cX3_latestHouse 6 (some .int), Cond.methodLink RX3 53 yX4_houses]
def wsL_law_r32 : List Cond := [Cond.methodLink RX3 56 yX3_firstHeard, Cond.methodLink RL 71 yX11_last, Cond.instanceMethod yX11_last, Cond.selects RX11 yX11_last yX11_last, Cond.code yX11_last cX11_last 8 (some .int), Cond.methodLink RL 72 yX10_cut, Cond.instanceMethod yX10_cut, Cond.selects RX10 yX10_cut yX10_cut, Cond.code yX10_cut cX10_cut 5 (some .int), Cond.methodLink RX10 222 yX3_fewestStuffed, Cond.instanceMethod yX3_fewestStuffed, Cond.selects RX3 yX3_fewestStuffed yX3_fewestStuffed, Cond.code yX3_fewestStuffed cX3_fewestStuffed 7 (some .int), Cond.methodLink RX3 60 yX9_whoKnows, Cond.methodLink RX3 64 yX4_allHouses, Cond.instanceMethod yX4_allHouses, Cond.selects RX4 yX4_allHouses yX4_allHouses, Cond.code yX4_allHouses cX4_allHouses 1 (some .int), Cond.methodLink RX3 67 yJ6_bitCount_0f7a4, Cond.methodLink RX3 72 yX1_stuff, Cond.instanceMethod yX1_stuff, Cond.selects RX1 yX1_stuff yX1_stuff, Cond.code yX1_stuff cX1_stuff 3 none, Cond.methodLink RL 76 yX11_cut]
def wsL_law_r33 : List Cond := [Cond.instanceMethod yX11_cut, Cond.selects RX11 yX11_cut yX11_cut, Cond.code yX11_cut cX11_cut 6 (some .int), Cond.methodLink RX11 212 yX11_isCutBy, Cond.instanceMethod yX11_isCutBy, Cond.selects RX11 yX11_isCutBy yX11_isCutBy, Cond.code yX11_isCutBy cX11_isCutBy 5 (some .boolean), Cond.methodLink RL 77 yX10_openings, Cond.instanceMethod yX10_openings, Cond.selects RX10 yX10_openings yX10_openings, Cond.code yX10_openings cX10_openings 6 (some .int), Cond.methodLink RX10 225 yX4_hasHouses, Cond.instanceMethod yX4_hasHouses, Cond.selects RX4 yX4_hasHouses yX4_hasHouses, Cond.code yX4_hasHouses cX4_hasHouses 2 (some .boolean), Cond.methodLink RX4 97 yX4_allHouses, Cond.methodLink RX10 228 yX2_pose, Cond.instanceMethod yX2_pose, Cond.selects RX2 yX2_pose yX2_pose, Cond.code yX2_pose cX2_pose 5 none, Cond.methodLink RX2 42 yX2_found, Cond.instanceMethod yX2_found, Cond.selects RX2 yX2_found yX2_found, Cond.code yX2_found cX2_found 4 none]
def wsL_law_r34 : List Cond := [Cond.methodLink RX2 46 yX1_pick, Cond.methodLink RX10 232 yX2_isFoundByNone, Cond.instanceMethod yX2_isFoundByNone, Cond.selects RX2 yX2_isFoundByNone yX2_isFoundByNone, Cond.code yX2_isFoundByNone cX2_isFoundByNone 1 (some .boolean), Cond.methodLink RX2 52 yX1_whoKnows, Cond.methodLink RX2 56 yX1_along, Cond.methodLink RX2 60 yX2_isSo, Cond.instanceMethod yX2_isSo, Cond.selects RX2 yX2_isSo yX2_isSo, Cond.code yX2_isSo cX2_isSo 2 (some .boolean), Cond.methodLink RX10 235 yX2_isFoundByOne, Cond.instanceMethod yX2_isFoundByOne, Cond.selects RX2 yX2_isFoundByOne yX2_isFoundByOne, Cond.code yX2_isFoundByOne cX2_isFoundByOne 3 (some .boolean), Cond.methodLink RX2 64 yX4_houses, Cond.methodLink RX2 69 yX2_fittingWidth, Cond.instanceMethod yX2_fittingWidth, Cond.selects RX2 yX2_fittingWidth yX2_fittingWidth, Cond.code yX2_fittingWidth cX2_fittingWidth 4 (some .int), Cond.methodLink RX2 73 yX1_isAnother, Cond.instanceMethod yX1_isAnother, Cond.selects RX1 yX1_isAnother yX1_isAnother, Cond.code yX1_isAnother cX1_isAnother 3 (some .boolean)]
def wsL_law_r35 : List Cond := [Cond.methodLink RX2 77 yX1_reopen, Cond.methodLink RX2 84 yX9_sashOf, Cond.methodLink RX10 238 yX2_findByTwo, Cond.instanceMethod yX2_findByTwo, Cond.selects RX2 yX2_findByTwo yX2_findByTwo, Cond.code yX2_findByTwo cX2_findByTwo 3 none, Cond.methodLink RX2 81 yX2_isFoundWith, Cond.instanceMethod yX2_isFoundWith, Cond.selects RX2 yX2_isFoundWith yX2_isFoundWith, Cond.code yX2_isFoundWith cX2_isFoundWith 5 (some .boolean), Cond.methodLink RX10 241 yX2_answer, Cond.instanceMethod yX2_answer, Cond.selects RX2 yX2_answer yX2_answer, Cond.code yX2_answer cX2_answer 2 (some .int), Cond.methodLink RL 81 yX11_openings, Cond.instanceMethod yX11_openings, Cond.selects RX11 yX11_openings yX11_openings, Cond.code yX11_openings cX11_openings 8 (some .int), Cond.fieldLink RX11 215 "NewsDraughtsModel" "one" "I", Cond.fieldLink RX11 218 "NewsDraughtsModel" "other" "I", Cond.methodLink RX11 225 yX11_findWay, Cond.instanceMethod yX11_findWay, Cond.selects RX11 yX11_findWay yX11_findWay, Cond.code yX11_findWay cX11_findWay 10 (some .boolean)]
def wsL_law_r36 : List Cond := [Cond.methodLink RX11 221 yX11_isSoBy, Cond.instanceMethod yX11_isSoBy, Cond.selects RX11 yX11_isSoBy yX11_isSoBy, Cond.code yX11_isSoBy cX11_isSoBy 5 (some .boolean), Cond.methodLink RL 82 yX10_bears, Cond.instanceMethod yX10_bears, Cond.selects RX10 yX10_bears yX10_bears, Cond.code yX10_bears cX10_bears 3 (some .int), Cond.methodLink RX10 244 yX3_widestBorne, Cond.instanceMethod yX3_widestBorne, Cond.selects RX3 yX3_widestBorne yX3_widestBorne, Cond.code yX3_widestBorne cX3_widestBorne 4 (some .int), Cond.methodLink RX3 75 yX3_burden, Cond.instanceMethod yX3_burden, Cond.selects RX3 yX3_burden yX3_burden, Cond.code yX3_burden cX3_burden 5 (some .int), Cond.methodLink RX3 78 yX1_reopen, Cond.methodLink RX3 82 yX4_weightOf, Cond.methodLink RL 85 yX11_bears, Cond.instanceMethod yX11_bears, Cond.selects RX11 yX11_bears yX11_bears, Cond.code yX11_bears cX11_bears 4 (some .int), Cond.methodLink RX11 229 yX11_heavy, Cond.instanceMethod yX11_heavy]
def wsL_law_r37 : List Cond := [Cond.selects RX11 yX11_heavy yX11_heavy, Cond.code yX11_heavy cX11_heavy 4 (some .int), Cond.methodLink RL 86 yX10_quarrel, Cond.instanceMethod yX10_quarrel, Cond.selects RX10 yX10_quarrel yX10_quarrel, Cond.code yX10_quarrel cX10_quarrel 6 (some .int), Cond.methodLink RX10 247 yX3_bestToOpen, Cond.instanceMethod yX3_bestToOpen, Cond.selects RX3 yX3_bestToOpen yX3_bestToOpen, Cond.code yX3_bestToOpen cX3_bestToOpen 5 (some .int), Cond.methodLink RX3 85 yX3_hearsInSpite, Cond.instanceMethod yX3_hearsInSpite, Cond.selects RX3 yX3_hearsInSpite yX3_hearsInSpite, Cond.code yX3_hearsInSpite cX3_hearsInSpite 8 (some .boolean), Cond.methodLink RX3 96 Lib.Math.min.name, Cond.static Lib.Math.min.name, Cond.initialized "java/lang/Math", Cond.code Lib.Math.min.name Lib.Math.min.code 2 (some .int), Cond.methodLink RX3 102 Lib.Math.max.name, Cond.static Lib.Math.max.name, Cond.code Lib.Math.max.name Lib.Math.max.code 2 (some .int), Cond.methodLink RX3 89 yX4_hasHouse, Cond.methodLink RX3 93 yX9_sashOf, Cond.methodLink RX3 101 yX1_sashOf]
def wsL_law_r38 : List Cond := [Cond.instanceMethod yX1_sashOf, Cond.selects RX1 yX1_sashOf yX1_sashOf, Cond.code yX1_sashOf cX1_sashOf 2 (some .int), Cond.methodLink RX10 250 yX3_hearsInSpite, Cond.methodLink RL 90 yX11_quarrel, Cond.instanceMethod yX11_quarrel, Cond.selects RX11 yX11_quarrel yX11_quarrel, Cond.code yX11_quarrel cX11_quarrel 7 (some .int), Cond.methodLink RX11 235 yX11_isWon, Cond.instanceMethod yX11_isWon, Cond.selects RX11 yX11_isWon yX11_isWon, Cond.code yX11_isWon cX11_isWon 7 (some .boolean), Cond.methodLink RX11 232 yX11_knowsBy, Cond.instanceMethod yX11_knowsBy, Cond.selects RX11 yX11_knowsBy yX11_knowsBy, Cond.code yX11_knowsBy cX11_knowsBy 6 (some .boolean), Cond.methodLink RL 91 yX10_see, Cond.instanceMethod yX10_see, Cond.selects RX10 yX10_see yX10_see, Cond.code yX10_see cX10_see 5 (some .int), Cond.methodLink RX10 254 yX8_add, Cond.instanceMethod yX8_add, Cond.selects RX8 yX8_add yX8_add, Cond.code yX8_add cX8_add 5 (some .boolean)]
def wsL_law_r39 : List Cond := [Cond.methodLink RX10 257 yX8_size, Cond.instanceMethod yX8_size, Cond.selects RX8 yX8_size yX8_size, Cond.code yX8_size cX8_size 1 (some .int), Cond.methodLink RL 95 yX11_see, Cond.instanceMethod yX11_see, Cond.selects RX11 yX11_see yX11_see, Cond.code yX11_see cX11_see 5 (some .int), Cond.methodLink RL 96 yX10_forget, Cond.instanceMethod yX10_forget, Cond.selects RX10 yX10_forget yX10_forget, Cond.code yX10_forget cX10_forget 2 (some .int), Cond.methodLink RL 99 yX11_forget, Cond.instanceMethod yX11_forget, Cond.selects RX11 yX11_forget yX11_forget, Cond.code yX11_forget cX11_forget 2 (some .int), Cond.methodLink RL 100 yX10_began, Cond.instanceMethod yX10_began, Cond.selects RX10 yX10_began yX10_began, Cond.code yX10_began cX10_began 2 (some .int), Cond.methodLink RX10 259 yX8_beginnings, Cond.instanceMethod yX8_beginnings, Cond.selects RX8 yX8_beginnings yX8_beginnings, Cond.code yX8_beginnings cX8_beginnings 4 (some .int)]
def wsL_law_r40 : List Cond := [Cond.methodLink RX8 40 yX4_houses, Cond.methodLink RX8 45 yX8_allSoFrom, Cond.instanceMethod yX8_allSoFrom, Cond.selects RX8 yX8_allSoFrom yX8_allSoFrom, Cond.code yX8_allSoFrom cX8_allSoFrom 4 (some .boolean), Cond.methodLink RX8 53 yX1_pick, Cond.methodLink RX8 63 yX1_along, Cond.methodLink RX8 67 yX8_isSo, Cond.instanceMethod yX8_isSo, Cond.selects RX8 yX8_isSo yX8_isSo, Cond.code yX8_isSo cX8_isSo 3 (some .boolean), Cond.methodLink RL 103 yX11_began, Cond.instanceMethod yX11_began, Cond.selects RX11 yX11_began yX11_began, Cond.code yX11_began cX11_began 4 (some .int), Cond.methodLink RX11 241 yX11_isSoAll, Cond.instanceMethod yX11_isSoAll, Cond.selects RX11 yX11_isSoAll yX11_isSoAll, Cond.code yX11_isSoAll cX11_isSoAll 5 (some .boolean), Cond.methodLink RX11 238 yX11_isSo, Cond.instanceMethod yX11_isSo, Cond.selects RX11 yX11_isSo yX11_isSo, Cond.code yX11_isSo cX11_isSo 5 (some .boolean), Cond.methodLink RL 104 yX10_blew]
def wsL_law_r41 : List Cond := [Cond.instanceMethod yX10_blew, Cond.selects RX10 yX10_blew yX10_blew, Cond.code yX10_blew cX10_blew 1 (some .int), Cond.methodLink RX10 262 yX8_nextWinds, Cond.instanceMethod yX8_nextWinds, Cond.selects RX8 yX8_nextWinds yX8_nextWinds, Cond.code yX8_nextWinds cX8_nextWinds 3 (some .int), Cond.methodLink RX8 70 yX8_allSoBy, Cond.instanceMethod yX8_allSoBy, Cond.selects RX8 yX8_allSoBy yX8_allSoBy, Cond.code yX8_allSoBy cX8_allSoBy 4 (some .boolean), Cond.methodLink RX8 74 yX1_whoKnows, Cond.methodLink RX8 77 yX1_onward, Cond.methodLink RL 107 yX11_blew, Cond.instanceMethod yX11_blew, Cond.selects RX11 yX11_blew yX11_blew, Cond.code yX11_blew cX11_blew 3 (some .int), Cond.methodLink RL 108 yX10_gusts, Cond.instanceMethod yX10_gusts, Cond.selects RX10 yX10_gusts yX10_gusts, Cond.code yX10_gusts cX10_gusts 5 (some .int), Cond.methodLink RX10 265 yX0_gustsThatReach, Cond.instanceMethod yX0_gustsThatReach, Cond.selects RX0 yX0_gustsThatReach yX0_gustsThatReach]
def wsL_law_r42 : List Cond := [Cond.code yX0_gustsThatReach cX0_gustsThatReach 8 (some .int), Cond.methodLink RX0 26 yX1_pick, Cond.methodLink RX0 32 yX0_waysOf, Cond.static yX0_waysOf, Cond.code yX0_waysOf cX0_waysOf 1 (some .int), Cond.methodLink RX0 36 yX1_whoKnows, Cond.methodLink RX0 40 yX1_onward, Cond.methodLink RX10 268 yX0_inLowestTerms, Cond.instanceMethod yX0_inLowestTerms, Cond.selects RX0 yX0_inLowestTerms yX0_inLowestTerms, Cond.code yX0_inLowestTerms cX0_inLowestTerms 7 (some .int), Cond.methodLink RL 111 yX11_gusts, Cond.instanceMethod yX11_gusts, Cond.selects RX11 yX11_gusts yX11_gusts, Cond.code yX11_gusts cX11_gusts 10 (some .int), Cond.methodLink RL 112 yX10_year, Cond.instanceMethod yX10_year, Cond.selects RX10 yX10_year yX10_year, Cond.code yX10_year cX10_year 4 (some .int), Cond.methodLink RX10 271 yX0_runYear, Cond.instanceMethod yX0_runYear, Cond.selects RX0 yX0_runYear yX0_runYear, Cond.code yX0_runYear cX0_runYear 7 none, Cond.methodLink RX0 48 yX4_newsTold]
def wsL_law_r43 : List Cond := [Cond.methodLink RX0 53 yX0_draw, Cond.static yX0_draw, Cond.code yX0_draw cX0_draw 4 (some .int), Cond.constantLong RX0 75 (7919), Cond.constantLong RX0 77 (6151), Cond.constantLong RX0 79 (65521), Cond.constantLong RX0 81 (2), Cond.methodLink RX0 56 yX0_openByDraw, Cond.instanceMethod yX0_openByDraw, Cond.selects RX0 yX0_openByDraw yX0_openByDraw, Cond.code yX0_openByDraw cX0_openByDraw 3 none, Cond.methodLink RX0 68 yX4_houses, Cond.methodLink RX0 71 yX1_reopen, Cond.methodLink RX0 59 yX1_along, Cond.methodLink RX0 63 yJ6_bitCount_0f7a4, Cond.methodLink RX10 274 yX0_housesThatKnow, Cond.instanceMethod yX0_housesThatKnow, Cond.selects RX0 yX0_housesThatKnow yX0_housesThatKnow, Cond.code yX0_housesThatKnow cX0_housesThatKnow 1 (some .int), Cond.methodLink RX10 277 yX0_timesHeard, Cond.instanceMethod yX0_timesHeard, Cond.selects RX0 yX0_timesHeard yX0_timesHeard, Cond.code yX0_timesHeard cX0_timesHeard 1 (some .int), Cond.methodLink RL 115 yX11_year]
def wsL_law_r44 : List Cond := [Cond.instanceMethod yX11_year, Cond.selects RX11 yX11_year yX11_year, Cond.code yX11_year cX11_year 9 (some .int), Cond.constantLong RX11 247 (7919), Cond.constantLong RX11 249 (6151), Cond.constantLong RX11 251 (65521), Cond.constantLong RX11 253 (2), Cond.methodLink RX11 244 yX11_allKnown, Cond.instanceMethod yX11_allKnown, Cond.selects RX11 yX11_allKnown yX11_allKnown, Cond.code yX11_allKnown cX11_allKnown 3 (some .int), Cond.methodLink RX11 255 yX11_knowers, Cond.instanceMethod yX11_knowers, Cond.selects RX11 yX11_knowers yX11_knowers, Cond.code yX11_knowers cX11_knowers 3 (some .int), Cond.methodLink RL 116 yX10_keep, Cond.instanceMethod yX10_keep, Cond.selects RX10 yX10_keep yX10_keep, Cond.code yX10_keep cX10_keep 1 (some .int), Cond.methodLink RX10 280 yX5_isFull, Cond.methodLink RL 119 yX11_keep, Cond.instanceMethod yX11_keep, Cond.selects RX11 yX11_keep yX11_keep, Cond.code yX11_keep cX11_keep 1 (some .int)]
def wsL_law_r45 : List Cond := [Cond.methodLink RL 120 yX10_back, Cond.instanceMethod yX10_back, Cond.selects RX10 yX10_back yX10_back, Cond.code yX10_back cX10_back 1 (some .int), Cond.methodLink RL 123 yX11_back, Cond.instanceMethod yX11_back, Cond.selects RX11 yX11_back yX11_back, Cond.code yX11_back cX11_back 1 (some .int), Cond.methodLink RL 124 yX10_count, Cond.instanceMethod yX10_count, Cond.selects RX10 yX10_count yX10_count, Cond.code yX10_count cX10_count 2 (some .int), Cond.methodLink RX10 284 yX4_rows, Cond.instanceMethod yX4_rows, Cond.selects RX4 yX4_rows yX4_rows, Cond.code yX4_rows cX4_rows 1 (some .int), Cond.methodLink RX10 287 yX4_windsInTurn, Cond.methodLink RX10 290 yX9_whoKnowsAny, Cond.instanceMethod yX9_whoKnowsAny, Cond.selects RX9 yX9_whoKnowsAny yX9_whoKnowsAny, Cond.code yX9_whoKnowsAny cX9_whoKnowsAny 3 (some .int), Cond.methodLink RL 127 yX11_count, Cond.instanceMethod yX11_count, Cond.selects RX11 yX11_count yX11_count]
def wsL_law_r46 : List Cond := [Cond.code yX11_count cX11_count 2 (some .int)]
def wsL_law : List Cond := (wsL_law_r1 ++ (wsL_law_r2 ++ (wsL_law_r3 ++ (wsL_law_r4 ++ (wsL_law_r5 ++ (wsL_law_r6 ++ (wsL_law_r7 ++ (wsL_law_r8 ++ (wsL_law_r9 ++ (wsL_law_r10 ++ (wsL_law_r11 ++ (wsL_law_r12 ++ (wsL_law_r13 ++ (wsL_law_r14 ++ (wsL_law_r15 ++ (wsL_law_r16 ++ (wsL_law_r17 ++ (wsL_law_r18 ++ (wsL_law_r19 ++ (wsL_law_r20 ++ (wsL_law_r21 ++ (wsL_law_r22 ++ (wsL_law_r23 ++ (wsL_law_r24 ++ (wsL_law_r25 ++ (wsL_law_r26 ++ (wsL_law_r27 ++ (wsL_law_r28 ++ (wsL_law_r29 ++ (wsL_law_r30 ++ (wsL_law_r31 ++ (wsL_law_r32 ++ (wsL_law_r33 ++ (wsL_law_r34 ++ (wsL_law_r35 ++ (wsL_law_r36 ++ (wsL_law_r37 ++ (wsL_law_r38 ++ (wsL_law_r39 ++ (wsL_law_r40 ++ (wsL_law_r41 ++ (wsL_law_r42 ++ (wsL_law_r43 ++ (wsL_law_r44 ++ (wsL_law_r45 ++ wsL_law_r46))))))))))))))))))))))))))))))))))))))))))))) ++ wsX100 ++ wsX110 ++ wsX70 ++ wsX60 ++ wsX40 ++ wsX90 ++ wsX50 ++ wsX10 ++ wsX30 ++ wsX20 ++ wsX00 ++ wsX80 ++ ([] : List Cond)
set_option maxRecDepth 20000 in
theorem wsL_law_r1_in : ∀ w ∈ wsL_law_r1, w ∈ lw_tbl := fun w h => (goodIn_p wsL_law_r1 [79, 82] (by decide +kernel) (by decide +kernel) w h).1
set_option maxRecDepth 20000 in
theorem wsL_law_r2_in : ∀ w ∈ wsL_law_r2, w ∈ lw_tbl := fun w h => (goodIn_p wsL_law_r2 [] (by decide +kernel) (by decide +kernel) w h).1
set_option maxRecDepth 20000 in
theorem wsL_law_r3_in : ∀ w ∈ wsL_law_r3, w ∈ lw_tbl := fun w h => (goodIn_p wsL_law_r3 [87, 101, 117] (by decide +kernel) (by decide +kernel) w h).1
set_option maxRecDepth 20000 in
theorem wsL_law_r4_in : ∀ w ∈ wsL_law_r4, w ∈ lw_tbl := fun w h => (goodIn_p wsL_law_r4 [163, 179] (by decide +kernel) (by decide +kernel) w h).1
set_option maxRecDepth 20000 in
theorem wsL_law_r5_in : ∀ w ∈ wsL_law_r5, w ∈ lw_tbl := fun w h => (goodIn_p wsL_law_r5 [198, 241] (by decide +kernel) (by decide +kernel) w h).1
set_option maxRecDepth 20000 in
theorem wsL_law_r6_in : ∀ w ∈ wsL_law_r6, w ∈ lw_tbl := fun w h => (goodIn_p wsL_law_r6 [257, 291, 310] (by decide +kernel) (by decide +kernel) w h).1
set_option maxRecDepth 20000 in
theorem wsL_law_r7_in : ∀ w ∈ wsL_law_r7, w ∈ lw_tbl := fun w h => (goodIn_p wsL_law_r7 [338, 342, 348] (by decide +kernel) (by decide +kernel) w h).1
set_option maxRecDepth 20000 in
theorem wsL_law_r8_in : ∀ w ∈ wsL_law_r8, w ∈ lw_tbl := fun w h => (goodIn_p wsL_law_r8 [352, 355, 358, 363, 366, 369] (by decide +kernel) (by decide +kernel) w h).1
set_option maxRecDepth 20000 in
theorem wsL_law_r9_in : ∀ w ∈ wsL_law_r9, w ∈ lw_tbl := fun w h => (goodIn_p wsL_law_r9 [372, 376, 386, 389, 393, 397] (by decide +kernel) (by decide +kernel) w h).1
set_option maxRecDepth 20000 in
theorem wsL_law_r10_in : ∀ w ∈ wsL_law_r10, w ∈ lw_tbl := fun w h => (goodIn_p wsL_law_r10 [401, 404, 408, 411, 414, 418, 422] (by decide +kernel) (by decide +kernel) w h).1
set_option maxRecDepth 20000 in
theorem wsL_law_r11_in : ∀ w ∈ wsL_law_r11, w ∈ lw_tbl := fun w h => (goodIn_p wsL_law_r11 [426, 430, 433, 436, 442, 447, 451] (by decide +kernel) (by decide +kernel) w h).1
set_option maxRecDepth 20000 in
theorem wsL_law_r12_in : ∀ w ∈ wsL_law_r12, w ∈ lw_tbl := fun w h => (goodIn_p wsL_law_r12 [455, 458, 464, 468, 472, 476] (by decide +kernel) (by decide +kernel) w h).1
set_option maxRecDepth 20000 in
theorem wsL_law_r13_in : ∀ w ∈ wsL_law_r13, w ∈ lw_tbl := fun w h => (goodIn_p wsL_law_r13 [480, 485, 489, 494, 498, 502, 1016] (by decide +kernel) (by decide +kernel) w h).1
set_option maxRecDepth 20000 in
theorem wsL_law_r14_in : ∀ w ∈ wsL_law_r14, w ∈ lw_tbl := fun w h => (goodIn_p wsL_law_r14 [1021] (by decide +kernel) (by decide +kernel) w h).1
set_option maxRecDepth 20000 in
theorem wsL_law_r15_in : ∀ w ∈ wsL_law_r15, w ∈ lw_tbl := fun w h => (goodIn_p wsL_law_r15 [1025, 1029, 1033, 1036] (by decide +kernel) (by decide +kernel) w h).1
set_option maxRecDepth 20000 in
theorem wsL_law_r16_in : ∀ w ∈ wsL_law_r16, w ∈ lw_tbl := fun w h => (goodIn_p wsL_law_r16 [544, 1137, 1140, 549, 1144, 553] (by decide +kernel) (by decide +kernel) w h).1
set_option maxRecDepth 20000 in
theorem wsL_law_r17_in : ∀ w ∈ wsL_law_r17, w ∈ lw_tbl := fun w h => (goodIn_p wsL_law_r17 [1148, 1152, 1156, 1160, 1164, 1167] (by decide +kernel) (by decide +kernel) w h).1
set_option maxRecDepth 20000 in
theorem wsL_law_r18_in : ∀ w ∈ wsL_law_r18, w ∈ lw_tbl := fun w h => (goodIn_p wsL_law_r18 [1171, 1175, 1179, 1183, 1187, 557] (by decide +kernel) (by decide +kernel) w h).1
set_option maxRecDepth 20000 in
theorem wsL_law_r19_in : ∀ w ∈ wsL_law_r19, w ∈ lw_tbl := fun w h => (goodIn_p wsL_law_r19 [1191, 562, 567, 571, 576] (by decide +kernel) (by decide +kernel) w h).1
set_option maxRecDepth 20000 in
theorem wsL_law_r20_in : ∀ w ∈ wsL_law_r20, w ∈ lw_tbl := fun w h => (goodIn_p wsL_law_r20 [580, 583, 1196, 1200, 1204, 1208] (by decide +kernel) (by decide +kernel) w h).1
set_option maxRecDepth 20000 in
theorem wsL_law_r21_in : ∀ w ∈ wsL_law_r21, w ∈ lw_tbl := fun w h => (goodIn_p wsL_law_r21 [1211, 588, 593, 597, 602] (by decide +kernel) (by decide +kernel) w h).1
set_option maxRecDepth 20000 in
theorem wsL_law_r22_in : ∀ w ∈ wsL_law_r22, w ∈ lw_tbl := fun w h => (goodIn_p wsL_law_r22 [1215, 1219, 1222, 609, 613, 617] (by decide +kernel) (by decide +kernel) w h).1
set_option maxRecDepth 20000 in
theorem wsL_law_r23_in : ∀ w ∈ wsL_law_r23, w ∈ lw_tbl := fun w h => (goodIn_p wsL_law_r23 [621, 624, 1226, 1230, 628, 632] (by decide +kernel) (by decide +kernel) w h).1
set_option maxRecDepth 20000 in
theorem wsL_law_r24_in : ∀ w ∈ wsL_law_r24, w ∈ lw_tbl := fun w h => (goodIn_p wsL_law_r24 [636, 641, 644, 649, 653] (by decide +kernel) (by decide +kernel) w h).1
set_option maxRecDepth 20000 in
theorem wsL_law_r25_in : ∀ w ∈ wsL_law_r25, w ∈ lw_tbl := fun w h => (goodIn_p wsL_law_r25 [659, 663, 667, 677, 681] (by decide +kernel) (by decide +kernel) w h).1
set_option maxRecDepth 20000 in
theorem wsL_law_r26_in : ∀ w ∈ wsL_law_r26, w ∈ lw_tbl := fun w h => (goodIn_p wsL_law_r26 [686, 690, 694, 701, 705, 709] (by decide +kernel) (by decide +kernel) w h).1
set_option maxRecDepth 20000 in
theorem wsL_law_r27_in : ∀ w ∈ wsL_law_r27, w ∈ lw_tbl := fun w h => (goodIn_p wsL_law_r27 [1234, 1238, 1242, 1246, 1250, 1254] (by decide +kernel) (by decide +kernel) w h).1
set_option maxRecDepth 20000 in
theorem wsL_law_r28_in : ∀ w ∈ wsL_law_r28, w ∈ lw_tbl := fun w h => (goodIn_p wsL_law_r28 [1258, 1262, 713, 718, 1266] (by decide +kernel) (by decide +kernel) w h).1
set_option maxRecDepth 20000 in
theorem wsL_law_r29_in : ∀ w ∈ wsL_law_r29, w ∈ lw_tbl := fun w h => (goodIn_p wsL_law_r29 [722, 1270, 727, 731, 735, 1274] (by decide +kernel) (by decide +kernel) w h).1
set_option maxRecDepth 20000 in
theorem wsL_law_r30_in : ∀ w ∈ wsL_law_r30, w ∈ lw_tbl := fun w h => (goodIn_p wsL_law_r30 [739, 743, 749, 1278, 756] (by decide +kernel) (by decide +kernel) w h).1
set_option maxRecDepth 20000 in
theorem wsL_law_r31_in : ∀ w ∈ wsL_law_r31, w ∈ lw_tbl := fun w h => (goodIn_p wsL_law_r31 [760, 1282, 1286, 1290, 767, 771] (by decide +kernel) (by decide +kernel) w h).1
set_option maxRecDepth 20000 in
theorem wsL_law_r32_in : ∀ w ∈ wsL_law_r32, w ∈ lw_tbl := fun w h => (goodIn_p wsL_law_r32 [1294, 777, 781, 786, 791] (by decide +kernel) (by decide +kernel) w h).1
set_option maxRecDepth 20000 in
theorem wsL_law_r33_in : ∀ w ∈ wsL_law_r33, w ∈ lw_tbl := fun w h => (goodIn_p wsL_law_r33 [1298, 1302, 795, 799, 804, 808] (by decide +kernel) (by decide +kernel) w h).1
set_option maxRecDepth 20000 in
theorem wsL_law_r34_in : ∀ w ∈ wsL_law_r34, w ∈ lw_tbl := fun w h => (goodIn_p wsL_law_r34 [813, 819, 823, 828, 832] (by decide +kernel) (by decide +kernel) w h).1
set_option maxRecDepth 20000 in
theorem wsL_law_r35_in : ∀ w ∈ wsL_law_r35, w ∈ lw_tbl := fun w h => (goodIn_p wsL_law_r35 [838, 842, 846, 1306, 1310] (by decide +kernel) (by decide +kernel) w h).1
set_option maxRecDepth 20000 in
theorem wsL_law_r36_in : ∀ w ∈ wsL_law_r36, w ∈ lw_tbl := fun w h => (goodIn_p wsL_law_r36 [1314, 850, 854, 858, 1318] (by decide +kernel) (by decide +kernel) w h).1
set_option maxRecDepth 20000 in
theorem wsL_law_r37_in : ∀ w ∈ wsL_law_r37, w ∈ lw_tbl := fun w h => (goodIn_p wsL_law_r37 [1322, 864, 868, 872, 877, 884] (by decide +kernel) (by decide +kernel) w h).1
set_option maxRecDepth 20000 in
theorem wsL_law_r38_in : ∀ w ∈ wsL_law_r38, w ∈ lw_tbl := fun w h => (goodIn_p wsL_law_r38 [881, 1326, 1330, 1334, 889, 893] (by decide +kernel) (by decide +kernel) w h).1
set_option maxRecDepth 20000 in
theorem wsL_law_r39_in : ∀ w ∈ wsL_law_r39, w ∈ lw_tbl := fun w h => (goodIn_p wsL_law_r39 [898, 1338, 902, 1342, 906, 910] (by decide +kernel) (by decide +kernel) w h).1
set_option maxRecDepth 20000 in
theorem wsL_law_r40_in : ∀ w ∈ wsL_law_r40, w ∈ lw_tbl := fun w h => (goodIn_p wsL_law_r40 [915, 923, 1346, 1350, 1354] (by decide +kernel) (by decide +kernel) w h).1
set_option maxRecDepth 20000 in
theorem wsL_law_r41_in : ∀ w ∈ wsL_law_r41, w ∈ lw_tbl := fun w h => (goodIn_p wsL_law_r41 [928, 932, 936, 1358, 942] (by decide +kernel) (by decide +kernel) w h).1
set_option maxRecDepth 20000 in
theorem wsL_law_r42_in : ∀ w ∈ wsL_law_r42, w ∈ lw_tbl := fun w h => (goodIn_p wsL_law_r42 [946, 950, 957, 1362, 961, 965] (by decide +kernel) (by decide +kernel) w h).1
set_option maxRecDepth 20000 in
theorem wsL_law_r43_in : ∀ w ∈ wsL_law_r43, w ∈ lw_tbl := fun w h => (goodIn_p wsL_law_r43 [969, 977, 985, 989] (by decide +kernel) (by decide +kernel) w h).1
set_option maxRecDepth 20000 in
theorem wsL_law_r44_in : ∀ w ∈ wsL_law_r44, w ∈ lw_tbl := fun w h => (goodIn_p wsL_law_r44 [1366, 1370, 1378, 993, 1382] (by decide +kernel) (by decide +kernel) w h).1
set_option maxRecDepth 20000 in
theorem wsL_law_r45_in : ∀ w ∈ wsL_law_r45, w ∈ lw_tbl := fun w h => (goodIn_p wsL_law_r45 [998, 1386, 1002, 1006, 1011] (by decide +kernel) (by decide +kernel) w h).1
set_option maxRecDepth 20000 in
theorem wsL_law_r46_in : ∀ w ∈ wsL_law_r46, w ∈ lw_tbl := fun w h => (goodIn_p wsL_law_r46 [1390] (by decide +kernel) (by decide +kernel) w h).1
set_option maxRecDepth 20000 in
theorem wsX100_inT : ∀ w ∈ wsX100, w ∈ lw_tbl := fun w h => (goodIn_p wsX100 [] (by decide +kernel) (by decide +kernel) w h).1
set_option maxRecDepth 20000 in
theorem wsX110_inT : ∀ w ∈ wsX110, w ∈ lw_tbl := fun w h => (goodIn_p wsX110 [] (by decide +kernel) (by decide +kernel) w h).1
set_option maxRecDepth 20000 in
theorem wsX70_inT : ∀ w ∈ wsX70, w ∈ lw_tbl := fun w h => (goodIn_p wsX70 [] (by decide +kernel) (by decide +kernel) w h).1
set_option maxRecDepth 20000 in
theorem wsX60_inT : ∀ w ∈ wsX60, w ∈ lw_tbl := fun w h => (goodIn_p wsX60 [] (by decide +kernel) (by decide +kernel) w h).1
set_option maxRecDepth 20000 in
theorem wsX40_inT : ∀ w ∈ wsX40, w ∈ lw_tbl := fun w h => (goodIn_p wsX40 [] (by decide +kernel) (by decide +kernel) w h).1
set_option maxRecDepth 20000 in
theorem wsX90_inT : ∀ w ∈ wsX90, w ∈ lw_tbl := fun w h => (goodIn_p wsX90 [] (by decide +kernel) (by decide +kernel) w h).1
set_option maxRecDepth 20000 in
theorem wsX50_inT : ∀ w ∈ wsX50, w ∈ lw_tbl := fun w h => (goodIn_p wsX50 [] (by decide +kernel) (by decide +kernel) w h).1
set_option maxRecDepth 20000 in
theorem wsX10_inT : ∀ w ∈ wsX10, w ∈ lw_tbl := fun w h => (goodIn_p wsX10 [] (by decide +kernel) (by decide +kernel) w h).1
set_option maxRecDepth 20000 in
theorem wsX30_inT : ∀ w ∈ wsX30, w ∈ lw_tbl := fun w h => (goodIn_p wsX30 [] (by decide +kernel) (by decide +kernel) w h).1
set_option maxRecDepth 20000 in
theorem wsX20_inT : ∀ w ∈ wsX20, w ∈ lw_tbl := fun w h => (goodIn_p wsX20 [] (by decide +kernel) (by decide +kernel) w h).1
set_option maxRecDepth 20000 in
theorem wsX00_inT : ∀ w ∈ wsX00, w ∈ lw_tbl := fun w h => (goodIn_p wsX00 [] (by decide +kernel) (by decide +kernel) w h).1
set_option maxRecDepth 20000 in
theorem wsX80_inT : ∀ w ∈ wsX80, w ∈ lw_tbl := fun w h => (goodIn_p wsX80 [] (by decide +kernel) (by decide +kernel) w h).1
theorem mem_app2 {a b : List Cond} {P : Cond → Prop} (ha : ∀ w ∈ a, P w) (hb : ∀ w ∈ b, P w) : ∀ w ∈ a ++ b, P w := fun w h => (List.mem_append.mp h).elim (ha w) (hb w)
theorem wsL_law_in : ∀ w ∈ wsL_law, w ∈ lw_tbl := mem_app2 (mem_app2 (mem_app2 (mem_app2 (mem_app2 (mem_app2 (mem_app2 (mem_app2 (mem_app2 (mem_app2 (mem_app2 (mem_app2 (mem_app2 (mem_app2 wsL_law_r1_in (mem_app2 wsL_law_r2_in (mem_app2 wsL_law_r3_in (mem_app2 wsL_law_r4_in (mem_app2 wsL_law_r5_in (mem_app2 wsL_law_r6_in (mem_app2 wsL_law_r7_in (mem_app2 wsL_law_r8_in (mem_app2 wsL_law_r9_in (mem_app2 wsL_law_r10_in (mem_app2 wsL_law_r11_in (mem_app2 wsL_law_r12_in (mem_app2 wsL_law_r13_in (mem_app2 wsL_law_r14_in (mem_app2 wsL_law_r15_in (mem_app2 wsL_law_r16_in (mem_app2 wsL_law_r17_in (mem_app2 wsL_law_r18_in (mem_app2 wsL_law_r19_in (mem_app2 wsL_law_r20_in (mem_app2 wsL_law_r21_in (mem_app2 wsL_law_r22_in (mem_app2 wsL_law_r23_in (mem_app2 wsL_law_r24_in (mem_app2 wsL_law_r25_in (mem_app2 wsL_law_r26_in (mem_app2 wsL_law_r27_in (mem_app2 wsL_law_r28_in (mem_app2 wsL_law_r29_in (mem_app2 wsL_law_r30_in (mem_app2 wsL_law_r31_in (mem_app2 wsL_law_r32_in (mem_app2 wsL_law_r33_in (mem_app2 wsL_law_r34_in (mem_app2 wsL_law_r35_in (mem_app2 wsL_law_r36_in (mem_app2 wsL_law_r37_in (mem_app2 wsL_law_r38_in (mem_app2 wsL_law_r39_in (mem_app2 wsL_law_r40_in (mem_app2 wsL_law_r41_in (mem_app2 wsL_law_r42_in (mem_app2 wsL_law_r43_in (mem_app2 wsL_law_r44_in (mem_app2 wsL_law_r45_in wsL_law_r46_in))))))))))))))))))))))))))))))))))))))))))))) wsX100_inT) wsX110_inT) wsX70_inT) wsX60_inT) wsX40_inT) wsX90_inT) wsX50_inT) wsX10_inT) wsX30_inT) wsX20_inT) wsX00_inT) wsX80_inT) (fun _ h => absurd h List.not_mem_nil)
theorem inlX0 : ∀ w ∈ wsX00, w ∈ wsL_law := fun _ h => List.mem_append_left _ (List.mem_append_left _ (List.mem_append_right _ h))
theorem inX0 : ∀ w ∈ wsX00, w ∈ lw_tbl := fun w h => wsL_law_in w (inlX0 w h)
theorem inlX1 : ∀ w ∈ wsX10, w ∈ wsL_law := fun _ h => List.mem_append_left _ (List.mem_append_left _ (List.mem_append_left _ (List.mem_append_left _ (List.mem_append_left _ (List.mem_append_right _ h)))))
theorem inX1 : ∀ w ∈ wsX10, w ∈ lw_tbl := fun w h => wsL_law_in w (inlX1 w h)
theorem inlX2 : ∀ w ∈ wsX20, w ∈ wsL_law := fun _ h => List.mem_append_left _ (List.mem_append_left _ (List.mem_append_left _ (List.mem_append_right _ h)))
theorem inX2 : ∀ w ∈ wsX20, w ∈ lw_tbl := fun w h => wsL_law_in w (inlX2 w h)
theorem inlX3 : ∀ w ∈ wsX30, w ∈ wsL_law := fun _ h => List.mem_append_left _ (List.mem_append_left _ (List.mem_append_left _ (List.mem_append_left _ (List.mem_append_right _ h))))
theorem inX3 : ∀ w ∈ wsX30, w ∈ lw_tbl := fun w h => wsL_law_in w (inlX3 w h)
theorem inlX4 : ∀ w ∈ wsX40, w ∈ wsL_law := fun _ h => List.mem_append_left _ (List.mem_append_left _ (List.mem_append_left _ (List.mem_append_left _ (List.mem_append_left _ (List.mem_append_left _ (List.mem_append_left _ (List.mem_append_left _ (List.mem_append_right _ h))))))))
theorem inX4 : ∀ w ∈ wsX40, w ∈ lw_tbl := fun w h => wsL_law_in w (inlX4 w h)
theorem inlX5 : ∀ w ∈ wsX50, w ∈ wsL_law := fun _ h => List.mem_append_left _ (List.mem_append_left _ (List.mem_append_left _ (List.mem_append_left _ (List.mem_append_left _ (List.mem_append_left _ (List.mem_append_right _ h))))))
theorem inX5 : ∀ w ∈ wsX50, w ∈ lw_tbl := fun w h => wsL_law_in w (inlX5 w h)
theorem inlX6 : ∀ w ∈ wsX60, w ∈ wsL_law := fun _ h => List.mem_append_left _ (List.mem_append_left _ (List.mem_append_left _ (List.mem_append_left _ (List.mem_append_left _ (List.mem_append_left _ (List.mem_append_left _ (List.mem_append_left _ (List.mem_append_left _ (List.mem_append_right _ h)))))))))
theorem inX6 : ∀ w ∈ wsX60, w ∈ lw_tbl := fun w h => wsL_law_in w (inlX6 w h)
theorem inlX7 : ∀ w ∈ wsX70, w ∈ wsL_law := fun _ h => List.mem_append_left _ (List.mem_append_left _ (List.mem_append_left _ (List.mem_append_left _ (List.mem_append_left _ (List.mem_append_left _ (List.mem_append_left _ (List.mem_append_left _ (List.mem_append_left _ (List.mem_append_left _ (List.mem_append_right _ h))))))))))
theorem inX7 : ∀ w ∈ wsX70, w ∈ lw_tbl := fun w h => wsL_law_in w (inlX7 w h)
theorem inlX8 : ∀ w ∈ wsX80, w ∈ wsL_law := fun _ h => List.mem_append_left _ (List.mem_append_right _ h)
theorem inX8 : ∀ w ∈ wsX80, w ∈ lw_tbl := fun w h => wsL_law_in w (inlX8 w h)
theorem inlX9 : ∀ w ∈ wsX90, w ∈ wsL_law := fun _ h => List.mem_append_left _ (List.mem_append_left _ (List.mem_append_left _ (List.mem_append_left _ (List.mem_append_left _ (List.mem_append_left _ (List.mem_append_left _ (List.mem_append_right _ h)))))))
theorem inX9 : ∀ w ∈ wsX90, w ∈ lw_tbl := fun w h => wsL_law_in w (inlX9 w h)
theorem inlX10 : ∀ w ∈ wsX100, w ∈ wsL_law := fun _ h => List.mem_append_left _ (List.mem_append_left _ (List.mem_append_left _ (List.mem_append_left _ (List.mem_append_left _ (List.mem_append_left _ (List.mem_append_left _ (List.mem_append_left _ (List.mem_append_left _ (List.mem_append_left _ (List.mem_append_left _ (List.mem_append_left _ (List.mem_append_right _ h))))))))))))
theorem inX10 : ∀ w ∈ wsX100, w ∈ lw_tbl := fun w h => wsL_law_in w (inlX10 w h)
theorem inlX11 : ∀ w ∈ wsX110, w ∈ wsL_law := fun _ h => List.mem_append_left _ (List.mem_append_left _ (List.mem_append_left _ (List.mem_append_left _ (List.mem_append_left _ (List.mem_append_left _ (List.mem_append_left _ (List.mem_append_left _ (List.mem_append_left _ (List.mem_append_left _ (List.mem_append_left _ (List.mem_append_right _ h)))))))))))
theorem inX11 : ∀ w ∈ wsX110, w ∈ lw_tbl := fun w h => wsL_law_in w (inlX11 w h)
theorem inJ6 : ∀ w ∈ wsJ60, w ∈ lw_tbl := by decide +kernel
theorem inJ9 : ∀ w ∈ wsJ90, w ∈ lw_tbl := by decide +kernel
theorem inJ0 : ∀ w ∈ wsJ00, w ∈ lw_tbl := by decide +kernel
theorem inJ1 : ∀ w ∈ wsJ10, w ∈ lw_tbl := by decide +kernel
theorem inJ2 : ∀ w ∈ wsJ20, w ∈ lw_tbl := by decide +kernel
theorem inJ3 : ∀ w ∈ wsJ30, w ∈ lw_tbl := by decide +kernel
abbrev vwCl : List vw_C := [(RX0, TX0, 4), (RX1, TX1, 12), (RX2, TX2, 9), (RX3, TX3, 3), (RX4, TX4, 13), (RX5, TX5, 3), (RX6, TX6, 3), (RX7, TX7, 2), (RX8, TX8, 7), (RX9, TX9, 3), (RX10, TX10, 12), (RX11, TX11, 32)]
/-! ===== END printed: names ===== -/
end
section
theorem dX0_init_0 : decode cX0_init 0 = .ok (.aload_n 0, 1) := by decide +kernel
theorem dX0_init_1 : decode cX0_init 1 = .ok (.invokespecial 3, 3) := by decide +kernel
theorem dX0_init_4 : decode cX0_init 4 = .ok (.aload_n 0, 1) := by decide +kernel
theorem dX0_init_5 : decode cX0_init 5 = .ok (.iconst 0, 1) := by decide +kernel
theorem dX0_init_6 : decode cX0_init 6 = .ok (.putfield 9, 3) := by decide +kernel
theorem dX0_init_9 : decode cX0_init 9 = .ok (.aload_n 0, 1) := by decide +kernel
theorem dX0_init_10 : decode cX0_init 10 = .ok (.iconst 0, 1) := by decide +kernel
theorem dX0_init_11 : decode cX0_init 11 = .ok (.putfield 15, 3) := by decide +kernel
theorem dX0_init_14 : decode cX0_init 14 = .ok (.aload_n 0, 1) := by decide +kernel
theorem dX0_init_15 : decode cX0_init 15 = .ok (.aload_n 1, 1) := by decide +kernel
theorem dX0_init_16 : decode cX0_init 16 = .ok (.putfield 18, 3) := by decide +kernel
theorem dX0_init_19 : decode cX0_init 19 = .ok (.aload_n 0, 1) := by decide +kernel
theorem dX0_init_20 : decode cX0_init 20 = .ok (.aload_n 2, 1) := by decide +kernel
theorem dX0_init_21 : decode cX0_init 21 = .ok (.putfield 22, 3) := by decide +kernel
theorem dX0_init_24 : decode cX0_init 24 = .ok (.return_, 1) := by decide +kernel
theorem dX0_gustsThatReach_0 : decode cX0_gustsThatReach 0 = .ok (.iconst 0, 1) := by decide +kernel
theorem dX0_gustsThatReach_1 : decode cX0_gustsThatReach 1 = .ok (.istore 4, 2) := by decide +kernel
theorem dX0_gustsThatReach_3 : decode cX0_gustsThatReach 3 = .ok (.aload_n 0, 1) := by decide +kernel
theorem dX0_gustsThatReach_4 : decode cX0_gustsThatReach 4 = .ok (.getfield 22, 3) := by decide +kernel
theorem dX0_gustsThatReach_7 : decode cX0_gustsThatReach 7 = .ok (.iload_n 2, 1) := by decide +kernel
theorem dX0_gustsThatReach_8 : decode cX0_gustsThatReach 8 = .ok (.invokevirtual 26, 3) := by decide +kernel
theorem dX0_gustsThatReach_11 : decode cX0_gustsThatReach 11 = .ok (.iconst 0, 1) := by decide +kernel
theorem dX0_gustsThatReach_12 : decode cX0_gustsThatReach 12 = .ok (.istore 5, 2) := by decide +kernel
theorem dX0_gustsThatReach_14 : decode cX0_gustsThatReach 14 = .ok (.iload 5, 2) := by decide +kernel
theorem dX0_gustsThatReach_16 : decode cX0_gustsThatReach 16 = .ok (.iload_n 3, 1) := by decide +kernel
theorem dX0_gustsThatReach_17 : decode cX0_gustsThatReach 17 = .ok (.invokestatic 32, 3) := by decide +kernel
theorem dX0_gustsThatReach_20 : decode cX0_gustsThatReach 20 = .ok (.if_icmp .ge 67, 3) := by decide +kernel
theorem dX0_gustsThatReach_23 : decode cX0_gustsThatReach 23 = .ok (.aload_n 0, 1) := by decide +kernel
theorem dX0_gustsThatReach_24 : decode cX0_gustsThatReach 24 = .ok (.getfield 22, 3) := by decide +kernel
theorem dX0_gustsThatReach_27 : decode cX0_gustsThatReach 27 = .ok (.invokevirtual 36, 3) := by decide +kernel
theorem dX0_gustsThatReach_30 : decode cX0_gustsThatReach 30 = .ok (.istore 6, 2) := by decide +kernel
theorem dX0_gustsThatReach_32 : decode cX0_gustsThatReach 32 = .ok (.iconst 0, 1) := by decide +kernel
theorem dX0_gustsThatReach_33 : decode cX0_gustsThatReach 33 = .ok (.istore 7, 2) := by decide +kernel
theorem dX0_gustsThatReach_35 : decode cX0_gustsThatReach 35 = .ok (.iload 7, 2) := by decide +kernel
theorem dX0_gustsThatReach_37 : decode cX0_gustsThatReach 37 = .ok (.iload_n 3, 1) := by decide +kernel
theorem dX0_gustsThatReach_38 : decode cX0_gustsThatReach 38 = .ok (.if_icmp .ge 31, 3) := by decide +kernel
theorem dX0_gustsThatReach_41 : decode cX0_gustsThatReach 41 = .ok (.aload_n 0, 1) := by decide +kernel
theorem dX0_gustsThatReach_42 : decode cX0_gustsThatReach 42 = .ok (.getfield 22, 3) := by decide +kernel
theorem dX0_gustsThatReach_45 : decode cX0_gustsThatReach 45 = .ok (.iload 6, 2) := by decide +kernel
theorem dX0_gustsThatReach_47 : decode cX0_gustsThatReach 47 = .ok (.iconst 1, 1) := by decide +kernel
theorem dX0_gustsThatReach_48 : decode cX0_gustsThatReach 48 = .ok (.iload 5, 2) := by decide +kernel
theorem dX0_gustsThatReach_50 : decode cX0_gustsThatReach 50 = .ok (.iconst 2, 1) := by decide +kernel
theorem dX0_gustsThatReach_51 : decode cX0_gustsThatReach 51 = .ok (.iload 7, 2) := by decide +kernel
theorem dX0_gustsThatReach_53 : decode cX0_gustsThatReach 53 = .ok (.imul, 1) := by decide +kernel
theorem dX0_gustsThatReach_54 : decode cX0_gustsThatReach 54 = .ok (.ishr, 1) := by decide +kernel
theorem dX0_gustsThatReach_55 : decode cX0_gustsThatReach 55 = .ok (.iconst 3, 1) := by decide +kernel
theorem dX0_gustsThatReach_56 : decode cX0_gustsThatReach 56 = .ok (.iand, 1) := by decide +kernel
theorem dX0_gustsThatReach_57 : decode cX0_gustsThatReach 57 = .ok (.iadd, 1) := by decide +kernel
theorem dX0_gustsThatReach_58 : decode cX0_gustsThatReach 58 = .ok (.invokevirtual 40, 3) := by decide +kernel
theorem dX0_gustsThatReach_61 : decode cX0_gustsThatReach 61 = .ok (.istore 6, 2) := by decide +kernel
theorem dX0_gustsThatReach_63 : decode cX0_gustsThatReach 63 = .ok (.iinc 7 1, 3) := by decide +kernel
theorem dX0_gustsThatReach_66 : decode cX0_gustsThatReach 66 = .ok (.goto (-31), 3) := by decide +kernel
theorem dX0_gustsThatReach_69 : decode cX0_gustsThatReach 69 = .ok (.iload 6, 2) := by decide +kernel
theorem dX0_gustsThatReach_71 : decode cX0_gustsThatReach 71 = .ok (.iload_n 1, 1) := by decide +kernel
theorem dX0_gustsThatReach_72 : decode cX0_gustsThatReach 72 = .ok (.invokestatic 44, 3) := by decide +kernel
theorem dX0_gustsThatReach_75 : decode cX0_gustsThatReach 75 = .ok (.ifCond .eq 6, 3) := by decide +kernel
theorem dX0_gustsThatReach_78 : decode cX0_gustsThatReach 78 = .ok (.iinc 4 1, 3) := by decide +kernel
theorem dX0_gustsThatReach_81 : decode cX0_gustsThatReach 81 = .ok (.iinc 5 1, 3) := by decide +kernel
theorem dX0_gustsThatReach_84 : decode cX0_gustsThatReach 84 = .ok (.goto (-70), 3) := by decide +kernel
theorem dX0_gustsThatReach_87 : decode cX0_gustsThatReach 87 = .ok (.iload 4, 2) := by decide +kernel
theorem dX0_gustsThatReach_89 : decode cX0_gustsThatReach 89 = .ok (.ireturn, 1) := by decide +kernel
theorem dX0_inLowestTerms_0 : decode cX0_inLowestTerms 0 = .ok (.iload_n 1, 1) := by decide +kernel
theorem dX0_inLowestTerms_1 : decode cX0_inLowestTerms 1 = .ok (.istore 4, 2) := by decide +kernel
theorem dX0_inLowestTerms_3 : decode cX0_inLowestTerms 3 = .ok (.iload_n 2, 1) := by decide +kernel
theorem dX0_inLowestTerms_4 : decode cX0_inLowestTerms 4 = .ok (.invokestatic 32, 3) := by decide +kernel
theorem dX0_inLowestTerms_7 : decode cX0_inLowestTerms 7 = .ok (.istore 5, 2) := by decide +kernel
theorem dX0_inLowestTerms_9 : decode cX0_inLowestTerms 9 = .ok (.iconst 0, 1) := by decide +kernel
theorem dX0_inLowestTerms_10 : decode cX0_inLowestTerms 10 = .ok (.istore 6, 2) := by decide +kernel
theorem dX0_inLowestTerms_12 : decode cX0_inLowestTerms 12 = .ok (.iload 6, 2) := by decide +kernel
theorem dX0_inLowestTerms_14 : decode cX0_inLowestTerms 14 = .ok (.iconst 2, 1) := by decide +kernel
theorem dX0_inLowestTerms_15 : decode cX0_inLowestTerms 15 = .ok (.iload_n 2, 1) := by decide +kernel
theorem dX0_inLowestTerms_16 : decode cX0_inLowestTerms 16 = .ok (.imul, 1) := by decide +kernel
theorem dX0_inLowestTerms_17 : decode cX0_inLowestTerms 17 = .ok (.if_icmp .ge 28, 3) := by decide +kernel
theorem dX0_inLowestTerms_20 : decode cX0_inLowestTerms 20 = .ok (.iload 4, 2) := by decide +kernel
theorem dX0_inLowestTerms_22 : decode cX0_inLowestTerms 22 = .ok (.iconst 2, 1) := by decide +kernel
theorem dX0_inLowestTerms_23 : decode cX0_inLowestTerms 23 = .ok (.irem, 1) := by decide +kernel
theorem dX0_inLowestTerms_24 : decode cX0_inLowestTerms 24 = .ok (.ifCond .ne 21, 3) := by decide +kernel
theorem dX0_inLowestTerms_27 : decode cX0_inLowestTerms 27 = .ok (.iload 4, 2) := by decide +kernel
theorem dX0_inLowestTerms_29 : decode cX0_inLowestTerms 29 = .ok (.iconst 2, 1) := by decide +kernel
theorem dX0_inLowestTerms_30 : decode cX0_inLowestTerms 30 = .ok (.idiv, 1) := by decide +kernel
theorem dX0_inLowestTerms_31 : decode cX0_inLowestTerms 31 = .ok (.istore 4, 2) := by decide +kernel
theorem dX0_inLowestTerms_33 : decode cX0_inLowestTerms 33 = .ok (.iload 5, 2) := by decide +kernel
theorem dX0_inLowestTerms_35 : decode cX0_inLowestTerms 35 = .ok (.iconst 2, 1) := by decide +kernel
theorem dX0_inLowestTerms_36 : decode cX0_inLowestTerms 36 = .ok (.idiv, 1) := by decide +kernel
theorem dX0_inLowestTerms_37 : decode cX0_inLowestTerms 37 = .ok (.istore 5, 2) := by decide +kernel
theorem dX0_inLowestTerms_39 : decode cX0_inLowestTerms 39 = .ok (.iinc 6 1, 3) := by decide +kernel
theorem dX0_inLowestTerms_42 : decode cX0_inLowestTerms 42 = .ok (.goto (-30), 3) := by decide +kernel
theorem dX0_inLowestTerms_45 : decode cX0_inLowestTerms 45 = .ok (.iload_n 3, 1) := by decide +kernel
theorem dX0_inLowestTerms_46 : decode cX0_inLowestTerms 46 = .ok (.ifCond .ne 8, 3) := by decide +kernel
theorem dX0_inLowestTerms_49 : decode cX0_inLowestTerms 49 = .ok (.iload 4, 2) := by decide +kernel
theorem dX0_inLowestTerms_51 : decode cX0_inLowestTerms 51 = .ok (.goto 5, 3) := by decide +kernel
theorem dX0_inLowestTerms_54 : decode cX0_inLowestTerms 54 = .ok (.iload 5, 2) := by decide +kernel
theorem dX0_inLowestTerms_56 : decode cX0_inLowestTerms 56 = .ok (.ireturn, 1) := by decide +kernel
theorem dX0_waysOf_0 : decode cX0_waysOf 0 = .ok (.iconst 1, 1) := by decide +kernel
theorem dX0_waysOf_1 : decode cX0_waysOf 1 = .ok (.iconst 2, 1) := by decide +kernel
theorem dX0_waysOf_2 : decode cX0_waysOf 2 = .ok (.iload_n 0, 1) := by decide +kernel
theorem dX0_waysOf_3 : decode cX0_waysOf 3 = .ok (.imul, 1) := by decide +kernel
theorem dX0_waysOf_4 : decode cX0_waysOf 4 = .ok (.ishl, 1) := by decide +kernel
theorem dX0_waysOf_5 : decode cX0_waysOf 5 = .ok (.ireturn, 1) := by decide +kernel
theorem dX0_runYear_0 : decode cX0_runYear 0 = .ok (.iconst 0, 1) := by decide +kernel
theorem dX0_runYear_1 : decode cX0_runYear 1 = .ok (.istore_n 3, 1) := by decide +kernel
theorem dX0_runYear_2 : decode cX0_runYear 2 = .ok (.aload_n 0, 1) := by decide +kernel
theorem dX0_runYear_3 : decode cX0_runYear 3 = .ok (.iconst 0, 1) := by decide +kernel
theorem dX0_runYear_4 : decode cX0_runYear 4 = .ok (.putfield 15, 3) := by decide +kernel
theorem dX0_runYear_7 : decode cX0_runYear 7 = .ok (.iconst 0, 1) := by decide +kernel
theorem dX0_runYear_8 : decode cX0_runYear 8 = .ok (.istore 4, 2) := by decide +kernel
theorem dX0_runYear_10 : decode cX0_runYear 10 = .ok (.iload 4, 2) := by decide +kernel
theorem dX0_runYear_12 : decode cX0_runYear 12 = .ok (.aload_n 0, 1) := by decide +kernel
theorem dX0_runYear_13 : decode cX0_runYear 13 = .ok (.getfield 18, 3) := by decide +kernel
theorem dX0_runYear_16 : decode cX0_runYear 16 = .ok (.invokevirtual 48, 3) := by decide +kernel
theorem dX0_runYear_19 : decode cX0_runYear 19 = .ok (.if_icmp .ge 99, 3) := by decide +kernel
theorem dX0_runYear_22 : decode cX0_runYear 22 = .ok (.aload_n 0, 1) := by decide +kernel
theorem dX0_runYear_23 : decode cX0_runYear 23 = .ok (.getfield 22, 3) := by decide +kernel
theorem dX0_runYear_26 : decode cX0_runYear 26 = .ok (.iload 4, 2) := by decide +kernel
theorem dX0_runYear_28 : decode cX0_runYear 28 = .ok (.invokevirtual 26, 3) := by decide +kernel
theorem dX0_runYear_31 : decode cX0_runYear 31 = .ok (.aload_n 0, 1) := by decide +kernel
theorem dX0_runYear_32 : decode cX0_runYear 32 = .ok (.getfield 22, 3) := by decide +kernel
theorem dX0_runYear_35 : decode cX0_runYear 35 = .ok (.invokevirtual 36, 3) := by decide +kernel
theorem dX0_runYear_38 : decode cX0_runYear 38 = .ok (.istore 5, 2) := by decide +kernel
theorem dX0_runYear_40 : decode cX0_runYear 40 = .ok (.iconst 0, 1) := by decide +kernel
theorem dX0_runYear_41 : decode cX0_runYear 41 = .ok (.istore 6, 2) := by decide +kernel
theorem dX0_runYear_43 : decode cX0_runYear 43 = .ok (.iload 6, 2) := by decide +kernel
theorem dX0_runYear_45 : decode cX0_runYear 45 = .ok (.iload_n 2, 1) := by decide +kernel
theorem dX0_runYear_46 : decode cX0_runYear 46 = .ok (.if_icmp .ge 36, 3) := by decide +kernel
theorem dX0_runYear_49 : decode cX0_runYear 49 = .ok (.aload_n 0, 1) := by decide +kernel
theorem dX0_runYear_50 : decode cX0_runYear 50 = .ok (.iload_n 1, 1) := by decide +kernel
theorem dX0_runYear_51 : decode cX0_runYear 51 = .ok (.iload 6, 2) := by decide +kernel
theorem dX0_runYear_53 : decode cX0_runYear 53 = .ok (.invokestatic 53, 3) := by decide +kernel
theorem dX0_runYear_56 : decode cX0_runYear 56 = .ok (.invokevirtual 56, 3) := by decide +kernel
theorem dX0_runYear_59 : decode cX0_runYear 59 = .ok (.aload_n 0, 1) := by decide +kernel
theorem dX0_runYear_60 : decode cX0_runYear 60 = .ok (.getfield 22, 3) := by decide +kernel
theorem dX0_runYear_63 : decode cX0_runYear 63 = .ok (.iload 5, 2) := by decide +kernel
theorem dX0_runYear_65 : decode cX0_runYear 65 = .ok (.iload 6, 2) := by decide +kernel
theorem dX0_runYear_67 : decode cX0_runYear 67 = .ok (.iload 6, 2) := by decide +kernel
theorem dX0_runYear_69 : decode cX0_runYear 69 = .ok (.iconst 1, 1) := by decide +kernel
theorem dX0_runYear_70 : decode cX0_runYear 70 = .ok (.iadd, 1) := by decide +kernel
theorem dX0_runYear_71 : decode cX0_runYear 71 = .ok (.invokevirtual 59, 3) := by decide +kernel
theorem dX0_runYear_74 : decode cX0_runYear 74 = .ok (.istore 5, 2) := by decide +kernel
theorem dX0_runYear_76 : decode cX0_runYear 76 = .ok (.iinc 6 1, 3) := by decide +kernel
theorem dX0_runYear_79 : decode cX0_runYear 79 = .ok (.goto (-36), 3) := by decide +kernel
theorem dX0_runYear_82 : decode cX0_runYear 82 = .ok (.iload_n 3, 1) := by decide +kernel
theorem dX0_runYear_83 : decode cX0_runYear 83 = .ok (.iload 5, 2) := by decide +kernel
theorem dX0_runYear_85 : decode cX0_runYear 85 = .ok (.ior, 1) := by decide +kernel
theorem dX0_runYear_86 : decode cX0_runYear 86 = .ok (.istore_n 3, 1) := by decide +kernel
theorem dX0_runYear_87 : decode cX0_runYear 87 = .ok (.aload_n 0, 1) := by decide +kernel
theorem dX0_runYear_88 : decode cX0_runYear 88 = .ok (.dup, 1) := by decide +kernel
theorem dX0_runYear_89 : decode cX0_runYear 89 = .ok (.getfield 15, 3) := by decide +kernel
theorem dX0_runYear_92 : decode cX0_runYear 92 = .ok (.iload 5, 2) := by decide +kernel
theorem dX0_runYear_94 : decode cX0_runYear 94 = .ok (.invokestatic 63, 3) := by decide +kernel
theorem dX0_runYear_97 : decode cX0_runYear 97 = .ok (.aload_n 0, 1) := by decide +kernel
theorem dX0_runYear_98 : decode cX0_runYear 98 = .ok (.getfield 22, 3) := by decide +kernel
theorem dX0_runYear_101 : decode cX0_runYear 101 = .ok (.invokevirtual 36, 3) := by decide +kernel
theorem dX0_runYear_104 : decode cX0_runYear 104 = .ok (.invokestatic 63, 3) := by decide +kernel
theorem dX0_runYear_107 : decode cX0_runYear 107 = .ok (.isub, 1) := by decide +kernel
theorem dX0_runYear_108 : decode cX0_runYear 108 = .ok (.iadd, 1) := by decide +kernel
theorem dX0_runYear_109 : decode cX0_runYear 109 = .ok (.putfield 15, 3) := by decide +kernel
theorem dX0_runYear_112 : decode cX0_runYear 112 = .ok (.iinc 4 1, 3) := by decide +kernel
theorem dX0_runYear_115 : decode cX0_runYear 115 = .ok (.goto (-105), 3) := by decide +kernel
theorem dX0_runYear_118 : decode cX0_runYear 118 = .ok (.aload_n 0, 1) := by decide +kernel
theorem dX0_runYear_119 : decode cX0_runYear 119 = .ok (.iload_n 3, 1) := by decide +kernel
theorem dX0_runYear_120 : decode cX0_runYear 120 = .ok (.invokestatic 63, 3) := by decide +kernel
theorem dX0_runYear_123 : decode cX0_runYear 123 = .ok (.putfield 9, 3) := by decide +kernel
theorem dX0_runYear_126 : decode cX0_runYear 126 = .ok (.return_, 1) := by decide +kernel
theorem dX0_housesThatKnow_0 : decode cX0_housesThatKnow 0 = .ok (.aload_n 0, 1) := by decide +kernel
theorem dX0_housesThatKnow_1 : decode cX0_housesThatKnow 1 = .ok (.getfield 9, 3) := by decide +kernel
theorem dX0_housesThatKnow_4 : decode cX0_housesThatKnow 4 = .ok (.ireturn, 1) := by decide +kernel
theorem dX0_timesHeard_0 : decode cX0_timesHeard 0 = .ok (.aload_n 0, 1) := by decide +kernel
theorem dX0_timesHeard_1 : decode cX0_timesHeard 1 = .ok (.getfield 15, 3) := by decide +kernel
theorem dX0_timesHeard_4 : decode cX0_timesHeard 4 = .ok (.ireturn, 1) := by decide +kernel
theorem dX0_openByDraw_0 : decode cX0_openByDraw 0 = .ok (.aload_n 0, 1) := by decide +kernel
theorem dX0_openByDraw_1 : decode cX0_openByDraw 1 = .ok (.getfield 18, 3) := by decide +kernel
theorem dX0_openByDraw_4 : decode cX0_openByDraw 4 = .ok (.invokevirtual 68, 3) := by decide +kernel
theorem dX0_openByDraw_7 : decode cX0_openByDraw 7 = .ok (.istore_n 2, 1) := by decide +kernel
theorem dX0_openByDraw_8 : decode cX0_openByDraw 8 = .ok (.iload_n 2, 1) := by decide +kernel
theorem dX0_openByDraw_9 : decode cX0_openByDraw 9 = .ok (.ifCond .le 20, 3) := by decide +kernel
theorem dX0_openByDraw_12 : decode cX0_openByDraw 12 = .ok (.aload_n 0, 1) := by decide +kernel
theorem dX0_openByDraw_13 : decode cX0_openByDraw 13 = .ok (.getfield 22, 3) := by decide +kernel
theorem dX0_openByDraw_16 : decode cX0_openByDraw 16 = .ok (.iload_n 1, 1) := by decide +kernel
theorem dX0_openByDraw_17 : decode cX0_openByDraw 17 = .ok (.iload_n 2, 1) := by decide +kernel
theorem dX0_openByDraw_18 : decode cX0_openByDraw 18 = .ok (.irem, 1) := by decide +kernel
theorem dX0_openByDraw_19 : decode cX0_openByDraw 19 = .ok (.iload_n 1, 1) := by decide +kernel
theorem dX0_openByDraw_20 : decode cX0_openByDraw 20 = .ok (.bipush 16, 2) := by decide +kernel
theorem dX0_openByDraw_22 : decode cX0_openByDraw 22 = .ok (.idiv, 1) := by decide +kernel
theorem dX0_openByDraw_23 : decode cX0_openByDraw 23 = .ok (.bipush 7, 2) := by decide +kernel
theorem dX0_openByDraw_25 : decode cX0_openByDraw 25 = .ok (.irem, 1) := by decide +kernel
theorem dX0_openByDraw_26 : decode cX0_openByDraw 26 = .ok (.invokevirtual 71, 3) := by decide +kernel
theorem dX0_openByDraw_29 : decode cX0_openByDraw 29 = .ok (.return_, 1) := by decide +kernel
theorem dX0_draw_0 : decode cX0_draw 0 = .ok (.ldc2_w 75, 3) := by decide +kernel
theorem dX0_draw_3 : decode cX0_draw 3 = .ok (.iload_n 0, 1) := by decide +kernel
theorem dX0_draw_4 : decode cX0_draw 4 = .ok (.i2l, 1) := by decide +kernel
theorem dX0_draw_5 : decode cX0_draw 5 = .ok (.lmul, 1) := by decide +kernel
theorem dX0_draw_6 : decode cX0_draw 6 = .ok (.ldc2_w 77, 3) := by decide +kernel
theorem dX0_draw_9 : decode cX0_draw 9 = .ok (.iload_n 1, 1) := by decide +kernel
theorem dX0_draw_10 : decode cX0_draw 10 = .ok (.i2l, 1) := by decide +kernel
theorem dX0_draw_11 : decode cX0_draw 11 = .ok (.lmul, 1) := by decide +kernel
theorem dX0_draw_12 : decode cX0_draw 12 = .ok (.ladd, 1) := by decide +kernel
theorem dX0_draw_13 : decode cX0_draw 13 = .ok (.lconst 1, 1) := by decide +kernel
theorem dX0_draw_14 : decode cX0_draw 14 = .ok (.ladd, 1) := by decide +kernel
theorem dX0_draw_15 : decode cX0_draw 15 = .ok (.lstore_n 2, 1) := by decide +kernel
theorem dX0_draw_16 : decode cX0_draw 16 = .ok (.lload_n 2, 1) := by decide +kernel
theorem dX0_draw_17 : decode cX0_draw 17 = .ok (.lload_n 2, 1) := by decide +kernel
theorem dX0_draw_18 : decode cX0_draw 18 = .ok (.lmul, 1) := by decide +kernel
theorem dX0_draw_19 : decode cX0_draw 19 = .ok (.ldc2_w 79, 3) := by decide +kernel
theorem dX0_draw_22 : decode cX0_draw 22 = .ok (.lrem, 1) := by decide +kernel
theorem dX0_draw_23 : decode cX0_draw 23 = .ok (.ldc2_w 81, 3) := by decide +kernel
theorem dX0_draw_26 : decode cX0_draw 26 = .ok (.ldiv, 1) := by decide +kernel
theorem dX0_draw_27 : decode cX0_draw 27 = .ok (.l2i, 1) := by decide +kernel
theorem dX0_draw_28 : decode cX0_draw 28 = .ok (.ireturn, 1) := by decide +kernel
theorem dX1_init_0 : decode cX1_init 0 = .ok (.aload_n 0, 1) := by decide +kernel
theorem dX1_init_1 : decode cX1_init 1 = .ok (.invokespecial 3, 3) := by decide +kernel
theorem dX1_init_4 : decode cX1_init 4 = .ok (.aload_n 0, 1) := by decide +kernel
theorem dX1_init_5 : decode cX1_init 5 = .ok (.bipush 16, 2) := by decide +kernel
theorem dX1_init_7 : decode cX1_init 7 = .ok (.newarray .int, 2) := by decide +kernel
theorem dX1_init_9 : decode cX1_init 9 = .ok (.putfield 9, 3) := by decide +kernel
theorem dX1_init_12 : decode cX1_init 12 = .ok (.aload_n 0, 1) := by decide +kernel
theorem dX1_init_13 : decode cX1_init 13 = .ok (.bipush 16, 2) := by decide +kernel
theorem dX1_init_15 : decode cX1_init 15 = .ok (.newarray .int, 2) := by decide +kernel
theorem dX1_init_17 : decode cX1_init 17 = .ok (.putfield 15, 3) := by decide +kernel
theorem dX1_init_20 : decode cX1_init 20 = .ok (.aload_n 0, 1) := by decide +kernel
theorem dX1_init_21 : decode cX1_init 21 = .ok (.iconst 0, 1) := by decide +kernel
theorem dX1_init_22 : decode cX1_init 22 = .ok (.putfield 18, 3) := by decide +kernel
theorem dX1_init_25 : decode cX1_init 25 = .ok (.aload_n 0, 1) := by decide +kernel
theorem dX1_init_26 : decode cX1_init 26 = .ok (.iconst 0, 1) := by decide +kernel
theorem dX1_init_27 : decode cX1_init 27 = .ok (.putfield 22, 3) := by decide +kernel
theorem dX1_init_30 : decode cX1_init 30 = .ok (.aload_n 0, 1) := by decide +kernel
theorem dX1_init_31 : decode cX1_init 31 = .ok (.iconst 0, 1) := by decide +kernel
theorem dX1_init_32 : decode cX1_init 32 = .ok (.putfield 25, 3) := by decide +kernel
theorem dX1_init_35 : decode cX1_init 35 = .ok (.aload_n 0, 1) := by decide +kernel
theorem dX1_init_36 : decode cX1_init 36 = .ok (.iconst 0, 1) := by decide +kernel
theorem dX1_init_37 : decode cX1_init 37 = .ok (.putfield 28, 3) := by decide +kernel
theorem dX1_init_40 : decode cX1_init 40 = .ok (.aload_n 0, 1) := by decide +kernel
theorem dX1_init_41 : decode cX1_init 41 = .ok (.iconst 0, 1) := by decide +kernel
theorem dX1_init_42 : decode cX1_init 42 = .ok (.putfield 31, 3) := by decide +kernel
theorem dX1_init_45 : decode cX1_init 45 = .ok (.aload_n 0, 1) := by decide +kernel
theorem dX1_init_46 : decode cX1_init 46 = .ok (.iconst 0, 1) := by decide +kernel
theorem dX1_init_47 : decode cX1_init 47 = .ok (.putfield 34, 3) := by decide +kernel
theorem dX1_init_50 : decode cX1_init 50 = .ok (.aload_n 0, 1) := by decide +kernel
theorem dX1_init_51 : decode cX1_init 51 = .ok (.iconst 0, 1) := by decide +kernel
theorem dX1_init_52 : decode cX1_init 52 = .ok (.putfield 37, 3) := by decide +kernel
theorem dX1_init_55 : decode cX1_init 55 = .ok (.aload_n 0, 1) := by decide +kernel
theorem dX1_init_56 : decode cX1_init 56 = .ok (.iconst 0, 1) := by decide +kernel
theorem dX1_init_57 : decode cX1_init 57 = .ok (.putfield 40, 3) := by decide +kernel
theorem dX1_init_60 : decode cX1_init 60 = .ok (.aload_n 0, 1) := by decide +kernel
theorem dX1_init_61 : decode cX1_init 61 = .ok (.aload_n 1, 1) := by decide +kernel
theorem dX1_init_62 : decode cX1_init 62 = .ok (.putfield 43, 3) := by decide +kernel
theorem dX1_init_65 : decode cX1_init 65 = .ok (.aload_n 0, 1) := by decide +kernel
theorem dX1_init_66 : decode cX1_init 66 = .ok (.aload_n 2, 1) := by decide +kernel
theorem dX1_init_67 : decode cX1_init 67 = .ok (.putfield 47, 3) := by decide +kernel
theorem dX1_init_70 : decode cX1_init 70 = .ok (.return_, 1) := by decide +kernel
theorem dX1_pick_0 : decode cX1_pick 0 = .ok (.aload_n 0, 1) := by decide +kernel
theorem dX1_pick_1 : decode cX1_pick 1 = .ok (.getfield 43, 3) := by decide +kernel
theorem dX1_pick_4 : decode cX1_pick 4 = .ok (.iload_n 1, 1) := by decide +kernel
theorem dX1_pick_5 : decode cX1_pick 5 = .ok (.invokevirtual 51, 3) := by decide +kernel
theorem dX1_pick_8 : decode cX1_pick 8 = .ok (.iconst 2, 1) := by decide +kernel
theorem dX1_pick_9 : decode cX1_pick 9 = .ok (.if_icmp .ne 7, 3) := by decide +kernel
theorem dX1_pick_12 : decode cX1_pick 12 = .ok (.iconst 1, 1) := by decide +kernel
theorem dX1_pick_13 : decode cX1_pick 13 = .ok (.goto 4, 3) := by decide +kernel
theorem dX1_pick_16 : decode cX1_pick 16 = .ok (.iconst 0, 1) := by decide +kernel
theorem dX1_pick_17 : decode cX1_pick 17 = .ok (.istore_n 2, 1) := by decide +kernel
theorem dX1_pick_18 : decode cX1_pick 18 = .ok (.aload_n 0, 1) := by decide +kernel
theorem dX1_pick_19 : decode cX1_pick 19 = .ok (.aload_n 0, 1) := by decide +kernel
theorem dX1_pick_20 : decode cX1_pick 20 = .ok (.getfield 47, 3) := by decide +kernel
theorem dX1_pick_23 : decode cX1_pick 23 = .ok (.iload_n 1, 1) := by decide +kernel
theorem dX1_pick_24 : decode cX1_pick 24 = .ok (.invokevirtual 57, 3) := by decide +kernel
theorem dX1_pick_27 : decode cX1_pick 27 = .ok (.putfield 18, 3) := by decide +kernel
theorem dX1_pick_30 : decode cX1_pick 30 = .ok (.aload_n 0, 1) := by decide +kernel
theorem dX1_pick_31 : decode cX1_pick 31 = .ok (.iconst 0, 1) := by decide +kernel
theorem dX1_pick_32 : decode cX1_pick 32 = .ok (.putfield 22, 3) := by decide +kernel
theorem dX1_pick_35 : decode cX1_pick 35 = .ok (.aload_n 0, 1) := by decide +kernel
theorem dX1_pick_36 : decode cX1_pick 36 = .ok (.iconst 0, 1) := by decide +kernel
theorem dX1_pick_37 : decode cX1_pick 37 = .ok (.putfield 25, 3) := by decide +kernel
theorem dX1_pick_40 : decode cX1_pick 40 = .ok (.aload_n 0, 1) := by decide +kernel
theorem dX1_pick_41 : decode cX1_pick 41 = .ok (.iconst 0, 1) := by decide +kernel
theorem dX1_pick_42 : decode cX1_pick 42 = .ok (.putfield 28, 3) := by decide +kernel
theorem dX1_pick_45 : decode cX1_pick 45 = .ok (.aload_n 0, 1) := by decide +kernel
theorem dX1_pick_46 : decode cX1_pick 46 = .ok (.iconst 0, 1) := by decide +kernel
theorem dX1_pick_47 : decode cX1_pick 47 = .ok (.putfield 31, 3) := by decide +kernel
theorem dX1_pick_50 : decode cX1_pick 50 = .ok (.aload_n 0, 1) := by decide +kernel
theorem dX1_pick_51 : decode cX1_pick 51 = .ok (.aload_n 0, 1) := by decide +kernel
theorem dX1_pick_52 : decode cX1_pick 52 = .ok (.getfield 43, 3) := by decide +kernel
theorem dX1_pick_55 : decode cX1_pick 55 = .ok (.invokevirtual 61, 3) := by decide +kernel
theorem dX1_pick_58 : decode cX1_pick 58 = .ok (.putfield 34, 3) := by decide +kernel
theorem dX1_pick_61 : decode cX1_pick 61 = .ok (.aload_n 0, 1) := by decide +kernel
theorem dX1_pick_62 : decode cX1_pick 62 = .ok (.aload_n 0, 1) := by decide +kernel
theorem dX1_pick_63 : decode cX1_pick 63 = .ok (.getfield 43, 3) := by decide +kernel
theorem dX1_pick_66 : decode cX1_pick 66 = .ok (.invokevirtual 64, 3) := by decide +kernel
theorem dX1_pick_69 : decode cX1_pick 69 = .ok (.putfield 37, 3) := by decide +kernel
theorem dX1_pick_72 : decode cX1_pick 72 = .ok (.aload_n 0, 1) := by decide +kernel
theorem dX1_pick_73 : decode cX1_pick 73 = .ok (.aload_n 0, 1) := by decide +kernel
theorem dX1_pick_74 : decode cX1_pick 74 = .ok (.getfield 43, 3) := by decide +kernel
theorem dX1_pick_77 : decode cX1_pick 77 = .ok (.invokevirtual 66, 3) := by decide +kernel
theorem dX1_pick_80 : decode cX1_pick 80 = .ok (.putfield 40, 3) := by decide +kernel
theorem dX1_pick_83 : decode cX1_pick 83 = .ok (.iconst 0, 1) := by decide +kernel
theorem dX1_pick_84 : decode cX1_pick 84 = .ok (.istore_n 3, 1) := by decide +kernel
theorem dX1_pick_85 : decode cX1_pick 85 = .ok (.iload_n 3, 1) := by decide +kernel
theorem dX1_pick_86 : decode cX1_pick 86 = .ok (.aload_n 0, 1) := by decide +kernel
theorem dX1_pick_87 : decode cX1_pick 87 = .ok (.getfield 43, 3) := by decide +kernel
theorem dX1_pick_90 : decode cX1_pick 90 = .ok (.invokevirtual 68, 3) := by decide +kernel
theorem dX1_pick_93 : decode cX1_pick 93 = .ok (.if_icmp .ge 130, 3) := by decide +kernel
theorem dX1_pick_96 : decode cX1_pick 96 = .ok (.aload_n 0, 1) := by decide +kernel
theorem dX1_pick_97 : decode cX1_pick 97 = .ok (.getfield 43, 3) := by decide +kernel
theorem dX1_pick_100 : decode cX1_pick 100 = .ok (.iload_n 3, 1) := by decide +kernel
theorem dX1_pick_101 : decode cX1_pick 101 = .ok (.invokevirtual 71, 3) := by decide +kernel
theorem dX1_pick_104 : decode cX1_pick 104 = .ok (.istore 4, 2) := by decide +kernel
theorem dX1_pick_106 : decode cX1_pick 106 = .ok (.iload 4, 2) := by decide +kernel
theorem dX1_pick_108 : decode cX1_pick 108 = .ok (.iconst 3, 1) := by decide +kernel
theorem dX1_pick_109 : decode cX1_pick 109 = .ok (.if_icmp .eq 13, 3) := by decide +kernel
theorem dX1_pick_112 : decode cX1_pick 112 = .ok (.iload 4, 2) := by decide +kernel
theorem dX1_pick_114 : decode cX1_pick 114 = .ok (.iconst 4, 1) := by decide +kernel
theorem dX1_pick_115 : decode cX1_pick 115 = .ok (.if_icmp .ne 11, 3) := by decide +kernel
theorem dX1_pick_118 : decode cX1_pick 118 = .ok (.iload_n 2, 1) := by decide +kernel
theorem dX1_pick_119 : decode cX1_pick 119 = .ok (.ifCond .eq 7, 3) := by decide +kernel
theorem dX1_pick_122 : decode cX1_pick 122 = .ok (.iconst 1, 1) := by decide +kernel
theorem dX1_pick_123 : decode cX1_pick 123 = .ok (.goto 4, 3) := by decide +kernel
theorem dX1_pick_126 : decode cX1_pick 126 = .ok (.iconst 0, 1) := by decide +kernel
theorem dX1_pick_127 : decode cX1_pick 127 = .ok (.istore 5, 2) := by decide +kernel
theorem dX1_pick_129 : decode cX1_pick 129 = .ok (.iload 4, 2) := by decide +kernel
theorem dX1_pick_131 : decode cX1_pick 131 = .ok (.iconst 1, 1) := by decide +kernel
theorem dX1_pick_132 : decode cX1_pick 132 = .ok (.if_icmp .ne 19, 3) := by decide +kernel
theorem dX1_pick_135 : decode cX1_pick 135 = .ok (.aload_n 0, 1) := by decide +kernel
theorem dX1_pick_136 : decode cX1_pick 136 = .ok (.dup, 1) := by decide +kernel
theorem dX1_pick_137 : decode cX1_pick 137 = .ok (.getfield 22, 3) := by decide +kernel
theorem dX1_pick_140 : decode cX1_pick 140 = .ok (.iload_n 3, 1) := by decide +kernel
theorem dX1_pick_141 : decode cX1_pick 141 = .ok (.invokestatic 74, 3) := by decide +kernel
theorem dX1_pick_144 : decode cX1_pick 144 = .ok (.ior, 1) := by decide +kernel
theorem dX1_pick_145 : decode cX1_pick 145 = .ok (.putfield 22, 3) := by decide +kernel
theorem dX1_pick_148 : decode cX1_pick 148 = .ok (.goto 21, 3) := by decide +kernel
theorem dX1_pick_151 : decode cX1_pick 151 = .ok (.iload 5, 2) := by decide +kernel
theorem dX1_pick_153 : decode cX1_pick 153 = .ok (.ifCond .ne 16, 3) := by decide +kernel
theorem dX1_pick_156 : decode cX1_pick 156 = .ok (.aload_n 0, 1) := by decide +kernel
theorem dX1_pick_157 : decode cX1_pick 157 = .ok (.dup, 1) := by decide +kernel
theorem dX1_pick_158 : decode cX1_pick 158 = .ok (.getfield 25, 3) := by decide +kernel
theorem dX1_pick_161 : decode cX1_pick 161 = .ok (.iload_n 3, 1) := by decide +kernel
theorem dX1_pick_162 : decode cX1_pick 162 = .ok (.invokestatic 74, 3) := by decide +kernel
theorem dX1_pick_165 : decode cX1_pick 165 = .ok (.ior, 1) := by decide +kernel
theorem dX1_pick_166 : decode cX1_pick 166 = .ok (.putfield 25, 3) := by decide +kernel
theorem dX1_pick_169 : decode cX1_pick 169 = .ok (.aload_n 0, 1) := by decide +kernel
theorem dX1_pick_170 : decode cX1_pick 170 = .ok (.getfield 15, 3) := by decide +kernel
theorem dX1_pick_173 : decode cX1_pick 173 = .ok (.iload_n 3, 1) := by decide +kernel
theorem dX1_pick_174 : decode cX1_pick 174 = .ok (.iload 4, 2) := by decide +kernel
theorem dX1_pick_176 : decode cX1_pick 176 = .ok (.iconst 2, 1) := by decide +kernel
theorem dX1_pick_177 : decode cX1_pick 177 = .ok (.if_icmp .ne 16, 3) := by decide +kernel
theorem dX1_pick_180 : decode cX1_pick 180 = .ok (.aload_n 0, 1) := by decide +kernel
theorem dX1_pick_181 : decode cX1_pick 181 = .ok (.getfield 43, 3) := by decide +kernel
theorem dX1_pick_184 : decode cX1_pick 184 = .ok (.iload_n 1, 1) := by decide +kernel
theorem dX1_pick_185 : decode cX1_pick 185 = .ok (.invokevirtual 77, 3) := by decide +kernel
theorem dX1_pick_188 : decode cX1_pick 188 = .ok (.iconst 1, 1) := by decide +kernel
theorem dX1_pick_189 : decode cX1_pick 189 = .ok (.iadd, 1) := by decide +kernel
theorem dX1_pick_190 : decode cX1_pick 190 = .ok (.goto 11, 3) := by decide +kernel
theorem dX1_pick_193 : decode cX1_pick 193 = .ok (.aload_n 0, 1) := by decide +kernel
theorem dX1_pick_194 : decode cX1_pick 194 = .ok (.getfield 43, 3) := by decide +kernel
theorem dX1_pick_197 : decode cX1_pick 197 = .ok (.iload_n 1, 1) := by decide +kernel
theorem dX1_pick_198 : decode cX1_pick 198 = .ok (.invokevirtual 77, 3) := by decide +kernel
theorem dX1_pick_201 : decode cX1_pick 201 = .ok (.invokestatic 80, 3) := by decide +kernel
theorem dX1_pick_204 : decode cX1_pick 204 = .ok (.aload_n 0, 1) := by decide +kernel
theorem dX1_pick_205 : decode cX1_pick 205 = .ok (.iload_n 3, 1) := by decide +kernel
theorem dX1_pick_206 : decode cX1_pick 206 = .ok (.aload_n 0, 1) := by decide +kernel
theorem dX1_pick_207 : decode cX1_pick 207 = .ok (.getfield 47, 3) := by decide +kernel
theorem dX1_pick_210 : decode cX1_pick 210 = .ok (.iload_n 3, 1) := by decide +kernel
theorem dX1_pick_211 : decode cX1_pick 211 = .ok (.invokevirtual 84, 3) := by decide +kernel
theorem dX1_pick_214 : decode cX1_pick 214 = .ok (.invokevirtual 87, 3) := by decide +kernel
theorem dX1_pick_217 : decode cX1_pick 217 = .ok (.iinc 3 1, 3) := by decide +kernel
theorem dX1_pick_220 : decode cX1_pick 220 = .ok (.goto (-135), 3) := by decide +kernel
theorem dX1_pick_223 : decode cX1_pick 223 = .ok (.return_, 1) := by decide +kernel
theorem dX1_reopen_0 : decode cX1_reopen 0 = .ok (.aload_n 0, 1) := by decide +kernel
theorem dX1_reopen_1 : decode cX1_reopen 1 = .ok (.getfield 9, 3) := by decide +kernel
theorem dX1_reopen_4 : decode cX1_reopen 4 = .ok (.iload_n 1, 1) := by decide +kernel
theorem dX1_reopen_5 : decode cX1_reopen 5 = .ok (.iload_n 2, 1) := by decide +kernel
theorem dX1_reopen_6 : decode cX1_reopen 6 = .ok (.invokestatic 80, 3) := by decide +kernel
theorem dX1_reopen_9 : decode cX1_reopen 9 = .ok (.aload_n 0, 1) := by decide +kernel
theorem dX1_reopen_10 : decode cX1_reopen 10 = .ok (.aload_n 0, 1) := by decide +kernel
theorem dX1_reopen_11 : decode cX1_reopen 11 = .ok (.iload_n 1, 1) := by decide +kernel
theorem dX1_reopen_12 : decode cX1_reopen 12 = .ok (.iload_n 2, 1) := by decide +kernel
theorem dX1_reopen_13 : decode cX1_reopen 13 = .ok (.invokevirtual 91, 3) := by decide +kernel
theorem dX1_reopen_16 : decode cX1_reopen 16 = .ok (.ifCond .eq 15, 3) := by decide +kernel
theorem dX1_reopen_19 : decode cX1_reopen 19 = .ok (.aload_n 0, 1) := by decide +kernel
theorem dX1_reopen_20 : decode cX1_reopen 20 = .ok (.getfield 31, 3) := by decide +kernel
theorem dX1_reopen_23 : decode cX1_reopen 23 = .ok (.iload_n 1, 1) := by decide +kernel
theorem dX1_reopen_24 : decode cX1_reopen 24 = .ok (.invokestatic 74, 3) := by decide +kernel
theorem dX1_reopen_27 : decode cX1_reopen 27 = .ok (.ior, 1) := by decide +kernel
theorem dX1_reopen_28 : decode cX1_reopen 28 = .ok (.goto 14, 3) := by decide +kernel
theorem dX1_reopen_31 : decode cX1_reopen 31 = .ok (.aload_n 0, 1) := by decide +kernel
theorem dX1_reopen_32 : decode cX1_reopen 32 = .ok (.getfield 31, 3) := by decide +kernel
theorem dX1_reopen_35 : decode cX1_reopen 35 = .ok (.iload_n 1, 1) := by decide +kernel
theorem dX1_reopen_36 : decode cX1_reopen 36 = .ok (.invokestatic 74, 3) := by decide +kernel
theorem dX1_reopen_39 : decode cX1_reopen 39 = .ok (.iconst (-1), 1) := by decide +kernel
theorem dX1_reopen_40 : decode cX1_reopen 40 = .ok (.ixor, 1) := by decide +kernel
theorem dX1_reopen_41 : decode cX1_reopen 41 = .ok (.iand, 1) := by decide +kernel
theorem dX1_reopen_42 : decode cX1_reopen 42 = .ok (.putfield 31, 3) := by decide +kernel
theorem dX1_reopen_45 : decode cX1_reopen 45 = .ok (.aload_n 0, 1) := by decide +kernel
theorem dX1_reopen_46 : decode cX1_reopen 46 = .ok (.aload_n 0, 1) := by decide +kernel
theorem dX1_reopen_47 : decode cX1_reopen 47 = .ok (.iload_n 1, 1) := by decide +kernel
theorem dX1_reopen_48 : decode cX1_reopen 48 = .ok (.iload_n 2, 1) := by decide +kernel
theorem dX1_reopen_49 : decode cX1_reopen 49 = .ok (.invokevirtual 95, 3) := by decide +kernel
theorem dX1_reopen_52 : decode cX1_reopen 52 = .ok (.ifCond .eq 15, 3) := by decide +kernel
theorem dX1_reopen_55 : decode cX1_reopen 55 = .ok (.aload_n 0, 1) := by decide +kernel
theorem dX1_reopen_56 : decode cX1_reopen 56 = .ok (.getfield 28, 3) := by decide +kernel
theorem dX1_reopen_59 : decode cX1_reopen 59 = .ok (.iload_n 1, 1) := by decide +kernel
theorem dX1_reopen_60 : decode cX1_reopen 60 = .ok (.invokestatic 74, 3) := by decide +kernel
theorem dX1_reopen_63 : decode cX1_reopen 63 = .ok (.ior, 1) := by decide +kernel
theorem dX1_reopen_64 : decode cX1_reopen 64 = .ok (.goto 14, 3) := by decide +kernel
theorem dX1_reopen_67 : decode cX1_reopen 67 = .ok (.aload_n 0, 1) := by decide +kernel
theorem dX1_reopen_68 : decode cX1_reopen 68 = .ok (.getfield 28, 3) := by decide +kernel
theorem dX1_reopen_71 : decode cX1_reopen 71 = .ok (.iload_n 1, 1) := by decide +kernel
theorem dX1_reopen_72 : decode cX1_reopen 72 = .ok (.invokestatic 74, 3) := by decide +kernel
theorem dX1_reopen_75 : decode cX1_reopen 75 = .ok (.iconst (-1), 1) := by decide +kernel
theorem dX1_reopen_76 : decode cX1_reopen 76 = .ok (.ixor, 1) := by decide +kernel
theorem dX1_reopen_77 : decode cX1_reopen 77 = .ok (.iand, 1) := by decide +kernel
theorem dX1_reopen_78 : decode cX1_reopen 78 = .ok (.putfield 28, 3) := by decide +kernel
theorem dX1_reopen_81 : decode cX1_reopen 81 = .ok (.return_, 1) := by decide +kernel
theorem dX1_isAnother_0 : decode cX1_isAnother 0 = .ok (.iload_n 2, 1) := by decide +kernel
theorem dX1_isAnother_1 : decode cX1_isAnother 1 = .ok (.iconst 1, 1) := by decide +kernel
theorem dX1_isAnother_2 : decode cX1_isAnother 2 = .ok (.if_icmp .lt 37, 3) := by decide +kernel
theorem dX1_isAnother_5 : decode cX1_isAnother 5 = .ok (.aload_n 0, 1) := by decide +kernel
theorem dX1_isAnother_6 : decode cX1_isAnother 6 = .ok (.iload_n 1, 1) := by decide +kernel
theorem dX1_isAnother_7 : decode cX1_isAnother 7 = .ok (.iload_n 2, 1) := by decide +kernel
theorem dX1_isAnother_8 : decode cX1_isAnother 8 = .ok (.invokevirtual 91, 3) := by decide +kernel
theorem dX1_isAnother_11 : decode cX1_isAnother 11 = .ok (.aload_n 0, 1) := by decide +kernel
theorem dX1_isAnother_12 : decode cX1_isAnother 12 = .ok (.iload_n 1, 1) := by decide +kernel
theorem dX1_isAnother_13 : decode cX1_isAnother 13 = .ok (.iload_n 2, 1) := by decide +kernel
theorem dX1_isAnother_14 : decode cX1_isAnother 14 = .ok (.iconst 1, 1) := by decide +kernel
theorem dX1_isAnother_15 : decode cX1_isAnother 15 = .ok (.isub, 1) := by decide +kernel
theorem dX1_isAnother_16 : decode cX1_isAnother 16 = .ok (.invokevirtual 91, 3) := by decide +kernel
theorem dX1_isAnother_19 : decode cX1_isAnother 19 = .ok (.if_icmp .ne 20, 3) := by decide +kernel
theorem dX1_isAnother_22 : decode cX1_isAnother 22 = .ok (.aload_n 0, 1) := by decide +kernel
theorem dX1_isAnother_23 : decode cX1_isAnother 23 = .ok (.iload_n 1, 1) := by decide +kernel
theorem dX1_isAnother_24 : decode cX1_isAnother 24 = .ok (.iload_n 2, 1) := by decide +kernel
theorem dX1_isAnother_25 : decode cX1_isAnother 25 = .ok (.invokevirtual 95, 3) := by decide +kernel
theorem dX1_isAnother_28 : decode cX1_isAnother 28 = .ok (.aload_n 0, 1) := by decide +kernel
theorem dX1_isAnother_29 : decode cX1_isAnother 29 = .ok (.iload_n 1, 1) := by decide +kernel
theorem dX1_isAnother_30 : decode cX1_isAnother 30 = .ok (.iload_n 2, 1) := by decide +kernel
theorem dX1_isAnother_31 : decode cX1_isAnother 31 = .ok (.iconst 1, 1) := by decide +kernel
theorem dX1_isAnother_32 : decode cX1_isAnother 32 = .ok (.isub, 1) := by decide +kernel
theorem dX1_isAnother_33 : decode cX1_isAnother 33 = .ok (.invokevirtual 95, 3) := by decide +kernel
theorem dX1_isAnother_36 : decode cX1_isAnother 36 = .ok (.if_icmp .eq 7, 3) := by decide +kernel
theorem dX1_isAnother_39 : decode cX1_isAnother 39 = .ok (.iconst 1, 1) := by decide +kernel
theorem dX1_isAnother_40 : decode cX1_isAnother 40 = .ok (.goto 4, 3) := by decide +kernel
theorem dX1_isAnother_43 : decode cX1_isAnother 43 = .ok (.iconst 0, 1) := by decide +kernel
theorem dX1_isAnother_44 : decode cX1_isAnother 44 = .ok (.ireturn, 1) := by decide +kernel
theorem dX1_letsInFromTalkers_0 : decode cX1_letsInFromTalkers 0 = .ok (.iload_n 2, 1) := by decide +kernel
theorem dX1_letsInFromTalkers_1 : decode cX1_letsInFromTalkers 1 = .ok (.ifCond .le 19, 3) := by decide +kernel
theorem dX1_letsInFromTalkers_4 : decode cX1_letsInFromTalkers 4 = .ok (.iload_n 2, 1) := by decide +kernel
theorem dX1_letsInFromTalkers_5 : decode cX1_letsInFromTalkers 5 = .ok (.aload_n 0, 1) := by decide +kernel
theorem dX1_letsInFromTalkers_6 : decode cX1_letsInFromTalkers 6 = .ok (.getfield 15, 3) := by decide +kernel
theorem dX1_letsInFromTalkers_9 : decode cX1_letsInFromTalkers 9 = .ok (.iload_n 1, 1) := by decide +kernel
theorem dX1_letsInFromTalkers_10 : decode cX1_letsInFromTalkers 10 = .ok (.invokestatic 98, 3) := by decide +kernel
theorem dX1_letsInFromTalkers_13 : decode cX1_letsInFromTalkers 13 = .ok (.if_icmp .lt 7, 3) := by decide +kernel
theorem dX1_letsInFromTalkers_16 : decode cX1_letsInFromTalkers 16 = .ok (.iconst 1, 1) := by decide +kernel
theorem dX1_letsInFromTalkers_17 : decode cX1_letsInFromTalkers 17 = .ok (.goto 4, 3) := by decide +kernel
theorem dX1_letsInFromTalkers_20 : decode cX1_letsInFromTalkers 20 = .ok (.iconst 0, 1) := by decide +kernel
theorem dX1_letsInFromTalkers_21 : decode cX1_letsInFromTalkers 21 = .ok (.ireturn, 1) := by decide +kernel
theorem dX1_letsInFromGossips_0 : decode cX1_letsInFromGossips 0 = .ok (.iload_n 2, 1) := by decide +kernel
theorem dX1_letsInFromGossips_1 : decode cX1_letsInFromGossips 1 = .ok (.ifCond .le 21, 3) := by decide +kernel
theorem dX1_letsInFromGossips_4 : decode cX1_letsInFromGossips 4 = .ok (.iload_n 2, 1) := by decide +kernel
theorem dX1_letsInFromGossips_5 : decode cX1_letsInFromGossips 5 = .ok (.aload_n 0, 1) := by decide +kernel
theorem dX1_letsInFromGossips_6 : decode cX1_letsInFromGossips 6 = .ok (.getfield 15, 3) := by decide +kernel
theorem dX1_letsInFromGossips_9 : decode cX1_letsInFromGossips 9 = .ok (.iload_n 1, 1) := by decide +kernel
theorem dX1_letsInFromGossips_10 : decode cX1_letsInFromGossips 10 = .ok (.invokestatic 98, 3) := by decide +kernel
theorem dX1_letsInFromGossips_13 : decode cX1_letsInFromGossips 13 = .ok (.iconst 1, 1) := by decide +kernel
theorem dX1_letsInFromGossips_14 : decode cX1_letsInFromGossips 14 = .ok (.isub, 1) := by decide +kernel
theorem dX1_letsInFromGossips_15 : decode cX1_letsInFromGossips 15 = .ok (.if_icmp .lt 7, 3) := by decide +kernel
theorem dX1_letsInFromGossips_18 : decode cX1_letsInFromGossips 18 = .ok (.iconst 1, 1) := by decide +kernel
theorem dX1_letsInFromGossips_19 : decode cX1_letsInFromGossips 19 = .ok (.goto 4, 3) := by decide +kernel
theorem dX1_letsInFromGossips_22 : decode cX1_letsInFromGossips 22 = .ok (.iconst 0, 1) := by decide +kernel
theorem dX1_letsInFromGossips_23 : decode cX1_letsInFromGossips 23 = .ok (.ireturn, 1) := by decide +kernel
theorem dX1_stuff_0 : decode cX1_stuff 0 = .ok (.iconst 0, 1) := by decide +kernel
theorem dX1_stuff_1 : decode cX1_stuff 1 = .ok (.istore_n 2, 1) := by decide +kernel
theorem dX1_stuff_2 : decode cX1_stuff 2 = .ok (.iload_n 2, 1) := by decide +kernel
theorem dX1_stuff_3 : decode cX1_stuff 3 = .ok (.aload_n 0, 1) := by decide +kernel
theorem dX1_stuff_4 : decode cX1_stuff 4 = .ok (.getfield 43, 3) := by decide +kernel
theorem dX1_stuff_7 : decode cX1_stuff 7 = .ok (.invokevirtual 68, 3) := by decide +kernel
theorem dX1_stuff_10 : decode cX1_stuff 10 = .ok (.if_icmp .ge 23, 3) := by decide +kernel
theorem dX1_stuff_13 : decode cX1_stuff 13 = .ok (.iload_n 1, 1) := by decide +kernel
theorem dX1_stuff_14 : decode cX1_stuff 14 = .ok (.iload_n 2, 1) := by decide +kernel
theorem dX1_stuff_15 : decode cX1_stuff 15 = .ok (.invokestatic 102, 3) := by decide +kernel
theorem dX1_stuff_18 : decode cX1_stuff 18 = .ok (.ifCond .eq 9, 3) := by decide +kernel
theorem dX1_stuff_21 : decode cX1_stuff 21 = .ok (.aload_n 0, 1) := by decide +kernel
theorem dX1_stuff_22 : decode cX1_stuff 22 = .ok (.iload_n 2, 1) := by decide +kernel
theorem dX1_stuff_23 : decode cX1_stuff 23 = .ok (.iconst 0, 1) := by decide +kernel
theorem dX1_stuff_24 : decode cX1_stuff 24 = .ok (.invokevirtual 87, 3) := by decide +kernel
theorem dX1_stuff_27 : decode cX1_stuff 27 = .ok (.iinc 2 1, 3) := by decide +kernel
theorem dX1_stuff_30 : decode cX1_stuff 30 = .ok (.goto (-28), 3) := by decide +kernel
theorem dX1_stuff_33 : decode cX1_stuff 33 = .ok (.return_, 1) := by decide +kernel
theorem dX1_sashOf_0 : decode cX1_sashOf 0 = .ok (.aload_n 0, 1) := by decide +kernel
theorem dX1_sashOf_1 : decode cX1_sashOf 1 = .ok (.getfield 9, 3) := by decide +kernel
theorem dX1_sashOf_4 : decode cX1_sashOf 4 = .ok (.iload_n 1, 1) := by decide +kernel
theorem dX1_sashOf_5 : decode cX1_sashOf 5 = .ok (.invokestatic 98, 3) := by decide +kernel
theorem dX1_sashOf_8 : decode cX1_sashOf 8 = .ok (.ireturn, 1) := by decide +kernel
theorem dX1_whoKnows_0 : decode cX1_whoKnows 0 = .ok (.aload_n 0, 1) := by decide +kernel
theorem dX1_whoKnows_1 : decode cX1_whoKnows 1 = .ok (.getfield 18, 3) := by decide +kernel
theorem dX1_whoKnows_4 : decode cX1_whoKnows 4 = .ok (.ireturn, 1) := by decide +kernel
theorem dX1_hears_0 : decode cX1_hears 0 = .ok (.aload_n 0, 1) := by decide +kernel
theorem dX1_hears_1 : decode cX1_hears 1 = .ok (.aload_n 0, 1) := by decide +kernel
theorem dX1_hears_2 : decode cX1_hears 2 = .ok (.getfield 18, 3) := by decide +kernel
theorem dX1_hears_5 : decode cX1_hears 5 = .ok (.iconst 0, 1) := by decide +kernel
theorem dX1_hears_6 : decode cX1_hears 6 = .ok (.iload_n 2, 1) := by decide +kernel
theorem dX1_hears_7 : decode cX1_hears 7 = .ok (.invokevirtual 105, 3) := by decide +kernel
theorem dX1_hears_10 : decode cX1_hears 10 = .ok (.iload_n 1, 1) := by decide +kernel
theorem dX1_hears_11 : decode cX1_hears 11 = .ok (.invokestatic 102, 3) := by decide +kernel
theorem dX1_hears_14 : decode cX1_hears 14 = .ok (.ireturn, 1) := by decide +kernel
theorem dX1_along_0 : decode cX1_along 0 = .ok (.aload_n 0, 1) := by decide +kernel
theorem dX1_along_1 : decode cX1_along 1 = .ok (.getfield 43, 3) := by decide +kernel
theorem dX1_along_4 : decode cX1_along 4 = .ok (.invokevirtual 109, 3) := by decide +kernel
theorem dX1_along_7 : decode cX1_along 7 = .ok (.istore 4, 2) := by decide +kernel
theorem dX1_along_9 : decode cX1_along 9 = .ok (.iload_n 1, 1) := by decide +kernel
theorem dX1_along_10 : decode cX1_along 10 = .ok (.istore 5, 2) := by decide +kernel
theorem dX1_along_12 : decode cX1_along 12 = .ok (.iconst 0, 1) := by decide +kernel
theorem dX1_along_13 : decode cX1_along 13 = .ok (.istore 6, 2) := by decide +kernel
theorem dX1_along_15 : decode cX1_along 15 = .ok (.iload_n 2, 1) := by decide +kernel
theorem dX1_along_16 : decode cX1_along 16 = .ok (.istore 7, 2) := by decide +kernel
theorem dX1_along_18 : decode cX1_along 18 = .ok (.iload 7, 2) := by decide +kernel
theorem dX1_along_20 : decode cX1_along 20 = .ok (.iload_n 3, 1) := by decide +kernel
theorem dX1_along_21 : decode cX1_along 21 = .ok (.if_icmp .ge 62, 3) := by decide +kernel
theorem dX1_along_24 : decode cX1_along 24 = .ok (.iload 6, 2) := by decide +kernel
theorem dX1_along_26 : decode cX1_along 26 = .ok (.iload 4, 2) := by decide +kernel
theorem dX1_along_28 : decode cX1_along 28 = .ok (.if_icmp .ge 55, 3) := by decide +kernel
theorem dX1_along_31 : decode cX1_along 31 = .ok (.aload_n 0, 1) := by decide +kernel
theorem dX1_along_32 : decode cX1_along 32 = .ok (.iload 5, 2) := by decide +kernel
theorem dX1_along_34 : decode cX1_along 34 = .ok (.aload_n 0, 1) := by decide +kernel
theorem dX1_along_35 : decode cX1_along 35 = .ok (.getfield 43, 3) := by decide +kernel
theorem dX1_along_38 : decode cX1_along 38 = .ok (.aload_n 0, 1) := by decide +kernel
theorem dX1_along_39 : decode cX1_along 39 = .ok (.getfield 47, 3) := by decide +kernel
theorem dX1_along_42 : decode cX1_along 42 = .ok (.invokevirtual 112, 3) := by decide +kernel
theorem dX1_along_45 : decode cX1_along 45 = .ok (.iload 7, 2) := by decide +kernel
theorem dX1_along_47 : decode cX1_along 47 = .ok (.iadd, 1) := by decide +kernel
theorem dX1_along_48 : decode cX1_along 48 = .ok (.invokevirtual 115, 3) := by decide +kernel
theorem dX1_along_51 : decode cX1_along 51 = .ok (.invokevirtual 118, 3) := by decide +kernel
theorem dX1_along_54 : decode cX1_along 54 = .ok (.istore 8, 2) := by decide +kernel
theorem dX1_along_56 : decode cX1_along 56 = .ok (.iload 8, 2) := by decide +kernel
theorem dX1_along_58 : decode cX1_along 58 = .ok (.iload 5, 2) := by decide +kernel
theorem dX1_along_60 : decode cX1_along 60 = .ok (.if_icmp .ne 10, 3) := by decide +kernel
theorem dX1_along_63 : decode cX1_along 63 = .ok (.iload 6, 2) := by decide +kernel
theorem dX1_along_65 : decode cX1_along 65 = .ok (.iconst 1, 1) := by decide +kernel
theorem dX1_along_66 : decode cX1_along 66 = .ok (.iadd, 1) := by decide +kernel
theorem dX1_along_67 : decode cX1_along 67 = .ok (.goto 4, 3) := by decide +kernel
theorem dX1_along_70 : decode cX1_along 70 = .ok (.iconst 0, 1) := by decide +kernel
theorem dX1_along_71 : decode cX1_along 71 = .ok (.istore 6, 2) := by decide +kernel
theorem dX1_along_73 : decode cX1_along 73 = .ok (.iload 8, 2) := by decide +kernel
theorem dX1_along_75 : decode cX1_along 75 = .ok (.istore 5, 2) := by decide +kernel
theorem dX1_along_77 : decode cX1_along 77 = .ok (.iinc 7 1, 3) := by decide +kernel
theorem dX1_along_80 : decode cX1_along 80 = .ok (.goto (-62), 3) := by decide +kernel
theorem dX1_along_83 : decode cX1_along 83 = .ok (.iload 5, 2) := by decide +kernel
theorem dX1_along_85 : decode cX1_along 85 = .ok (.ireturn, 1) := by decide +kernel
theorem dX1_onward_0 : decode cX1_onward 0 = .ok (.iload_n 1, 1) := by decide +kernel
theorem dX1_onward_1 : decode cX1_onward 1 = .ok (.aload_n 0, 1) := by decide +kernel
theorem dX1_onward_2 : decode cX1_onward 2 = .ok (.getfield 22, 3) := by decide +kernel
theorem dX1_onward_5 : decode cX1_onward 5 = .ok (.iand, 1) := by decide +kernel
theorem dX1_onward_6 : decode cX1_onward 6 = .ok (.istore_n 3, 1) := by decide +kernel
theorem dX1_onward_7 : decode cX1_onward 7 = .ok (.iload_n 1, 1) := by decide +kernel
theorem dX1_onward_8 : decode cX1_onward 8 = .ok (.aload_n 0, 1) := by decide +kernel
theorem dX1_onward_9 : decode cX1_onward 9 = .ok (.getfield 25, 3) := by decide +kernel
theorem dX1_onward_12 : decode cX1_onward 12 = .ok (.iand, 1) := by decide +kernel
theorem dX1_onward_13 : decode cX1_onward 13 = .ok (.istore 4, 2) := by decide +kernel
theorem dX1_onward_15 : decode cX1_onward 15 = .ok (.iload_n 1, 1) := by decide +kernel
theorem dX1_onward_16 : decode cX1_onward 16 = .ok (.istore 5, 2) := by decide +kernel
theorem dX1_onward_18 : decode cX1_onward 18 = .ok (.iload_n 2, 1) := by decide +kernel
theorem dX1_onward_19 : decode cX1_onward 19 = .ok (.iconst 1, 1) := by decide +kernel
theorem dX1_onward_20 : decode cX1_onward 20 = .ok (.if_icmp .eq 7, 3) := by decide +kernel
theorem dX1_onward_23 : decode cX1_onward 23 = .ok (.iload_n 2, 1) := by decide +kernel
theorem dX1_onward_24 : decode cX1_onward 24 = .ok (.ifCond .ne 36, 3) := by decide +kernel
theorem dX1_onward_27 : decode cX1_onward 27 = .ok (.iload 5, 2) := by decide +kernel
theorem dX1_onward_29 : decode cX1_onward 29 = .ok (.iload_n 3, 1) := by decide +kernel
theorem dX1_onward_30 : decode cX1_onward 30 = .ok (.aload_n 0, 1) := by decide +kernel
theorem dX1_onward_31 : decode cX1_onward 31 = .ok (.getfield 34, 3) := by decide +kernel
theorem dX1_onward_34 : decode cX1_onward 34 = .ok (.iushr, 1) := by decide +kernel
theorem dX1_onward_35 : decode cX1_onward 35 = .ok (.aload_n 0, 1) := by decide +kernel
theorem dX1_onward_36 : decode cX1_onward 36 = .ok (.getfield 28, 3) := by decide +kernel
theorem dX1_onward_39 : decode cX1_onward 39 = .ok (.iand, 1) := by decide +kernel
theorem dX1_onward_40 : decode cX1_onward 40 = .ok (.ior, 1) := by decide +kernel
theorem dX1_onward_41 : decode cX1_onward 41 = .ok (.istore 5, 2) := by decide +kernel
theorem dX1_onward_43 : decode cX1_onward 43 = .ok (.iload 5, 2) := by decide +kernel
theorem dX1_onward_45 : decode cX1_onward 45 = .ok (.iload 4, 2) := by decide +kernel
theorem dX1_onward_47 : decode cX1_onward 47 = .ok (.aload_n 0, 1) := by decide +kernel
theorem dX1_onward_48 : decode cX1_onward 48 = .ok (.getfield 34, 3) := by decide +kernel
theorem dX1_onward_51 : decode cX1_onward 51 = .ok (.iushr, 1) := by decide +kernel
theorem dX1_onward_52 : decode cX1_onward 52 = .ok (.aload_n 0, 1) := by decide +kernel
theorem dX1_onward_53 : decode cX1_onward 53 = .ok (.getfield 31, 3) := by decide +kernel
theorem dX1_onward_56 : decode cX1_onward 56 = .ok (.iand, 1) := by decide +kernel
theorem dX1_onward_57 : decode cX1_onward 57 = .ok (.ior, 1) := by decide +kernel
theorem dX1_onward_58 : decode cX1_onward 58 = .ok (.istore 5, 2) := by decide +kernel
theorem dX1_onward_60 : decode cX1_onward 60 = .ok (.iload_n 2, 1) := by decide +kernel
theorem dX1_onward_61 : decode cX1_onward 61 = .ok (.iconst 2, 1) := by decide +kernel
theorem dX1_onward_62 : decode cX1_onward 62 = .ok (.if_icmp .eq 7, 3) := by decide +kernel
theorem dX1_onward_65 : decode cX1_onward 65 = .ok (.iload_n 2, 1) := by decide +kernel
theorem dX1_onward_66 : decode cX1_onward 66 = .ok (.ifCond .ne 44, 3) := by decide +kernel
theorem dX1_onward_69 : decode cX1_onward 69 = .ok (.iload 5, 2) := by decide +kernel
theorem dX1_onward_71 : decode cX1_onward 71 = .ok (.iload_n 3, 1) := by decide +kernel
theorem dX1_onward_72 : decode cX1_onward 72 = .ok (.aload_n 0, 1) := by decide +kernel
theorem dX1_onward_73 : decode cX1_onward 73 = .ok (.getfield 40, 3) := by decide +kernel
theorem dX1_onward_76 : decode cX1_onward 76 = .ok (.iconst (-1), 1) := by decide +kernel
theorem dX1_onward_77 : decode cX1_onward 77 = .ok (.ixor, 1) := by decide +kernel
theorem dX1_onward_78 : decode cX1_onward 78 = .ok (.iand, 1) := by decide +kernel
theorem dX1_onward_79 : decode cX1_onward 79 = .ok (.iconst 1, 1) := by decide +kernel
theorem dX1_onward_80 : decode cX1_onward 80 = .ok (.ishl, 1) := by decide +kernel
theorem dX1_onward_81 : decode cX1_onward 81 = .ok (.aload_n 0, 1) := by decide +kernel
theorem dX1_onward_82 : decode cX1_onward 82 = .ok (.getfield 28, 3) := by decide +kernel
theorem dX1_onward_85 : decode cX1_onward 85 = .ok (.iand, 1) := by decide +kernel
theorem dX1_onward_86 : decode cX1_onward 86 = .ok (.ior, 1) := by decide +kernel
theorem dX1_onward_87 : decode cX1_onward 87 = .ok (.istore 5, 2) := by decide +kernel
theorem dX1_onward_89 : decode cX1_onward 89 = .ok (.iload 5, 2) := by decide +kernel
theorem dX1_onward_91 : decode cX1_onward 91 = .ok (.iload 4, 2) := by decide +kernel
theorem dX1_onward_93 : decode cX1_onward 93 = .ok (.aload_n 0, 1) := by decide +kernel
theorem dX1_onward_94 : decode cX1_onward 94 = .ok (.getfield 40, 3) := by decide +kernel
theorem dX1_onward_97 : decode cX1_onward 97 = .ok (.iconst (-1), 1) := by decide +kernel
theorem dX1_onward_98 : decode cX1_onward 98 = .ok (.ixor, 1) := by decide +kernel
theorem dX1_onward_99 : decode cX1_onward 99 = .ok (.iand, 1) := by decide +kernel
theorem dX1_onward_100 : decode cX1_onward 100 = .ok (.iconst 1, 1) := by decide +kernel
theorem dX1_onward_101 : decode cX1_onward 101 = .ok (.ishl, 1) := by decide +kernel
theorem dX1_onward_102 : decode cX1_onward 102 = .ok (.aload_n 0, 1) := by decide +kernel
theorem dX1_onward_103 : decode cX1_onward 103 = .ok (.getfield 31, 3) := by decide +kernel
theorem dX1_onward_106 : decode cX1_onward 106 = .ok (.iand, 1) := by decide +kernel
theorem dX1_onward_107 : decode cX1_onward 107 = .ok (.ior, 1) := by decide +kernel
theorem dX1_onward_108 : decode cX1_onward 108 = .ok (.istore 5, 2) := by decide +kernel
theorem dX1_onward_110 : decode cX1_onward 110 = .ok (.iload_n 2, 1) := by decide +kernel
theorem dX1_onward_111 : decode cX1_onward 111 = .ok (.iconst 3, 1) := by decide +kernel
theorem dX1_onward_112 : decode cX1_onward 112 = .ok (.if_icmp .eq 7, 3) := by decide +kernel
theorem dX1_onward_115 : decode cX1_onward 115 = .ok (.iload_n 2, 1) := by decide +kernel
theorem dX1_onward_116 : decode cX1_onward 116 = .ok (.ifCond .ne 36, 3) := by decide +kernel
theorem dX1_onward_119 : decode cX1_onward 119 = .ok (.iload 5, 2) := by decide +kernel
theorem dX1_onward_121 : decode cX1_onward 121 = .ok (.iload_n 3, 1) := by decide +kernel
theorem dX1_onward_122 : decode cX1_onward 122 = .ok (.aload_n 0, 1) := by decide +kernel
theorem dX1_onward_123 : decode cX1_onward 123 = .ok (.getfield 34, 3) := by decide +kernel
theorem dX1_onward_126 : decode cX1_onward 126 = .ok (.ishl, 1) := by decide +kernel
theorem dX1_onward_127 : decode cX1_onward 127 = .ok (.aload_n 0, 1) := by decide +kernel
theorem dX1_onward_128 : decode cX1_onward 128 = .ok (.getfield 28, 3) := by decide +kernel
theorem dX1_onward_131 : decode cX1_onward 131 = .ok (.iand, 1) := by decide +kernel
theorem dX1_onward_132 : decode cX1_onward 132 = .ok (.ior, 1) := by decide +kernel
theorem dX1_onward_133 : decode cX1_onward 133 = .ok (.istore 5, 2) := by decide +kernel
theorem dX1_onward_135 : decode cX1_onward 135 = .ok (.iload 5, 2) := by decide +kernel
theorem dX1_onward_137 : decode cX1_onward 137 = .ok (.iload 4, 2) := by decide +kernel
theorem dX1_onward_139 : decode cX1_onward 139 = .ok (.aload_n 0, 1) := by decide +kernel
theorem dX1_onward_140 : decode cX1_onward 140 = .ok (.getfield 34, 3) := by decide +kernel
theorem dX1_onward_143 : decode cX1_onward 143 = .ok (.ishl, 1) := by decide +kernel
theorem dX1_onward_144 : decode cX1_onward 144 = .ok (.aload_n 0, 1) := by decide +kernel
theorem dX1_onward_145 : decode cX1_onward 145 = .ok (.getfield 31, 3) := by decide +kernel
theorem dX1_onward_148 : decode cX1_onward 148 = .ok (.iand, 1) := by decide +kernel
theorem dX1_onward_149 : decode cX1_onward 149 = .ok (.ior, 1) := by decide +kernel
theorem dX1_onward_150 : decode cX1_onward 150 = .ok (.istore 5, 2) := by decide +kernel
theorem dX1_onward_152 : decode cX1_onward 152 = .ok (.iload_n 2, 1) := by decide +kernel
theorem dX1_onward_153 : decode cX1_onward 153 = .ok (.iconst 4, 1) := by decide +kernel
theorem dX1_onward_154 : decode cX1_onward 154 = .ok (.if_icmp .eq 7, 3) := by decide +kernel
theorem dX1_onward_157 : decode cX1_onward 157 = .ok (.iload_n 2, 1) := by decide +kernel
theorem dX1_onward_158 : decode cX1_onward 158 = .ok (.ifCond .ne 44, 3) := by decide +kernel
theorem dX1_onward_161 : decode cX1_onward 161 = .ok (.iload 5, 2) := by decide +kernel
theorem dX1_onward_163 : decode cX1_onward 163 = .ok (.iload_n 3, 1) := by decide +kernel
theorem dX1_onward_164 : decode cX1_onward 164 = .ok (.aload_n 0, 1) := by decide +kernel
theorem dX1_onward_165 : decode cX1_onward 165 = .ok (.getfield 37, 3) := by decide +kernel
theorem dX1_onward_168 : decode cX1_onward 168 = .ok (.iconst (-1), 1) := by decide +kernel
theorem dX1_onward_169 : decode cX1_onward 169 = .ok (.ixor, 1) := by decide +kernel
theorem dX1_onward_170 : decode cX1_onward 170 = .ok (.iand, 1) := by decide +kernel
theorem dX1_onward_171 : decode cX1_onward 171 = .ok (.iconst 1, 1) := by decide +kernel
theorem dX1_onward_172 : decode cX1_onward 172 = .ok (.iushr, 1) := by decide +kernel
theorem dX1_onward_173 : decode cX1_onward 173 = .ok (.aload_n 0, 1) := by decide +kernel
theorem dX1_onward_174 : decode cX1_onward 174 = .ok (.getfield 28, 3) := by decide +kernel
theorem dX1_onward_177 : decode cX1_onward 177 = .ok (.iand, 1) := by decide +kernel
theorem dX1_onward_178 : decode cX1_onward 178 = .ok (.ior, 1) := by decide +kernel
theorem dX1_onward_179 : decode cX1_onward 179 = .ok (.istore 5, 2) := by decide +kernel
theorem dX1_onward_181 : decode cX1_onward 181 = .ok (.iload 5, 2) := by decide +kernel
theorem dX1_onward_183 : decode cX1_onward 183 = .ok (.iload 4, 2) := by decide +kernel
theorem dX1_onward_185 : decode cX1_onward 185 = .ok (.aload_n 0, 1) := by decide +kernel
theorem dX1_onward_186 : decode cX1_onward 186 = .ok (.getfield 37, 3) := by decide +kernel
theorem dX1_onward_189 : decode cX1_onward 189 = .ok (.iconst (-1), 1) := by decide +kernel
theorem dX1_onward_190 : decode cX1_onward 190 = .ok (.ixor, 1) := by decide +kernel
theorem dX1_onward_191 : decode cX1_onward 191 = .ok (.iand, 1) := by decide +kernel
theorem dX1_onward_192 : decode cX1_onward 192 = .ok (.iconst 1, 1) := by decide +kernel
theorem dX1_onward_193 : decode cX1_onward 193 = .ok (.iushr, 1) := by decide +kernel
theorem dX1_onward_194 : decode cX1_onward 194 = .ok (.aload_n 0, 1) := by decide +kernel
theorem dX1_onward_195 : decode cX1_onward 195 = .ok (.getfield 31, 3) := by decide +kernel
theorem dX1_onward_198 : decode cX1_onward 198 = .ok (.iand, 1) := by decide +kernel
theorem dX1_onward_199 : decode cX1_onward 199 = .ok (.ior, 1) := by decide +kernel
theorem dX1_onward_200 : decode cX1_onward 200 = .ok (.istore 5, 2) := by decide +kernel
theorem dX1_onward_202 : decode cX1_onward 202 = .ok (.iload 5, 2) := by decide +kernel
theorem dX1_onward_204 : decode cX1_onward 204 = .ok (.ireturn, 1) := by decide +kernel
theorem dX2_init_0 : decode cX2_init 0 = .ok (.aload_n 0, 1) := by decide +kernel
theorem dX2_init_1 : decode cX2_init 1 = .ok (.invokespecial 3, 3) := by decide +kernel
theorem dX2_init_4 : decode cX2_init 4 = .ok (.aload_n 0, 1) := by decide +kernel
theorem dX2_init_5 : decode cX2_init 5 = .ok (.iconst 0, 1) := by decide +kernel
theorem dX2_init_6 : decode cX2_init 6 = .ok (.putfield 9, 3) := by decide +kernel
theorem dX2_init_9 : decode cX2_init 9 = .ok (.aload_n 0, 1) := by decide +kernel
theorem dX2_init_10 : decode cX2_init 10 = .ok (.iconst 0, 1) := by decide +kernel
theorem dX2_init_11 : decode cX2_init 11 = .ok (.putfield 15, 3) := by decide +kernel
theorem dX2_init_14 : decode cX2_init 14 = .ok (.aload_n 0, 1) := by decide +kernel
theorem dX2_init_15 : decode cX2_init 15 = .ok (.iconst 0, 1) := by decide +kernel
theorem dX2_init_16 : decode cX2_init 16 = .ok (.putfield 18, 3) := by decide +kernel
theorem dX2_init_19 : decode cX2_init 19 = .ok (.aload_n 0, 1) := by decide +kernel
theorem dX2_init_20 : decode cX2_init 20 = .ok (.bipush (-4), 2) := by decide +kernel
theorem dX2_init_22 : decode cX2_init 22 = .ok (.putfield 21, 3) := by decide +kernel
theorem dX2_init_25 : decode cX2_init 25 = .ok (.aload_n 0, 1) := by decide +kernel
theorem dX2_init_26 : decode cX2_init 26 = .ok (.bipush (-4), 2) := by decide +kernel
theorem dX2_init_28 : decode cX2_init 28 = .ok (.putfield 24, 3) := by decide +kernel
theorem dX2_init_31 : decode cX2_init 31 = .ok (.aload_n 0, 1) := by decide +kernel
theorem dX2_init_32 : decode cX2_init 32 = .ok (.bipush (-4), 2) := by decide +kernel
theorem dX2_init_34 : decode cX2_init 34 = .ok (.putfield 27, 3) := by decide +kernel
theorem dX2_init_37 : decode cX2_init 37 = .ok (.aload_n 0, 1) := by decide +kernel
theorem dX2_init_38 : decode cX2_init 38 = .ok (.aload_n 1, 1) := by decide +kernel
theorem dX2_init_39 : decode cX2_init 39 = .ok (.putfield 30, 3) := by decide +kernel
theorem dX2_init_42 : decode cX2_init 42 = .ok (.aload_n 0, 1) := by decide +kernel
theorem dX2_init_43 : decode cX2_init 43 = .ok (.aload_n 2, 1) := by decide +kernel
theorem dX2_init_44 : decode cX2_init 44 = .ok (.putfield 34, 3) := by decide +kernel
theorem dX2_init_47 : decode cX2_init 47 = .ok (.aload_n 0, 1) := by decide +kernel
theorem dX2_init_48 : decode cX2_init 48 = .ok (.aload_n 3, 1) := by decide +kernel
theorem dX2_init_49 : decode cX2_init 49 = .ok (.putfield 38, 3) := by decide +kernel
theorem dX2_init_52 : decode cX2_init 52 = .ok (.return_, 1) := by decide +kernel
theorem dX2_pose_0 : decode cX2_pose 0 = .ok (.aload_n 0, 1) := by decide +kernel
theorem dX2_pose_1 : decode cX2_pose 1 = .ok (.iload_n 2, 1) := by decide +kernel
theorem dX2_pose_2 : decode cX2_pose 2 = .ok (.putfield 9, 3) := by decide +kernel
theorem dX2_pose_5 : decode cX2_pose 5 = .ok (.aload_n 0, 1) := by decide +kernel
theorem dX2_pose_6 : decode cX2_pose 6 = .ok (.iload_n 3, 1) := by decide +kernel
theorem dX2_pose_7 : decode cX2_pose 7 = .ok (.putfield 15, 3) := by decide +kernel
theorem dX2_pose_10 : decode cX2_pose 10 = .ok (.aload_n 0, 1) := by decide +kernel
theorem dX2_pose_11 : decode cX2_pose 11 = .ok (.iload 4, 2) := by decide +kernel
theorem dX2_pose_13 : decode cX2_pose 13 = .ok (.putfield 18, 3) := by decide +kernel
theorem dX2_pose_16 : decode cX2_pose 16 = .ok (.aload_n 0, 1) := by decide +kernel
theorem dX2_pose_17 : decode cX2_pose 17 = .ok (.bipush (-4), 2) := by decide +kernel
theorem dX2_pose_19 : decode cX2_pose 19 = .ok (.bipush (-4), 2) := by decide +kernel
theorem dX2_pose_21 : decode cX2_pose 21 = .ok (.bipush (-4), 2) := by decide +kernel
theorem dX2_pose_23 : decode cX2_pose 23 = .ok (.invokevirtual 42, 3) := by decide +kernel
theorem dX2_pose_26 : decode cX2_pose 26 = .ok (.aload_n 0, 1) := by decide +kernel
theorem dX2_pose_27 : decode cX2_pose 27 = .ok (.getfield 38, 3) := by decide +kernel
theorem dX2_pose_30 : decode cX2_pose 30 = .ok (.iload_n 1, 1) := by decide +kernel
theorem dX2_pose_31 : decode cX2_pose 31 = .ok (.invokevirtual 46, 3) := by decide +kernel
theorem dX2_pose_34 : decode cX2_pose 34 = .ok (.return_, 1) := by decide +kernel
theorem dX2_answer_0 : decode cX2_answer 0 = .ok (.iload_n 1, 1) := by decide +kernel
theorem dX2_answer_1 : decode cX2_answer 1 = .ok (.iconst 1, 1) := by decide +kernel
theorem dX2_answer_2 : decode cX2_answer 2 = .ok (.if_icmp .ne 8, 3) := by decide +kernel
theorem dX2_answer_5 : decode cX2_answer 5 = .ok (.aload_n 0, 1) := by decide +kernel
theorem dX2_answer_6 : decode cX2_answer 6 = .ok (.getfield 24, 3) := by decide +kernel
theorem dX2_answer_9 : decode cX2_answer 9 = .ok (.ireturn, 1) := by decide +kernel
theorem dX2_answer_10 : decode cX2_answer 10 = .ok (.iload_n 1, 1) := by decide +kernel
theorem dX2_answer_11 : decode cX2_answer 11 = .ok (.iconst 2, 1) := by decide +kernel
theorem dX2_answer_12 : decode cX2_answer 12 = .ok (.if_icmp .ne 10, 3) := by decide +kernel
theorem dX2_answer_15 : decode cX2_answer 15 = .ok (.aload_n 0, 1) := by decide +kernel
theorem dX2_answer_16 : decode cX2_answer 16 = .ok (.getfield 27, 3) := by decide +kernel
theorem dX2_answer_19 : decode cX2_answer 19 = .ok (.goto 7, 3) := by decide +kernel
theorem dX2_answer_22 : decode cX2_answer 22 = .ok (.aload_n 0, 1) := by decide +kernel
theorem dX2_answer_23 : decode cX2_answer 23 = .ok (.getfield 21, 3) := by decide +kernel
theorem dX2_answer_26 : decode cX2_answer 26 = .ok (.ireturn, 1) := by decide +kernel
theorem dX2_found_0 : decode cX2_found 0 = .ok (.aload_n 0, 1) := by decide +kernel
theorem dX2_found_1 : decode cX2_found 1 = .ok (.iload_n 1, 1) := by decide +kernel
theorem dX2_found_2 : decode cX2_found 2 = .ok (.putfield 21, 3) := by decide +kernel
theorem dX2_found_5 : decode cX2_found 5 = .ok (.aload_n 0, 1) := by decide +kernel
theorem dX2_found_6 : decode cX2_found 6 = .ok (.iload_n 2, 1) := by decide +kernel
theorem dX2_found_7 : decode cX2_found 7 = .ok (.putfield 24, 3) := by decide +kernel
theorem dX2_found_10 : decode cX2_found 10 = .ok (.aload_n 0, 1) := by decide +kernel
theorem dX2_found_11 : decode cX2_found 11 = .ok (.iload_n 3, 1) := by decide +kernel
theorem dX2_found_12 : decode cX2_found 12 = .ok (.putfield 27, 3) := by decide +kernel
theorem dX2_found_15 : decode cX2_found 15 = .ok (.return_, 1) := by decide +kernel
theorem dX2_isSo_0 : decode cX2_isSo 0 = .ok (.iload_n 1, 1) := by decide +kernel
theorem dX2_isSo_1 : decode cX2_isSo 1 = .ok (.aload_n 0, 1) := by decide +kernel
theorem dX2_isSo_2 : decode cX2_isSo 2 = .ok (.getfield 15, 3) := by decide +kernel
theorem dX2_isSo_5 : decode cX2_isSo 5 = .ok (.iand, 1) := by decide +kernel
theorem dX2_isSo_6 : decode cX2_isSo 6 = .ok (.aload_n 0, 1) := by decide +kernel
theorem dX2_isSo_7 : decode cX2_isSo 7 = .ok (.getfield 15, 3) := by decide +kernel
theorem dX2_isSo_10 : decode cX2_isSo 10 = .ok (.if_icmp .ne 16, 3) := by decide +kernel
theorem dX2_isSo_13 : decode cX2_isSo 13 = .ok (.iload_n 1, 1) := by decide +kernel
theorem dX2_isSo_14 : decode cX2_isSo 14 = .ok (.aload_n 0, 1) := by decide +kernel
theorem dX2_isSo_15 : decode cX2_isSo 15 = .ok (.getfield 18, 3) := by decide +kernel
theorem dX2_isSo_18 : decode cX2_isSo 18 = .ok (.iand, 1) := by decide +kernel
theorem dX2_isSo_19 : decode cX2_isSo 19 = .ok (.ifCond .ne 7, 3) := by decide +kernel
theorem dX2_isSo_22 : decode cX2_isSo 22 = .ok (.iconst 1, 1) := by decide +kernel
theorem dX2_isSo_23 : decode cX2_isSo 23 = .ok (.goto 4, 3) := by decide +kernel
theorem dX2_isSo_26 : decode cX2_isSo 26 = .ok (.iconst 0, 1) := by decide +kernel
theorem dX2_isSo_27 : decode cX2_isSo 27 = .ok (.ireturn, 1) := by decide +kernel
theorem dX2_isFoundByNone_0 : decode cX2_isFoundByNone 0 = .ok (.aload_n 0, 1) := by decide +kernel
theorem dX2_isFoundByNone_1 : decode cX2_isFoundByNone 1 = .ok (.aload_n 0, 1) := by decide +kernel
theorem dX2_isFoundByNone_2 : decode cX2_isFoundByNone 2 = .ok (.getfield 38, 3) := by decide +kernel
theorem dX2_isFoundByNone_5 : decode cX2_isFoundByNone 5 = .ok (.aload_n 0, 1) := by decide +kernel
theorem dX2_isFoundByNone_6 : decode cX2_isFoundByNone 6 = .ok (.getfield 38, 3) := by decide +kernel
theorem dX2_isFoundByNone_9 : decode cX2_isFoundByNone 9 = .ok (.invokevirtual 52, 3) := by decide +kernel
theorem dX2_isFoundByNone_12 : decode cX2_isFoundByNone 12 = .ok (.iconst 0, 1) := by decide +kernel
theorem dX2_isFoundByNone_13 : decode cX2_isFoundByNone 13 = .ok (.aload_n 0, 1) := by decide +kernel
theorem dX2_isFoundByNone_14 : decode cX2_isFoundByNone 14 = .ok (.getfield 9, 3) := by decide +kernel
theorem dX2_isFoundByNone_17 : decode cX2_isFoundByNone 17 = .ok (.invokevirtual 56, 3) := by decide +kernel
theorem dX2_isFoundByNone_20 : decode cX2_isFoundByNone 20 = .ok (.invokevirtual 60, 3) := by decide +kernel
theorem dX2_isFoundByNone_23 : decode cX2_isFoundByNone 23 = .ok (.ifCond .ne 5, 3) := by decide +kernel
theorem dX2_isFoundByNone_26 : decode cX2_isFoundByNone 26 = .ok (.iconst 0, 1) := by decide +kernel
theorem dX2_isFoundByNone_27 : decode cX2_isFoundByNone 27 = .ok (.ireturn, 1) := by decide +kernel
theorem dX2_isFoundByNone_28 : decode cX2_isFoundByNone 28 = .ok (.aload_n 0, 1) := by decide +kernel
theorem dX2_isFoundByNone_29 : decode cX2_isFoundByNone 29 = .ok (.iconst 0, 1) := by decide +kernel
theorem dX2_isFoundByNone_30 : decode cX2_isFoundByNone 30 = .ok (.bipush (-4), 2) := by decide +kernel
theorem dX2_isFoundByNone_32 : decode cX2_isFoundByNone 32 = .ok (.bipush (-4), 2) := by decide +kernel
theorem dX2_isFoundByNone_34 : decode cX2_isFoundByNone 34 = .ok (.invokevirtual 42, 3) := by decide +kernel
theorem dX2_isFoundByNone_37 : decode cX2_isFoundByNone 37 = .ok (.iconst 1, 1) := by decide +kernel
theorem dX2_isFoundByNone_38 : decode cX2_isFoundByNone 38 = .ok (.ireturn, 1) := by decide +kernel
theorem dX2_isFoundByOne_0 : decode cX2_isFoundByOne 0 = .ok (.iconst 0, 1) := by decide +kernel
theorem dX2_isFoundByOne_1 : decode cX2_isFoundByOne 1 = .ok (.istore_n 1, 1) := by decide +kernel
theorem dX2_isFoundByOne_2 : decode cX2_isFoundByOne 2 = .ok (.iload_n 1, 1) := by decide +kernel
theorem dX2_isFoundByOne_3 : decode cX2_isFoundByOne 3 = .ok (.aload_n 0, 1) := by decide +kernel
theorem dX2_isFoundByOne_4 : decode cX2_isFoundByOne 4 = .ok (.getfield 30, 3) := by decide +kernel
theorem dX2_isFoundByOne_7 : decode cX2_isFoundByOne 7 = .ok (.invokevirtual 64, 3) := by decide +kernel
theorem dX2_isFoundByOne_10 : decode cX2_isFoundByOne 10 = .ok (.if_icmp .ge 36, 3) := by decide +kernel
theorem dX2_isFoundByOne_13 : decode cX2_isFoundByOne 13 = .ok (.aload_n 0, 1) := by decide +kernel
theorem dX2_isFoundByOne_14 : decode cX2_isFoundByOne 14 = .ok (.iload_n 1, 1) := by decide +kernel
theorem dX2_isFoundByOne_15 : decode cX2_isFoundByOne 15 = .ok (.invokevirtual 69, 3) := by decide +kernel
theorem dX2_isFoundByOne_18 : decode cX2_isFoundByOne 18 = .ok (.istore_n 2, 1) := by decide +kernel
theorem dX2_isFoundByOne_19 : decode cX2_isFoundByOne 19 = .ok (.iload_n 2, 1) := by decide +kernel
theorem dX2_isFoundByOne_20 : decode cX2_isFoundByOne 20 = .ok (.bipush (-4), 2) := by decide +kernel
theorem dX2_isFoundByOne_22 : decode cX2_isFoundByOne 22 = .ok (.if_icmp .eq 18, 3) := by decide +kernel
theorem dX2_isFoundByOne_25 : decode cX2_isFoundByOne 25 = .ok (.aload_n 0, 1) := by decide +kernel
theorem dX2_isFoundByOne_26 : decode cX2_isFoundByOne 26 = .ok (.iconst 1, 1) := by decide +kernel
theorem dX2_isFoundByOne_27 : decode cX2_isFoundByOne 27 = .ok (.bipush 10, 2) := by decide +kernel
theorem dX2_isFoundByOne_29 : decode cX2_isFoundByOne 29 = .ok (.iload_n 1, 1) := by decide +kernel
theorem dX2_isFoundByOne_30 : decode cX2_isFoundByOne 30 = .ok (.imul, 1) := by decide +kernel
theorem dX2_isFoundByOne_31 : decode cX2_isFoundByOne 31 = .ok (.iload_n 2, 1) := by decide +kernel
theorem dX2_isFoundByOne_32 : decode cX2_isFoundByOne 32 = .ok (.iadd, 1) := by decide +kernel
theorem dX2_isFoundByOne_33 : decode cX2_isFoundByOne 33 = .ok (.bipush (-4), 2) := by decide +kernel
theorem dX2_isFoundByOne_35 : decode cX2_isFoundByOne 35 = .ok (.invokevirtual 42, 3) := by decide +kernel
theorem dX2_isFoundByOne_38 : decode cX2_isFoundByOne 38 = .ok (.iconst 1, 1) := by decide +kernel
theorem dX2_isFoundByOne_39 : decode cX2_isFoundByOne 39 = .ok (.ireturn, 1) := by decide +kernel
theorem dX2_isFoundByOne_40 : decode cX2_isFoundByOne 40 = .ok (.iinc 1 1, 3) := by decide +kernel
theorem dX2_isFoundByOne_43 : decode cX2_isFoundByOne 43 = .ok (.goto (-41), 3) := by decide +kernel
theorem dX2_isFoundByOne_46 : decode cX2_isFoundByOne 46 = .ok (.iconst 0, 1) := by decide +kernel
theorem dX2_isFoundByOne_47 : decode cX2_isFoundByOne 47 = .ok (.ireturn, 1) := by decide +kernel
theorem dX2_findByTwo_0 : decode cX2_findByTwo 0 = .ok (.iconst 0, 1) := by decide +kernel
theorem dX2_findByTwo_1 : decode cX2_findByTwo 1 = .ok (.istore_n 1, 1) := by decide +kernel
theorem dX2_findByTwo_2 : decode cX2_findByTwo 2 = .ok (.iload_n 1, 1) := by decide +kernel
theorem dX2_findByTwo_3 : decode cX2_findByTwo 3 = .ok (.aload_n 0, 1) := by decide +kernel
theorem dX2_findByTwo_4 : decode cX2_findByTwo 4 = .ok (.getfield 30, 3) := by decide +kernel
theorem dX2_findByTwo_7 : decode cX2_findByTwo 7 = .ok (.invokevirtual 64, 3) := by decide +kernel
theorem dX2_findByTwo_10 : decode cX2_findByTwo 10 = .ok (.if_icmp .ge 73, 3) := by decide +kernel
theorem dX2_findByTwo_13 : decode cX2_findByTwo 13 = .ok (.iconst 0, 1) := by decide +kernel
theorem dX2_findByTwo_14 : decode cX2_findByTwo 14 = .ok (.istore_n 2, 1) := by decide +kernel
theorem dX2_findByTwo_15 : decode cX2_findByTwo 15 = .ok (.iload_n 2, 1) := by decide +kernel
theorem dX2_findByTwo_16 : decode cX2_findByTwo 16 = .ok (.bipush 6, 2) := by decide +kernel
theorem dX2_findByTwo_18 : decode cX2_findByTwo 18 = .ok (.if_icmp .gt 43, 3) := by decide +kernel
theorem dX2_findByTwo_21 : decode cX2_findByTwo 21 = .ok (.aload_n 0, 1) := by decide +kernel
theorem dX2_findByTwo_22 : decode cX2_findByTwo 22 = .ok (.getfield 38, 3) := by decide +kernel
theorem dX2_findByTwo_25 : decode cX2_findByTwo 25 = .ok (.iload_n 1, 1) := by decide +kernel
theorem dX2_findByTwo_26 : decode cX2_findByTwo 26 = .ok (.iload_n 2, 1) := by decide +kernel
theorem dX2_findByTwo_27 : decode cX2_findByTwo 27 = .ok (.invokevirtual 73, 3) := by decide +kernel
theorem dX2_findByTwo_30 : decode cX2_findByTwo 30 = .ok (.ifCond .ne 6, 3) := by decide +kernel
theorem dX2_findByTwo_33 : decode cX2_findByTwo 33 = .ok (.goto 22, 3) := by decide +kernel
theorem dX2_findByTwo_36 : decode cX2_findByTwo 36 = .ok (.aload_n 0, 1) := by decide +kernel
theorem dX2_findByTwo_37 : decode cX2_findByTwo 37 = .ok (.getfield 38, 3) := by decide +kernel
theorem dX2_findByTwo_40 : decode cX2_findByTwo 40 = .ok (.iload_n 1, 1) := by decide +kernel
theorem dX2_findByTwo_41 : decode cX2_findByTwo 41 = .ok (.iload_n 2, 1) := by decide +kernel
theorem dX2_findByTwo_42 : decode cX2_findByTwo 42 = .ok (.invokevirtual 77, 3) := by decide +kernel
theorem dX2_findByTwo_45 : decode cX2_findByTwo 45 = .ok (.aload_n 0, 1) := by decide +kernel
theorem dX2_findByTwo_46 : decode cX2_findByTwo 46 = .ok (.iload_n 1, 1) := by decide +kernel
theorem dX2_findByTwo_47 : decode cX2_findByTwo 47 = .ok (.iload_n 2, 1) := by decide +kernel
theorem dX2_findByTwo_48 : decode cX2_findByTwo 48 = .ok (.invokevirtual 81, 3) := by decide +kernel
theorem dX2_findByTwo_51 : decode cX2_findByTwo 51 = .ok (.ifCond .eq 4, 3) := by decide +kernel
theorem dX2_findByTwo_54 : decode cX2_findByTwo 54 = .ok (.return_, 1) := by decide +kernel
theorem dX2_findByTwo_55 : decode cX2_findByTwo 55 = .ok (.iinc 2 1, 3) := by decide +kernel
theorem dX2_findByTwo_58 : decode cX2_findByTwo 58 = .ok (.goto (-43), 3) := by decide +kernel
theorem dX2_findByTwo_61 : decode cX2_findByTwo 61 = .ok (.aload_n 0, 1) := by decide +kernel
theorem dX2_findByTwo_62 : decode cX2_findByTwo 62 = .ok (.getfield 38, 3) := by decide +kernel
theorem dX2_findByTwo_65 : decode cX2_findByTwo 65 = .ok (.iload_n 1, 1) := by decide +kernel
theorem dX2_findByTwo_66 : decode cX2_findByTwo 66 = .ok (.aload_n 0, 1) := by decide +kernel
theorem dX2_findByTwo_67 : decode cX2_findByTwo 67 = .ok (.getfield 34, 3) := by decide +kernel
theorem dX2_findByTwo_70 : decode cX2_findByTwo 70 = .ok (.iload_n 1, 1) := by decide +kernel
theorem dX2_findByTwo_71 : decode cX2_findByTwo 71 = .ok (.invokevirtual 84, 3) := by decide +kernel
theorem dX2_findByTwo_74 : decode cX2_findByTwo 74 = .ok (.invokevirtual 77, 3) := by decide +kernel
theorem dX2_findByTwo_77 : decode cX2_findByTwo 77 = .ok (.iinc 1 1, 3) := by decide +kernel
theorem dX2_findByTwo_80 : decode cX2_findByTwo 80 = .ok (.goto (-78), 3) := by decide +kernel
theorem dX2_findByTwo_83 : decode cX2_findByTwo 83 = .ok (.return_, 1) := by decide +kernel
theorem dX2_isFoundWith_0 : decode cX2_isFoundWith 0 = .ok (.iload_n 1, 1) := by decide +kernel
theorem dX2_isFoundWith_1 : decode cX2_isFoundWith 1 = .ok (.iconst 1, 1) := by decide +kernel
theorem dX2_isFoundWith_2 : decode cX2_isFoundWith 2 = .ok (.iadd, 1) := by decide +kernel
theorem dX2_isFoundWith_3 : decode cX2_isFoundWith 3 = .ok (.istore_n 3, 1) := by decide +kernel
theorem dX2_isFoundWith_4 : decode cX2_isFoundWith 4 = .ok (.iload_n 3, 1) := by decide +kernel
theorem dX2_isFoundWith_5 : decode cX2_isFoundWith 5 = .ok (.aload_n 0, 1) := by decide +kernel
theorem dX2_isFoundWith_6 : decode cX2_isFoundWith 6 = .ok (.getfield 30, 3) := by decide +kernel
theorem dX2_isFoundWith_9 : decode cX2_isFoundWith 9 = .ok (.invokevirtual 64, 3) := by decide +kernel
theorem dX2_isFoundWith_12 : decode cX2_isFoundWith 12 = .ok (.if_icmp .ge 43, 3) := by decide +kernel
theorem dX2_isFoundWith_15 : decode cX2_isFoundWith 15 = .ok (.aload_n 0, 1) := by decide +kernel
theorem dX2_isFoundWith_16 : decode cX2_isFoundWith 16 = .ok (.iload_n 3, 1) := by decide +kernel
theorem dX2_isFoundWith_17 : decode cX2_isFoundWith 17 = .ok (.invokevirtual 69, 3) := by decide +kernel
theorem dX2_isFoundWith_20 : decode cX2_isFoundWith 20 = .ok (.istore 4, 2) := by decide +kernel
theorem dX2_isFoundWith_22 : decode cX2_isFoundWith 22 = .ok (.iload 4, 2) := by decide +kernel
theorem dX2_isFoundWith_24 : decode cX2_isFoundWith 24 = .ok (.bipush (-4), 2) := by decide +kernel
theorem dX2_isFoundWith_26 : decode cX2_isFoundWith 26 = .ok (.if_icmp .eq 23, 3) := by decide +kernel
theorem dX2_isFoundWith_29 : decode cX2_isFoundWith 29 = .ok (.aload_n 0, 1) := by decide +kernel
theorem dX2_isFoundWith_30 : decode cX2_isFoundWith 30 = .ok (.iconst 2, 1) := by decide +kernel
theorem dX2_isFoundWith_31 : decode cX2_isFoundWith 31 = .ok (.bipush 10, 2) := by decide +kernel
theorem dX2_isFoundWith_33 : decode cX2_isFoundWith 33 = .ok (.iload_n 1, 1) := by decide +kernel
theorem dX2_isFoundWith_34 : decode cX2_isFoundWith 34 = .ok (.imul, 1) := by decide +kernel
theorem dX2_isFoundWith_35 : decode cX2_isFoundWith 35 = .ok (.iload_n 2, 1) := by decide +kernel
theorem dX2_isFoundWith_36 : decode cX2_isFoundWith 36 = .ok (.iadd, 1) := by decide +kernel
theorem dX2_isFoundWith_37 : decode cX2_isFoundWith 37 = .ok (.bipush 10, 2) := by decide +kernel
theorem dX2_isFoundWith_39 : decode cX2_isFoundWith 39 = .ok (.iload_n 3, 1) := by decide +kernel
theorem dX2_isFoundWith_40 : decode cX2_isFoundWith 40 = .ok (.imul, 1) := by decide +kernel
theorem dX2_isFoundWith_41 : decode cX2_isFoundWith 41 = .ok (.iload 4, 2) := by decide +kernel
theorem dX2_isFoundWith_43 : decode cX2_isFoundWith 43 = .ok (.iadd, 1) := by decide +kernel
theorem dX2_isFoundWith_44 : decode cX2_isFoundWith 44 = .ok (.invokevirtual 42, 3) := by decide +kernel
theorem dX2_isFoundWith_47 : decode cX2_isFoundWith 47 = .ok (.iconst 1, 1) := by decide +kernel
theorem dX2_isFoundWith_48 : decode cX2_isFoundWith 48 = .ok (.ireturn, 1) := by decide +kernel
theorem dX2_isFoundWith_49 : decode cX2_isFoundWith 49 = .ok (.iinc 3 1, 3) := by decide +kernel
theorem dX2_isFoundWith_52 : decode cX2_isFoundWith 52 = .ok (.goto (-48), 3) := by decide +kernel
theorem dX2_isFoundWith_55 : decode cX2_isFoundWith 55 = .ok (.iconst 0, 1) := by decide +kernel
theorem dX2_isFoundWith_56 : decode cX2_isFoundWith 56 = .ok (.ireturn, 1) := by decide +kernel
theorem dX2_fittingWidth_0 : decode cX2_fittingWidth 0 = .ok (.bipush (-4), 2) := by decide +kernel
theorem dX2_fittingWidth_2 : decode cX2_fittingWidth 2 = .ok (.istore_n 2, 1) := by decide +kernel
theorem dX2_fittingWidth_3 : decode cX2_fittingWidth 3 = .ok (.iconst 0, 1) := by decide +kernel
theorem dX2_fittingWidth_4 : decode cX2_fittingWidth 4 = .ok (.istore_n 3, 1) := by decide +kernel
theorem dX2_fittingWidth_5 : decode cX2_fittingWidth 5 = .ok (.iload_n 3, 1) := by decide +kernel
theorem dX2_fittingWidth_6 : decode cX2_fittingWidth 6 = .ok (.bipush 6, 2) := by decide +kernel
theorem dX2_fittingWidth_8 : decode cX2_fittingWidth 8 = .ok (.if_icmp .gt 67, 3) := by decide +kernel
theorem dX2_fittingWidth_11 : decode cX2_fittingWidth 11 = .ok (.iload_n 2, 1) := by decide +kernel
theorem dX2_fittingWidth_12 : decode cX2_fittingWidth 12 = .ok (.bipush (-4), 2) := by decide +kernel
theorem dX2_fittingWidth_14 : decode cX2_fittingWidth 14 = .ok (.if_icmp .ne 61, 3) := by decide +kernel
theorem dX2_fittingWidth_17 : decode cX2_fittingWidth 17 = .ok (.aload_n 0, 1) := by decide +kernel
theorem dX2_fittingWidth_18 : decode cX2_fittingWidth 18 = .ok (.getfield 38, 3) := by decide +kernel
theorem dX2_fittingWidth_21 : decode cX2_fittingWidth 21 = .ok (.iload_n 1, 1) := by decide +kernel
theorem dX2_fittingWidth_22 : decode cX2_fittingWidth 22 = .ok (.iload_n 3, 1) := by decide +kernel
theorem dX2_fittingWidth_23 : decode cX2_fittingWidth 23 = .ok (.invokevirtual 73, 3) := by decide +kernel
theorem dX2_fittingWidth_26 : decode cX2_fittingWidth 26 = .ok (.ifCond .ne 6, 3) := by decide +kernel
theorem dX2_fittingWidth_29 : decode cX2_fittingWidth 29 = .ok (.goto 40, 3) := by decide +kernel
theorem dX2_fittingWidth_32 : decode cX2_fittingWidth 32 = .ok (.aload_n 0, 1) := by decide +kernel
theorem dX2_fittingWidth_33 : decode cX2_fittingWidth 33 = .ok (.getfield 38, 3) := by decide +kernel
theorem dX2_fittingWidth_36 : decode cX2_fittingWidth 36 = .ok (.iload_n 1, 1) := by decide +kernel
theorem dX2_fittingWidth_37 : decode cX2_fittingWidth 37 = .ok (.iload_n 3, 1) := by decide +kernel
theorem dX2_fittingWidth_38 : decode cX2_fittingWidth 38 = .ok (.invokevirtual 77, 3) := by decide +kernel
theorem dX2_fittingWidth_41 : decode cX2_fittingWidth 41 = .ok (.aload_n 0, 1) := by decide +kernel
theorem dX2_fittingWidth_42 : decode cX2_fittingWidth 42 = .ok (.aload_n 0, 1) := by decide +kernel
theorem dX2_fittingWidth_43 : decode cX2_fittingWidth 43 = .ok (.getfield 38, 3) := by decide +kernel
theorem dX2_fittingWidth_46 : decode cX2_fittingWidth 46 = .ok (.aload_n 0, 1) := by decide +kernel
theorem dX2_fittingWidth_47 : decode cX2_fittingWidth 47 = .ok (.getfield 38, 3) := by decide +kernel
theorem dX2_fittingWidth_50 : decode cX2_fittingWidth 50 = .ok (.invokevirtual 52, 3) := by decide +kernel
theorem dX2_fittingWidth_53 : decode cX2_fittingWidth 53 = .ok (.iconst 0, 1) := by decide +kernel
theorem dX2_fittingWidth_54 : decode cX2_fittingWidth 54 = .ok (.aload_n 0, 1) := by decide +kernel
theorem dX2_fittingWidth_55 : decode cX2_fittingWidth 55 = .ok (.getfield 9, 3) := by decide +kernel
theorem dX2_fittingWidth_58 : decode cX2_fittingWidth 58 = .ok (.invokevirtual 56, 3) := by decide +kernel
theorem dX2_fittingWidth_61 : decode cX2_fittingWidth 61 = .ok (.invokevirtual 60, 3) := by decide +kernel
theorem dX2_fittingWidth_64 : decode cX2_fittingWidth 64 = .ok (.ifCond .eq 5, 3) := by decide +kernel
theorem dX2_fittingWidth_67 : decode cX2_fittingWidth 67 = .ok (.iload_n 3, 1) := by decide +kernel
theorem dX2_fittingWidth_68 : decode cX2_fittingWidth 68 = .ok (.istore_n 2, 1) := by decide +kernel
theorem dX2_fittingWidth_69 : decode cX2_fittingWidth 69 = .ok (.iinc 3 1, 3) := by decide +kernel
theorem dX2_fittingWidth_72 : decode cX2_fittingWidth 72 = .ok (.goto (-67), 3) := by decide +kernel
theorem dX2_fittingWidth_75 : decode cX2_fittingWidth 75 = .ok (.aload_n 0, 1) := by decide +kernel
theorem dX2_fittingWidth_76 : decode cX2_fittingWidth 76 = .ok (.getfield 38, 3) := by decide +kernel
theorem dX2_fittingWidth_79 : decode cX2_fittingWidth 79 = .ok (.iload_n 1, 1) := by decide +kernel
theorem dX2_fittingWidth_80 : decode cX2_fittingWidth 80 = .ok (.aload_n 0, 1) := by decide +kernel
theorem dX2_fittingWidth_81 : decode cX2_fittingWidth 81 = .ok (.getfield 34, 3) := by decide +kernel
theorem dX2_fittingWidth_84 : decode cX2_fittingWidth 84 = .ok (.iload_n 1, 1) := by decide +kernel
theorem dX2_fittingWidth_85 : decode cX2_fittingWidth 85 = .ok (.invokevirtual 84, 3) := by decide +kernel
theorem dX2_fittingWidth_88 : decode cX2_fittingWidth 88 = .ok (.invokevirtual 77, 3) := by decide +kernel
theorem dX2_fittingWidth_91 : decode cX2_fittingWidth 91 = .ok (.iload_n 2, 1) := by decide +kernel
theorem dX2_fittingWidth_92 : decode cX2_fittingWidth 92 = .ok (.ireturn, 1) := by decide +kernel
theorem dX3_init_0 : decode cX3_init 0 = .ok (.aload_n 0, 1) := by decide +kernel
theorem dX3_init_1 : decode cX3_init 1 = .ok (.invokespecial 3, 3) := by decide +kernel
theorem dX3_init_4 : decode cX3_init 4 = .ok (.aload_n 0, 1) := by decide +kernel
theorem dX3_init_5 : decode cX3_init 5 = .ok (.aload_n 1, 1) := by decide +kernel
theorem dX3_init_6 : decode cX3_init 6 = .ok (.putfield 9, 3) := by decide +kernel
theorem dX3_init_9 : decode cX3_init 9 = .ok (.aload_n 0, 1) := by decide +kernel
theorem dX3_init_10 : decode cX3_init 10 = .ok (.aload_n 2, 1) := by decide +kernel
theorem dX3_init_11 : decode cX3_init 11 = .ok (.putfield 15, 3) := by decide +kernel
theorem dX3_init_14 : decode cX3_init 14 = .ok (.aload_n 0, 1) := by decide +kernel
theorem dX3_init_15 : decode cX3_init 15 = .ok (.aload_n 3, 1) := by decide +kernel
theorem dX3_init_16 : decode cX3_init 16 = .ok (.putfield 19, 3) := by decide +kernel
theorem dX3_init_19 : decode cX3_init 19 = .ok (.return_, 1) := by decide +kernel
theorem dX3_knownBehind_0 : decode cX3_knownBehind 0 = .ok (.iconst 0, 1) := by decide +kernel
theorem dX3_knownBehind_1 : decode cX3_knownBehind 1 = .ok (.istore_n 3, 1) := by decide +kernel
theorem dX3_knownBehind_2 : decode cX3_knownBehind 2 = .ok (.iconst 0, 1) := by decide +kernel
theorem dX3_knownBehind_3 : decode cX3_knownBehind 3 = .ok (.istore 4, 2) := by decide +kernel
theorem dX3_knownBehind_5 : decode cX3_knownBehind 5 = .ok (.iload 4, 2) := by decide +kernel
theorem dX3_knownBehind_7 : decode cX3_knownBehind 7 = .ok (.aload_n 0, 1) := by decide +kernel
theorem dX3_knownBehind_8 : decode cX3_knownBehind 8 = .ok (.getfield 9, 3) := by decide +kernel
theorem dX3_knownBehind_11 : decode cX3_knownBehind 11 = .ok (.invokevirtual 23, 3) := by decide +kernel
theorem dX3_knownBehind_14 : decode cX3_knownBehind 14 = .ok (.if_icmp .ge 38, 3) := by decide +kernel
theorem dX3_knownBehind_17 : decode cX3_knownBehind 17 = .ok (.aload_n 0, 1) := by decide +kernel
theorem dX3_knownBehind_18 : decode cX3_knownBehind 18 = .ok (.getfield 19, 3) := by decide +kernel
theorem dX3_knownBehind_21 : decode cX3_knownBehind 21 = .ok (.iload 4, 2) := by decide +kernel
theorem dX3_knownBehind_23 : decode cX3_knownBehind 23 = .ok (.invokevirtual 29, 3) := by decide +kernel
theorem dX3_knownBehind_26 : decode cX3_knownBehind 26 = .ok (.aload_n 0, 1) := by decide +kernel
theorem dX3_knownBehind_27 : decode cX3_knownBehind 27 = .ok (.getfield 19, 3) := by decide +kernel
theorem dX3_knownBehind_30 : decode cX3_knownBehind 30 = .ok (.iload_n 2, 1) := by decide +kernel
theorem dX3_knownBehind_31 : decode cX3_knownBehind 31 = .ok (.iload_n 1, 1) := by decide +kernel
theorem dX3_knownBehind_32 : decode cX3_knownBehind 32 = .ok (.invokevirtual 35, 3) := by decide +kernel
theorem dX3_knownBehind_35 : decode cX3_knownBehind 35 = .ok (.ifCond .eq 11, 3) := by decide +kernel
theorem dX3_knownBehind_38 : decode cX3_knownBehind 38 = .ok (.iload_n 3, 1) := by decide +kernel
theorem dX3_knownBehind_39 : decode cX3_knownBehind 39 = .ok (.iload 4, 2) := by decide +kernel
theorem dX3_knownBehind_41 : decode cX3_knownBehind 41 = .ok (.invokestatic 39, 3) := by decide +kernel
theorem dX3_knownBehind_44 : decode cX3_knownBehind 44 = .ok (.ior, 1) := by decide +kernel
theorem dX3_knownBehind_45 : decode cX3_knownBehind 45 = .ok (.istore_n 3, 1) := by decide +kernel
theorem dX3_knownBehind_46 : decode cX3_knownBehind 46 = .ok (.iinc 4 1, 3) := by decide +kernel
theorem dX3_knownBehind_49 : decode cX3_knownBehind 49 = .ok (.goto (-44), 3) := by decide +kernel
theorem dX3_knownBehind_52 : decode cX3_knownBehind 52 = .ok (.iload_n 3, 1) := by decide +kernel
theorem dX3_knownBehind_53 : decode cX3_knownBehind 53 = .ok (.ireturn, 1) := by decide +kernel
theorem dX3_firstHeard_0 : decode cX3_firstHeard 0 = .ok (.aload_n 0, 1) := by decide +kernel
theorem dX3_firstHeard_1 : decode cX3_firstHeard 1 = .ok (.getfield 19, 3) := by decide +kernel
theorem dX3_firstHeard_4 : decode cX3_firstHeard 4 = .ok (.iload_n 2, 1) := by decide +kernel
theorem dX3_firstHeard_5 : decode cX3_firstHeard 5 = .ok (.invokevirtual 29, 3) := by decide +kernel
theorem dX3_firstHeard_8 : decode cX3_firstHeard 8 = .ok (.aload_n 0, 1) := by decide +kernel
theorem dX3_firstHeard_9 : decode cX3_firstHeard 9 = .ok (.getfield 19, 3) := by decide +kernel
theorem dX3_firstHeard_12 : decode cX3_firstHeard 12 = .ok (.invokevirtual 43, 3) := by decide +kernel
theorem dX3_firstHeard_15 : decode cX3_firstHeard 15 = .ok (.istore_n 3, 1) := by decide +kernel
theorem dX3_firstHeard_16 : decode cX3_firstHeard 16 = .ok (.iconst 0, 1) := by decide +kernel
theorem dX3_firstHeard_17 : decode cX3_firstHeard 17 = .ok (.istore 4, 2) := by decide +kernel
theorem dX3_firstHeard_19 : decode cX3_firstHeard 19 = .ok (.iload 4, 2) := by decide +kernel
theorem dX3_firstHeard_21 : decode cX3_firstHeard 21 = .ok (.bipush 48, 2) := by decide +kernel
theorem dX3_firstHeard_23 : decode cX3_firstHeard 23 = .ok (.if_icmp .gt 35, 3) := by decide +kernel
theorem dX3_firstHeard_26 : decode cX3_firstHeard 26 = .ok (.iload_n 3, 1) := by decide +kernel
theorem dX3_firstHeard_27 : decode cX3_firstHeard 27 = .ok (.iload_n 1, 1) := by decide +kernel
theorem dX3_firstHeard_28 : decode cX3_firstHeard 28 = .ok (.invokestatic 46, 3) := by decide +kernel
theorem dX3_firstHeard_31 : decode cX3_firstHeard 31 = .ok (.ifCond .eq 6, 3) := by decide +kernel
theorem dX3_firstHeard_34 : decode cX3_firstHeard 34 = .ok (.iload 4, 2) := by decide +kernel
theorem dX3_firstHeard_36 : decode cX3_firstHeard 36 = .ok (.ireturn, 1) := by decide +kernel
theorem dX3_firstHeard_37 : decode cX3_firstHeard 37 = .ok (.aload_n 0, 1) := by decide +kernel
theorem dX3_firstHeard_38 : decode cX3_firstHeard 38 = .ok (.getfield 19, 3) := by decide +kernel
theorem dX3_firstHeard_41 : decode cX3_firstHeard 41 = .ok (.iload_n 3, 1) := by decide +kernel
theorem dX3_firstHeard_42 : decode cX3_firstHeard 42 = .ok (.iload 4, 2) := by decide +kernel
theorem dX3_firstHeard_44 : decode cX3_firstHeard 44 = .ok (.iload 4, 2) := by decide +kernel
theorem dX3_firstHeard_46 : decode cX3_firstHeard 46 = .ok (.iconst 1, 1) := by decide +kernel
theorem dX3_firstHeard_47 : decode cX3_firstHeard 47 = .ok (.iadd, 1) := by decide +kernel
theorem dX3_firstHeard_48 : decode cX3_firstHeard 48 = .ok (.invokevirtual 49, 3) := by decide +kernel
theorem dX3_firstHeard_51 : decode cX3_firstHeard 51 = .ok (.istore_n 3, 1) := by decide +kernel
theorem dX3_firstHeard_52 : decode cX3_firstHeard 52 = .ok (.iinc 4 1, 3) := by decide +kernel
theorem dX3_firstHeard_55 : decode cX3_firstHeard 55 = .ok (.goto (-36), 3) := by decide +kernel
theorem dX3_firstHeard_58 : decode cX3_firstHeard 58 = .ok (.bipush (-4), 2) := by decide +kernel
theorem dX3_firstHeard_60 : decode cX3_firstHeard 60 = .ok (.ireturn, 1) := by decide +kernel
theorem dX3_latestHouse_0 : decode cX3_latestHouse 0 = .ok (.bipush (-4), 2) := by decide +kernel
theorem dX3_latestHouse_2 : decode cX3_latestHouse 2 = .ok (.istore_n 2, 1) := by decide +kernel
theorem dX3_latestHouse_3 : decode cX3_latestHouse 3 = .ok (.iconst 0, 1) := by decide +kernel
theorem dX3_latestHouse_4 : decode cX3_latestHouse 4 = .ok (.istore_n 3, 1) := by decide +kernel
theorem dX3_latestHouse_5 : decode cX3_latestHouse 5 = .ok (.iconst 0, 1) := by decide +kernel
theorem dX3_latestHouse_6 : decode cX3_latestHouse 6 = .ok (.istore 4, 2) := by decide +kernel
theorem dX3_latestHouse_8 : decode cX3_latestHouse 8 = .ok (.iload 4, 2) := by decide +kernel
theorem dX3_latestHouse_10 : decode cX3_latestHouse 10 = .ok (.aload_n 0, 1) := by decide +kernel
theorem dX3_latestHouse_11 : decode cX3_latestHouse 11 = .ok (.getfield 9, 3) := by decide +kernel
theorem dX3_latestHouse_14 : decode cX3_latestHouse 14 = .ok (.invokevirtual 53, 3) := by decide +kernel
theorem dX3_latestHouse_17 : decode cX3_latestHouse 17 = .ok (.if_icmp .ge 35, 3) := by decide +kernel
theorem dX3_latestHouse_20 : decode cX3_latestHouse 20 = .ok (.aload_n 0, 1) := by decide +kernel
theorem dX3_latestHouse_21 : decode cX3_latestHouse 21 = .ok (.iload 4, 2) := by decide +kernel
theorem dX3_latestHouse_23 : decode cX3_latestHouse 23 = .ok (.iload_n 1, 1) := by decide +kernel
theorem dX3_latestHouse_24 : decode cX3_latestHouse 24 = .ok (.invokevirtual 56, 3) := by decide +kernel
theorem dX3_latestHouse_27 : decode cX3_latestHouse 27 = .ok (.istore 5, 2) := by decide +kernel
theorem dX3_latestHouse_29 : decode cX3_latestHouse 29 = .ok (.iload 5, 2) := by decide +kernel
theorem dX3_latestHouse_31 : decode cX3_latestHouse 31 = .ok (.ifCond .le 15, 3) := by decide +kernel
theorem dX3_latestHouse_34 : decode cX3_latestHouse 34 = .ok (.iload 5, 2) := by decide +kernel
theorem dX3_latestHouse_36 : decode cX3_latestHouse 36 = .ok (.iload_n 3, 1) := by decide +kernel
theorem dX3_latestHouse_37 : decode cX3_latestHouse 37 = .ok (.if_icmp .lt 9, 3) := by decide +kernel
theorem dX3_latestHouse_40 : decode cX3_latestHouse 40 = .ok (.iload 4, 2) := by decide +kernel
theorem dX3_latestHouse_42 : decode cX3_latestHouse 42 = .ok (.istore_n 2, 1) := by decide +kernel
theorem dX3_latestHouse_43 : decode cX3_latestHouse 43 = .ok (.iload 5, 2) := by decide +kernel
theorem dX3_latestHouse_45 : decode cX3_latestHouse 45 = .ok (.istore_n 3, 1) := by decide +kernel
theorem dX3_latestHouse_46 : decode cX3_latestHouse 46 = .ok (.iinc 4 1, 3) := by decide +kernel
theorem dX3_latestHouse_49 : decode cX3_latestHouse 49 = .ok (.goto (-41), 3) := by decide +kernel
theorem dX3_latestHouse_52 : decode cX3_latestHouse 52 = .ok (.iload_n 2, 1) := by decide +kernel
theorem dX3_latestHouse_53 : decode cX3_latestHouse 53 = .ok (.ireturn, 1) := by decide +kernel
theorem dX3_fewestStuffed_0 : decode cX3_fewestStuffed 0 = .ok (.aload_n 0, 1) := by decide +kernel
theorem dX3_fewestStuffed_1 : decode cX3_fewestStuffed 1 = .ok (.getfield 15, 3) := by decide +kernel
theorem dX3_fewestStuffed_4 : decode cX3_fewestStuffed 4 = .ok (.iload_n 2, 1) := by decide +kernel
theorem dX3_fewestStuffed_5 : decode cX3_fewestStuffed 5 = .ok (.invokevirtual 60, 3) := by decide +kernel
theorem dX3_fewestStuffed_8 : decode cX3_fewestStuffed 8 = .ok (.iload_n 1, 1) := by decide +kernel
theorem dX3_fewestStuffed_9 : decode cX3_fewestStuffed 9 = .ok (.invokestatic 46, 3) := by decide +kernel
theorem dX3_fewestStuffed_12 : decode cX3_fewestStuffed 12 = .ok (.ifCond .eq 6, 3) := by decide +kernel
theorem dX3_fewestStuffed_15 : decode cX3_fewestStuffed 15 = .ok (.bipush (-4), 2) := by decide +kernel
theorem dX3_fewestStuffed_17 : decode cX3_fewestStuffed 17 = .ok (.ireturn, 1) := by decide +kernel
theorem dX3_fewestStuffed_18 : decode cX3_fewestStuffed 18 = .ok (.bipush (-4), 2) := by decide +kernel
theorem dX3_fewestStuffed_20 : decode cX3_fewestStuffed 20 = .ok (.istore_n 3, 1) := by decide +kernel
theorem dX3_fewestStuffed_21 : decode cX3_fewestStuffed 21 = .ok (.iconst 4, 1) := by decide +kernel
theorem dX3_fewestStuffed_22 : decode cX3_fewestStuffed 22 = .ok (.istore 4, 2) := by decide +kernel
theorem dX3_fewestStuffed_24 : decode cX3_fewestStuffed 24 = .ok (.aload_n 0, 1) := by decide +kernel
theorem dX3_fewestStuffed_25 : decode cX3_fewestStuffed 25 = .ok (.getfield 9, 3) := by decide +kernel
theorem dX3_fewestStuffed_28 : decode cX3_fewestStuffed 28 = .ok (.invokevirtual 64, 3) := by decide +kernel
theorem dX3_fewestStuffed_31 : decode cX3_fewestStuffed 31 = .ok (.istore 5, 2) := by decide +kernel
theorem dX3_fewestStuffed_33 : decode cX3_fewestStuffed 33 = .ok (.iconst 0, 1) := by decide +kernel
theorem dX3_fewestStuffed_34 : decode cX3_fewestStuffed 34 = .ok (.istore 6, 2) := by decide +kernel
theorem dX3_fewestStuffed_36 : decode cX3_fewestStuffed 36 = .ok (.iload 6, 2) := by decide +kernel
theorem dX3_fewestStuffed_38 : decode cX3_fewestStuffed 38 = .ok (.iload 5, 2) := by decide +kernel
theorem dX3_fewestStuffed_40 : decode cX3_fewestStuffed 40 = .ok (.if_icmp .gt 74, 3) := by decide +kernel
theorem dX3_fewestStuffed_43 : decode cX3_fewestStuffed 43 = .ok (.iload 6, 2) := by decide +kernel
theorem dX3_fewestStuffed_45 : decode cX3_fewestStuffed 45 = .ok (.invokestatic 67, 3) := by decide +kernel
theorem dX3_fewestStuffed_48 : decode cX3_fewestStuffed 48 = .ok (.iload 4, 2) := by decide +kernel
theorem dX3_fewestStuffed_50 : decode cX3_fewestStuffed 50 = .ok (.if_icmp .ge 58, 3) := by decide +kernel
theorem dX3_fewestStuffed_53 : decode cX3_fewestStuffed 53 = .ok (.iload 6, 2) := by decide +kernel
theorem dX3_fewestStuffed_55 : decode cX3_fewestStuffed 55 = .ok (.iload_n 1, 1) := by decide +kernel
theorem dX3_fewestStuffed_56 : decode cX3_fewestStuffed 56 = .ok (.invokestatic 46, 3) := by decide +kernel
theorem dX3_fewestStuffed_59 : decode cX3_fewestStuffed 59 = .ok (.ifCond .eq 6, 3) := by decide +kernel
theorem dX3_fewestStuffed_62 : decode cX3_fewestStuffed 62 = .ok (.goto 46, 3) := by decide +kernel
theorem dX3_fewestStuffed_65 : decode cX3_fewestStuffed 65 = .ok (.aload_n 0, 1) := by decide +kernel
theorem dX3_fewestStuffed_66 : decode cX3_fewestStuffed 66 = .ok (.getfield 19, 3) := by decide +kernel
theorem dX3_fewestStuffed_69 : decode cX3_fewestStuffed 69 = .ok (.iload_n 2, 1) := by decide +kernel
theorem dX3_fewestStuffed_70 : decode cX3_fewestStuffed 70 = .ok (.invokevirtual 29, 3) := by decide +kernel
theorem dX3_fewestStuffed_73 : decode cX3_fewestStuffed 73 = .ok (.aload_n 0, 1) := by decide +kernel
theorem dX3_fewestStuffed_74 : decode cX3_fewestStuffed 74 = .ok (.getfield 19, 3) := by decide +kernel
theorem dX3_fewestStuffed_77 : decode cX3_fewestStuffed 77 = .ok (.iload 6, 2) := by decide +kernel
theorem dX3_fewestStuffed_79 : decode cX3_fewestStuffed 79 = .ok (.invokevirtual 72, 3) := by decide +kernel
theorem dX3_fewestStuffed_82 : decode cX3_fewestStuffed 82 = .ok (.aload_n 0, 1) := by decide +kernel
theorem dX3_fewestStuffed_83 : decode cX3_fewestStuffed 83 = .ok (.getfield 19, 3) := by decide +kernel
theorem dX3_fewestStuffed_86 : decode cX3_fewestStuffed 86 = .ok (.iload_n 1, 1) := by decide +kernel
theorem dX3_fewestStuffed_87 : decode cX3_fewestStuffed 87 = .ok (.bipush 48, 2) := by decide +kernel
theorem dX3_fewestStuffed_89 : decode cX3_fewestStuffed 89 = .ok (.invokevirtual 35, 3) := by decide +kernel
theorem dX3_fewestStuffed_92 : decode cX3_fewestStuffed 92 = .ok (.ifCond .eq 6, 3) := by decide +kernel
theorem dX3_fewestStuffed_95 : decode cX3_fewestStuffed 95 = .ok (.goto 13, 3) := by decide +kernel
theorem dX3_fewestStuffed_98 : decode cX3_fewestStuffed 98 = .ok (.iload 6, 2) := by decide +kernel
theorem dX3_fewestStuffed_100 : decode cX3_fewestStuffed 100 = .ok (.istore_n 3, 1) := by decide +kernel
theorem dX3_fewestStuffed_101 : decode cX3_fewestStuffed 101 = .ok (.iload 6, 2) := by decide +kernel
theorem dX3_fewestStuffed_103 : decode cX3_fewestStuffed 103 = .ok (.invokestatic 67, 3) := by decide +kernel
theorem dX3_fewestStuffed_106 : decode cX3_fewestStuffed 106 = .ok (.istore 4, 2) := by decide +kernel
theorem dX3_fewestStuffed_108 : decode cX3_fewestStuffed 108 = .ok (.iinc 6 1, 3) := by decide +kernel
theorem dX3_fewestStuffed_111 : decode cX3_fewestStuffed 111 = .ok (.goto (-75), 3) := by decide +kernel
theorem dX3_fewestStuffed_114 : decode cX3_fewestStuffed 114 = .ok (.iload_n 3, 1) := by decide +kernel
theorem dX3_fewestStuffed_115 : decode cX3_fewestStuffed 115 = .ok (.ireturn, 1) := by decide +kernel
theorem dX3_widestBorne_0 : decode cX3_widestBorne 0 = .ok (.bipush 6, 2) := by decide +kernel
theorem dX3_widestBorne_2 : decode cX3_widestBorne 2 = .ok (.istore_n 3, 1) := by decide +kernel
theorem dX3_widestBorne_3 : decode cX3_widestBorne 3 = .ok (.iload_n 3, 1) := by decide +kernel
theorem dX3_widestBorne_4 : decode cX3_widestBorne 4 = .ok (.ifCond .lt 21, 3) := by decide +kernel
theorem dX3_widestBorne_7 : decode cX3_widestBorne 7 = .ok (.aload_n 0, 1) := by decide +kernel
theorem dX3_widestBorne_8 : decode cX3_widestBorne 8 = .ok (.iload_n 1, 1) := by decide +kernel
theorem dX3_widestBorne_9 : decode cX3_widestBorne 9 = .ok (.iload_n 3, 1) := by decide +kernel
theorem dX3_widestBorne_10 : decode cX3_widestBorne 10 = .ok (.invokevirtual 75, 3) := by decide +kernel
theorem dX3_widestBorne_13 : decode cX3_widestBorne 13 = .ok (.iload_n 2, 1) := by decide +kernel
theorem dX3_widestBorne_14 : decode cX3_widestBorne 14 = .ok (.if_icmp .gt 5, 3) := by decide +kernel
theorem dX3_widestBorne_17 : decode cX3_widestBorne 17 = .ok (.iload_n 3, 1) := by decide +kernel
theorem dX3_widestBorne_18 : decode cX3_widestBorne 18 = .ok (.ireturn, 1) := by decide +kernel
theorem dX3_widestBorne_19 : decode cX3_widestBorne 19 = .ok (.iinc 3 (-1), 3) := by decide +kernel
theorem dX3_widestBorne_22 : decode cX3_widestBorne 22 = .ok (.goto (-19), 3) := by decide +kernel
theorem dX3_widestBorne_25 : decode cX3_widestBorne 25 = .ok (.bipush (-4), 2) := by decide +kernel
theorem dX3_widestBorne_27 : decode cX3_widestBorne 27 = .ok (.ireturn, 1) := by decide +kernel
theorem dX3_burden_0 : decode cX3_burden 0 = .ok (.iconst 0, 1) := by decide +kernel
theorem dX3_burden_1 : decode cX3_burden 1 = .ok (.istore_n 3, 1) := by decide +kernel
theorem dX3_burden_2 : decode cX3_burden 2 = .ok (.iconst 0, 1) := by decide +kernel
theorem dX3_burden_3 : decode cX3_burden 3 = .ok (.istore 4, 2) := by decide +kernel
theorem dX3_burden_5 : decode cX3_burden 5 = .ok (.iload 4, 2) := by decide +kernel
theorem dX3_burden_7 : decode cX3_burden 7 = .ok (.aload_n 0, 1) := by decide +kernel
theorem dX3_burden_8 : decode cX3_burden 8 = .ok (.getfield 9, 3) := by decide +kernel
theorem dX3_burden_11 : decode cX3_burden 11 = .ok (.invokevirtual 23, 3) := by decide +kernel
theorem dX3_burden_14 : decode cX3_burden 14 = .ok (.if_icmp .ge 52, 3) := by decide +kernel
theorem dX3_burden_17 : decode cX3_burden 17 = .ok (.aload_n 0, 1) := by decide +kernel
theorem dX3_burden_18 : decode cX3_burden 18 = .ok (.getfield 19, 3) := by decide +kernel
theorem dX3_burden_21 : decode cX3_burden 21 = .ok (.iload 4, 2) := by decide +kernel
theorem dX3_burden_23 : decode cX3_burden 23 = .ok (.invokevirtual 29, 3) := by decide +kernel
theorem dX3_burden_26 : decode cX3_burden 26 = .ok (.aload_n 0, 1) := by decide +kernel
theorem dX3_burden_27 : decode cX3_burden 27 = .ok (.getfield 19, 3) := by decide +kernel
theorem dX3_burden_30 : decode cX3_burden 30 = .ok (.iload_n 1, 1) := by decide +kernel
theorem dX3_burden_31 : decode cX3_burden 31 = .ok (.iload_n 2, 1) := by decide +kernel
theorem dX3_burden_32 : decode cX3_burden 32 = .ok (.invokevirtual 78, 3) := by decide +kernel
theorem dX3_burden_35 : decode cX3_burden 35 = .ok (.aload_n 0, 1) := by decide +kernel
theorem dX3_burden_36 : decode cX3_burden 36 = .ok (.getfield 19, 3) := by decide +kernel
theorem dX3_burden_39 : decode cX3_burden 39 = .ok (.iload_n 1, 1) := by decide +kernel
theorem dX3_burden_40 : decode cX3_burden 40 = .ok (.bipush 48, 2) := by decide +kernel
theorem dX3_burden_42 : decode cX3_burden 42 = .ok (.invokevirtual 35, 3) := by decide +kernel
theorem dX3_burden_45 : decode cX3_burden 45 = .ok (.ifCond .eq 15, 3) := by decide +kernel
theorem dX3_burden_48 : decode cX3_burden 48 = .ok (.iload_n 3, 1) := by decide +kernel
theorem dX3_burden_49 : decode cX3_burden 49 = .ok (.aload_n 0, 1) := by decide +kernel
theorem dX3_burden_50 : decode cX3_burden 50 = .ok (.getfield 9, 3) := by decide +kernel
theorem dX3_burden_53 : decode cX3_burden 53 = .ok (.iload 4, 2) := by decide +kernel
theorem dX3_burden_55 : decode cX3_burden 55 = .ok (.invokevirtual 82, 3) := by decide +kernel
theorem dX3_burden_58 : decode cX3_burden 58 = .ok (.iadd, 1) := by decide +kernel
theorem dX3_burden_59 : decode cX3_burden 59 = .ok (.istore_n 3, 1) := by decide +kernel
theorem dX3_burden_60 : decode cX3_burden 60 = .ok (.iinc 4 1, 3) := by decide +kernel
theorem dX3_burden_63 : decode cX3_burden 63 = .ok (.goto (-58), 3) := by decide +kernel
theorem dX3_burden_66 : decode cX3_burden 66 = .ok (.iload_n 3, 1) := by decide +kernel
theorem dX3_burden_67 : decode cX3_burden 67 = .ok (.ireturn, 1) := by decide +kernel
theorem dX3_bestToOpen_0 : decode cX3_bestToOpen 0 = .ok (.aload_n 0, 1) := by decide +kernel
theorem dX3_bestToOpen_1 : decode cX3_bestToOpen 1 = .ok (.iload_n 1, 1) := by decide +kernel
theorem dX3_bestToOpen_2 : decode cX3_bestToOpen 2 = .ok (.iload_n 2, 1) := by decide +kernel
theorem dX3_bestToOpen_3 : decode cX3_bestToOpen 3 = .ok (.iload_n 3, 1) := by decide +kernel
theorem dX3_bestToOpen_4 : decode cX3_bestToOpen 4 = .ok (.bipush 16, 2) := by decide +kernel
theorem dX3_bestToOpen_6 : decode cX3_bestToOpen 6 = .ok (.invokevirtual 85, 3) := by decide +kernel
theorem dX3_bestToOpen_9 : decode cX3_bestToOpen 9 = .ok (.ifCond .eq 6, 3) := by decide +kernel
theorem dX3_bestToOpen_12 : decode cX3_bestToOpen 12 = .ok (.bipush 16, 2) := by decide +kernel
theorem dX3_bestToOpen_14 : decode cX3_bestToOpen 14 = .ok (.ireturn, 1) := by decide +kernel
theorem dX3_bestToOpen_15 : decode cX3_bestToOpen 15 = .ok (.iconst 0, 1) := by decide +kernel
theorem dX3_bestToOpen_16 : decode cX3_bestToOpen 16 = .ok (.istore 4, 2) := by decide +kernel
theorem dX3_bestToOpen_18 : decode cX3_bestToOpen 18 = .ok (.iload 4, 2) := by decide +kernel
theorem dX3_bestToOpen_20 : decode cX3_bestToOpen 20 = .ok (.aload_n 0, 1) := by decide +kernel
theorem dX3_bestToOpen_21 : decode cX3_bestToOpen 21 = .ok (.getfield 9, 3) := by decide +kernel
theorem dX3_bestToOpen_24 : decode cX3_bestToOpen 24 = .ok (.invokevirtual 53, 3) := by decide +kernel
theorem dX3_bestToOpen_27 : decode cX3_bestToOpen 27 = .ok (.if_icmp .ge 24, 3) := by decide +kernel
theorem dX3_bestToOpen_30 : decode cX3_bestToOpen 30 = .ok (.aload_n 0, 1) := by decide +kernel
theorem dX3_bestToOpen_31 : decode cX3_bestToOpen 31 = .ok (.iload_n 1, 1) := by decide +kernel
theorem dX3_bestToOpen_32 : decode cX3_bestToOpen 32 = .ok (.iload_n 2, 1) := by decide +kernel
theorem dX3_bestToOpen_33 : decode cX3_bestToOpen 33 = .ok (.iload_n 3, 1) := by decide +kernel
theorem dX3_bestToOpen_34 : decode cX3_bestToOpen 34 = .ok (.iload 4, 2) := by decide +kernel
theorem dX3_bestToOpen_36 : decode cX3_bestToOpen 36 = .ok (.invokevirtual 85, 3) := by decide +kernel
theorem dX3_bestToOpen_39 : decode cX3_bestToOpen 39 = .ok (.ifCond .eq 6, 3) := by decide +kernel
theorem dX3_bestToOpen_42 : decode cX3_bestToOpen 42 = .ok (.iload 4, 2) := by decide +kernel
theorem dX3_bestToOpen_44 : decode cX3_bestToOpen 44 = .ok (.ireturn, 1) := by decide +kernel
theorem dX3_bestToOpen_45 : decode cX3_bestToOpen 45 = .ok (.iinc 4 1, 3) := by decide +kernel
theorem dX3_bestToOpen_48 : decode cX3_bestToOpen 48 = .ok (.goto (-30), 3) := by decide +kernel
theorem dX3_bestToOpen_51 : decode cX3_bestToOpen 51 = .ok (.bipush 16, 2) := by decide +kernel
theorem dX3_bestToOpen_53 : decode cX3_bestToOpen 53 = .ok (.ireturn, 1) := by decide +kernel
theorem dX3_hearsInSpite_0 : decode cX3_hearsInSpite 0 = .ok (.aload_n 0, 1) := by decide +kernel
theorem dX3_hearsInSpite_1 : decode cX3_hearsInSpite 1 = .ok (.getfield 19, 3) := by decide +kernel
theorem dX3_hearsInSpite_4 : decode cX3_hearsInSpite 4 = .ok (.iload_n 2, 1) := by decide +kernel
theorem dX3_hearsInSpite_5 : decode cX3_hearsInSpite 5 = .ok (.invokevirtual 29, 3) := by decide +kernel
theorem dX3_hearsInSpite_8 : decode cX3_hearsInSpite 8 = .ok (.aload_n 0, 1) := by decide +kernel
theorem dX3_hearsInSpite_9 : decode cX3_hearsInSpite 9 = .ok (.getfield 9, 3) := by decide +kernel
theorem dX3_hearsInSpite_12 : decode cX3_hearsInSpite 12 = .ok (.iload 4, 2) := by decide +kernel
theorem dX3_hearsInSpite_14 : decode cX3_hearsInSpite 14 = .ok (.invokevirtual 89, 3) := by decide +kernel
theorem dX3_hearsInSpite_17 : decode cX3_hearsInSpite 17 = .ok (.ifCond .eq 28, 3) := by decide +kernel
theorem dX3_hearsInSpite_20 : decode cX3_hearsInSpite 20 = .ok (.aload_n 0, 1) := by decide +kernel
theorem dX3_hearsInSpite_21 : decode cX3_hearsInSpite 21 = .ok (.getfield 19, 3) := by decide +kernel
theorem dX3_hearsInSpite_24 : decode cX3_hearsInSpite 24 = .ok (.iload 4, 2) := by decide +kernel
theorem dX3_hearsInSpite_26 : decode cX3_hearsInSpite 26 = .ok (.bipush 6, 2) := by decide +kernel
theorem dX3_hearsInSpite_28 : decode cX3_hearsInSpite 28 = .ok (.aload_n 0, 1) := by decide +kernel
theorem dX3_hearsInSpite_29 : decode cX3_hearsInSpite 29 = .ok (.getfield 15, 3) := by decide +kernel
theorem dX3_hearsInSpite_32 : decode cX3_hearsInSpite 32 = .ok (.iload 4, 2) := by decide +kernel
theorem dX3_hearsInSpite_34 : decode cX3_hearsInSpite 34 = .ok (.invokevirtual 93, 3) := by decide +kernel
theorem dX3_hearsInSpite_37 : decode cX3_hearsInSpite 37 = .ok (.iconst 1, 1) := by decide +kernel
theorem dX3_hearsInSpite_38 : decode cX3_hearsInSpite 38 = .ok (.iadd, 1) := by decide +kernel
theorem dX3_hearsInSpite_39 : decode cX3_hearsInSpite 39 = .ok (.invokestatic 96, 3) := by decide +kernel
theorem dX3_hearsInSpite_42 : decode cX3_hearsInSpite 42 = .ok (.invokevirtual 78, 3) := by decide +kernel
theorem dX3_hearsInSpite_45 : decode cX3_hearsInSpite 45 = .ok (.aload_n 0, 1) := by decide +kernel
theorem dX3_hearsInSpite_46 : decode cX3_hearsInSpite 46 = .ok (.getfield 19, 3) := by decide +kernel
theorem dX3_hearsInSpite_49 : decode cX3_hearsInSpite 49 = .ok (.iload_n 1, 1) := by decide +kernel
theorem dX3_hearsInSpite_50 : decode cX3_hearsInSpite 50 = .ok (.iload_n 3, 1) := by decide +kernel
theorem dX3_hearsInSpite_51 : decode cX3_hearsInSpite 51 = .ok (.invokevirtual 35, 3) := by decide +kernel
theorem dX3_hearsInSpite_54 : decode cX3_hearsInSpite 54 = .ok (.ifCond .ne 5, 3) := by decide +kernel
theorem dX3_hearsInSpite_57 : decode cX3_hearsInSpite 57 = .ok (.iconst 0, 1) := by decide +kernel
theorem dX3_hearsInSpite_58 : decode cX3_hearsInSpite 58 = .ok (.ireturn, 1) := by decide +kernel
theorem dX3_hearsInSpite_59 : decode cX3_hearsInSpite 59 = .ok (.iconst 0, 1) := by decide +kernel
theorem dX3_hearsInSpite_60 : decode cX3_hearsInSpite 60 = .ok (.istore 5, 2) := by decide +kernel
theorem dX3_hearsInSpite_62 : decode cX3_hearsInSpite 62 = .ok (.iload 5, 2) := by decide +kernel
theorem dX3_hearsInSpite_64 : decode cX3_hearsInSpite 64 = .ok (.aload_n 0, 1) := by decide +kernel
theorem dX3_hearsInSpite_65 : decode cX3_hearsInSpite 65 = .ok (.getfield 9, 3) := by decide +kernel
theorem dX3_hearsInSpite_68 : decode cX3_hearsInSpite 68 = .ok (.invokevirtual 53, 3) := by decide +kernel
theorem dX3_hearsInSpite_71 : decode cX3_hearsInSpite 71 = .ok (.if_icmp .ge 66, 3) := by decide +kernel
theorem dX3_hearsInSpite_74 : decode cX3_hearsInSpite 74 = .ok (.aload_n 0, 1) := by decide +kernel
theorem dX3_hearsInSpite_75 : decode cX3_hearsInSpite 75 = .ok (.getfield 19, 3) := by decide +kernel
theorem dX3_hearsInSpite_78 : decode cX3_hearsInSpite 78 = .ok (.iload 5, 2) := by decide +kernel
theorem dX3_hearsInSpite_80 : decode cX3_hearsInSpite 80 = .ok (.invokevirtual 101, 3) := by decide +kernel
theorem dX3_hearsInSpite_83 : decode cX3_hearsInSpite 83 = .ok (.istore 6, 2) := by decide +kernel
theorem dX3_hearsInSpite_85 : decode cX3_hearsInSpite 85 = .ok (.aload_n 0, 1) := by decide +kernel
theorem dX3_hearsInSpite_86 : decode cX3_hearsInSpite 86 = .ok (.getfield 19, 3) := by decide +kernel
theorem dX3_hearsInSpite_89 : decode cX3_hearsInSpite 89 = .ok (.iload 5, 2) := by decide +kernel
theorem dX3_hearsInSpite_91 : decode cX3_hearsInSpite 91 = .ok (.iconst 0, 1) := by decide +kernel
theorem dX3_hearsInSpite_92 : decode cX3_hearsInSpite 92 = .ok (.iload 6, 2) := by decide +kernel
theorem dX3_hearsInSpite_94 : decode cX3_hearsInSpite 94 = .ok (.iconst 1, 1) := by decide +kernel
theorem dX3_hearsInSpite_95 : decode cX3_hearsInSpite 95 = .ok (.isub, 1) := by decide +kernel
theorem dX3_hearsInSpite_96 : decode cX3_hearsInSpite 96 = .ok (.invokestatic 102, 3) := by decide +kernel
theorem dX3_hearsInSpite_99 : decode cX3_hearsInSpite 99 = .ok (.invokevirtual 78, 3) := by decide +kernel
theorem dX3_hearsInSpite_102 : decode cX3_hearsInSpite 102 = .ok (.aload_n 0, 1) := by decide +kernel
theorem dX3_hearsInSpite_103 : decode cX3_hearsInSpite 103 = .ok (.getfield 19, 3) := by decide +kernel
theorem dX3_hearsInSpite_106 : decode cX3_hearsInSpite 106 = .ok (.iload_n 1, 1) := by decide +kernel
theorem dX3_hearsInSpite_107 : decode cX3_hearsInSpite 107 = .ok (.iload_n 3, 1) := by decide +kernel
theorem dX3_hearsInSpite_108 : decode cX3_hearsInSpite 108 = .ok (.invokevirtual 35, 3) := by decide +kernel
theorem dX3_hearsInSpite_111 : decode cX3_hearsInSpite 111 = .ok (.istore 7, 2) := by decide +kernel
theorem dX3_hearsInSpite_113 : decode cX3_hearsInSpite 113 = .ok (.aload_n 0, 1) := by decide +kernel
theorem dX3_hearsInSpite_114 : decode cX3_hearsInSpite 114 = .ok (.getfield 19, 3) := by decide +kernel
theorem dX3_hearsInSpite_117 : decode cX3_hearsInSpite 117 = .ok (.iload 5, 2) := by decide +kernel
theorem dX3_hearsInSpite_119 : decode cX3_hearsInSpite 119 = .ok (.iload 6, 2) := by decide +kernel
theorem dX3_hearsInSpite_121 : decode cX3_hearsInSpite 121 = .ok (.invokevirtual 78, 3) := by decide +kernel
theorem dX3_hearsInSpite_124 : decode cX3_hearsInSpite 124 = .ok (.iload 7, 2) := by decide +kernel
theorem dX3_hearsInSpite_126 : decode cX3_hearsInSpite 126 = .ok (.ifCond .ne 5, 3) := by decide +kernel
theorem dX3_hearsInSpite_129 : decode cX3_hearsInSpite 129 = .ok (.iconst 0, 1) := by decide +kernel
theorem dX3_hearsInSpite_130 : decode cX3_hearsInSpite 130 = .ok (.ireturn, 1) := by decide +kernel
theorem dX3_hearsInSpite_131 : decode cX3_hearsInSpite 131 = .ok (.iinc 5 1, 3) := by decide +kernel
theorem dX3_hearsInSpite_134 : decode cX3_hearsInSpite 134 = .ok (.goto (-72), 3) := by decide +kernel
theorem dX3_hearsInSpite_137 : decode cX3_hearsInSpite 137 = .ok (.iconst 1, 1) := by decide +kernel
theorem dX3_hearsInSpite_138 : decode cX3_hearsInSpite 138 = .ok (.ireturn, 1) := by decide +kernel
theorem dX4_init_0 : decode cX4_init 0 = .ok (.aload_n 0, 1) := by decide +kernel
theorem dX4_init_1 : decode cX4_init 1 = .ok (.invokespecial 3, 3) := by decide +kernel
theorem dX4_init_4 : decode cX4_init 4 = .ok (.aload_n 0, 1) := by decide +kernel
theorem dX4_init_5 : decode cX4_init 5 = .ok (.bipush 16, 2) := by decide +kernel
theorem dX4_init_7 : decode cX4_init 7 = .ok (.newarray .int, 2) := by decide +kernel
theorem dX4_init_9 : decode cX4_init 9 = .ok (.putfield 9, 3) := by decide +kernel
theorem dX4_init_12 : decode cX4_init 12 = .ok (.aload_n 0, 1) := by decide +kernel
theorem dX4_init_13 : decode cX4_init 13 = .ok (.bipush 16, 2) := by decide +kernel
theorem dX4_init_15 : decode cX4_init 15 = .ok (.newarray .int, 2) := by decide +kernel
theorem dX4_init_17 : decode cX4_init 17 = .ok (.putfield 15, 3) := by decide +kernel
theorem dX4_init_20 : decode cX4_init 20 = .ok (.aload_n 0, 1) := by decide +kernel
theorem dX4_init_21 : decode cX4_init 21 = .ok (.iconst 5, 1) := by decide +kernel
theorem dX4_init_22 : decode cX4_init 22 = .ok (.newarray .int, 2) := by decide +kernel
theorem dX4_init_24 : decode cX4_init 24 = .ok (.putfield 18, 3) := by decide +kernel
theorem dX4_init_27 : decode cX4_init 27 = .ok (.aload_n 0, 1) := by decide +kernel
theorem dX4_init_28 : decode cX4_init 28 = .ok (.iconst 5, 1) := by decide +kernel
theorem dX4_init_29 : decode cX4_init 29 = .ok (.newarray .int, 2) := by decide +kernel
theorem dX4_init_31 : decode cX4_init 31 = .ok (.putfield 21, 3) := by decide +kernel
theorem dX4_init_34 : decode cX4_init 34 = .ok (.aload_n 0, 1) := by decide +kernel
theorem dX4_init_35 : decode cX4_init 35 = .ok (.iconst 5, 1) := by decide +kernel
theorem dX4_init_36 : decode cX4_init 36 = .ok (.newarray .int, 2) := by decide +kernel
theorem dX4_init_38 : decode cX4_init 38 = .ok (.putfield 24, 3) := by decide +kernel
theorem dX4_init_41 : decode cX4_init 41 = .ok (.aload_n 0, 1) := by decide +kernel
theorem dX4_init_42 : decode cX4_init 42 = .ok (.bipush 8, 2) := by decide +kernel
theorem dX4_init_44 : decode cX4_init 44 = .ok (.newarray .int, 2) := by decide +kernel
theorem dX4_init_46 : decode cX4_init 46 = .ok (.putfield 27, 3) := by decide +kernel
theorem dX4_init_49 : decode cX4_init 49 = .ok (.aload_n 0, 1) := by decide +kernel
theorem dX4_init_50 : decode cX4_init 50 = .ok (.iconst 0, 1) := by decide +kernel
theorem dX4_init_51 : decode cX4_init 51 = .ok (.putfield 30, 3) := by decide +kernel
theorem dX4_init_54 : decode cX4_init 54 = .ok (.aload_n 0, 1) := by decide +kernel
theorem dX4_init_55 : decode cX4_init 55 = .ok (.iconst 0, 1) := by decide +kernel
theorem dX4_init_56 : decode cX4_init 56 = .ok (.putfield 34, 3) := by decide +kernel
theorem dX4_init_59 : decode cX4_init 59 = .ok (.aload_n 0, 1) := by decide +kernel
theorem dX4_init_60 : decode cX4_init 60 = .ok (.iconst 0, 1) := by decide +kernel
theorem dX4_init_61 : decode cX4_init 61 = .ok (.putfield 37, 3) := by decide +kernel
theorem dX4_init_64 : decode cX4_init 64 = .ok (.aload_n 0, 1) := by decide +kernel
theorem dX4_init_65 : decode cX4_init 65 = .ok (.iconst 0, 1) := by decide +kernel
theorem dX4_init_66 : decode cX4_init 66 = .ok (.putfield 40, 3) := by decide +kernel
theorem dX4_init_69 : decode cX4_init 69 = .ok (.aload_n 0, 1) := by decide +kernel
theorem dX4_init_70 : decode cX4_init 70 = .ok (.iconst 0, 1) := by decide +kernel
theorem dX4_init_71 : decode cX4_init 71 = .ok (.putfield 43, 3) := by decide +kernel
theorem dX4_init_74 : decode cX4_init 74 = .ok (.aload_n 0, 1) := by decide +kernel
theorem dX4_init_75 : decode cX4_init 75 = .ok (.iconst 0, 1) := by decide +kernel
theorem dX4_init_76 : decode cX4_init 76 = .ok (.putfield 46, 3) := by decide +kernel
theorem dX4_init_79 : decode cX4_init 79 = .ok (.aload_n 0, 1) := by decide +kernel
theorem dX4_init_80 : decode cX4_init 80 = .ok (.iconst 1, 1) := by decide +kernel
theorem dX4_init_81 : decode cX4_init 81 = .ok (.putfield 49, 3) := by decide +kernel
theorem dX4_init_84 : decode cX4_init 84 = .ok (.return_, 1) := by decide +kernel
theorem dX4_clear_0 : decode cX4_clear 0 = .ok (.aload_n 0, 1) := by decide +kernel
theorem dX4_clear_1 : decode cX4_clear 1 = .ok (.getfield 9, 3) := by decide +kernel
theorem dX4_clear_4 : decode cX4_clear 4 = .ok (.iconst 0, 1) := by decide +kernel
theorem dX4_clear_5 : decode cX4_clear 5 = .ok (.invokestatic 53, 3) := by decide +kernel
theorem dX4_clear_8 : decode cX4_clear 8 = .ok (.aload_n 0, 1) := by decide +kernel
theorem dX4_clear_9 : decode cX4_clear 9 = .ok (.getfield 15, 3) := by decide +kernel
theorem dX4_clear_12 : decode cX4_clear 12 = .ok (.iconst 2, 1) := by decide +kernel
theorem dX4_clear_13 : decode cX4_clear 13 = .ok (.invokestatic 53, 3) := by decide +kernel
theorem dX4_clear_16 : decode cX4_clear 16 = .ok (.aload_n 0, 1) := by decide +kernel
theorem dX4_clear_17 : decode cX4_clear 17 = .ok (.getfield 27, 3) := by decide +kernel
theorem dX4_clear_20 : decode cX4_clear 20 = .ok (.iconst 0, 1) := by decide +kernel
theorem dX4_clear_21 : decode cX4_clear 21 = .ok (.invokestatic 53, 3) := by decide +kernel
theorem dX4_clear_24 : decode cX4_clear 24 = .ok (.aload_n 0, 1) := by decide +kernel
theorem dX4_clear_25 : decode cX4_clear 25 = .ok (.iconst 0, 1) := by decide +kernel
theorem dX4_clear_26 : decode cX4_clear 26 = .ok (.putfield 43, 3) := by decide +kernel
theorem dX4_clear_29 : decode cX4_clear 29 = .ok (.aload_n 0, 1) := by decide +kernel
theorem dX4_clear_30 : decode cX4_clear 30 = .ok (.iconst 0, 1) := by decide +kernel
theorem dX4_clear_31 : decode cX4_clear 31 = .ok (.putfield 46, 3) := by decide +kernel
theorem dX4_clear_34 : decode cX4_clear 34 = .ok (.aload_n 0, 1) := by decide +kernel
theorem dX4_clear_35 : decode cX4_clear 35 = .ok (.iconst 1, 1) := by decide +kernel
theorem dX4_clear_36 : decode cX4_clear 36 = .ok (.putfield 49, 3) := by decide +kernel
theorem dX4_clear_39 : decode cX4_clear 39 = .ok (.aload_n 0, 1) := by decide +kernel
theorem dX4_clear_40 : decode cX4_clear 40 = .ok (.iconst 3, 1) := by decide +kernel
theorem dX4_clear_41 : decode cX4_clear 41 = .ok (.iconst 4, 1) := by decide +kernel
theorem dX4_clear_42 : decode cX4_clear 42 = .ok (.invokevirtual 57, 3) := by decide +kernel
theorem dX4_clear_45 : decode cX4_clear 45 = .ok (.pop, 1) := by decide +kernel
theorem dX4_clear_46 : decode cX4_clear 46 = .ok (.return_, 1) := by decide +kernel
theorem dX4_take_0 : decode cX4_take 0 = .ok (.aload_n 3, 1) := by decide +kernel
theorem dX4_take_1 : decode cX4_take 1 = .ok (.iconst 0, 1) := by decide +kernel
theorem dX4_take_2 : decode cX4_take 2 = .ok (.invokestatic 61, 3) := by decide +kernel
theorem dX4_take_5 : decode cX4_take 5 = .ok (.istore 4, 2) := by decide +kernel
theorem dX4_take_7 : decode cX4_take 7 = .ok (.aload_n 3, 1) := by decide +kernel
theorem dX4_take_8 : decode cX4_take 8 = .ok (.iconst 1, 1) := by decide +kernel
theorem dX4_take_9 : decode cX4_take 9 = .ok (.invokestatic 61, 3) := by decide +kernel
theorem dX4_take_12 : decode cX4_take 12 = .ok (.istore 5, 2) := by decide +kernel
theorem dX4_take_14 : decode cX4_take 14 = .ok (.aload_n 3, 1) := by decide +kernel
theorem dX4_take_15 : decode cX4_take 15 = .ok (.iconst 2, 1) := by decide +kernel
theorem dX4_take_16 : decode cX4_take 16 = .ok (.invokestatic 61, 3) := by decide +kernel
theorem dX4_take_19 : decode cX4_take 19 = .ok (.istore 6, 2) := by decide +kernel
theorem dX4_take_21 : decode cX4_take 21 = .ok (.iload_n 1, 1) := by decide +kernel
theorem dX4_take_22 : decode cX4_take 22 = .ok (.bipush 103, 2) := by decide +kernel
theorem dX4_take_24 : decode cX4_take 24 = .ok (.if_icmp .ne 32, 3) := by decide +kernel
theorem dX4_take_27 : decode cX4_take 27 = .ok (.iload_n 2, 1) := by decide +kernel
theorem dX4_take_28 : decode cX4_take 28 = .ok (.iconst 2, 1) := by decide +kernel
theorem dX4_take_29 : decode cX4_take 29 = .ok (.if_icmp .ne 25, 3) := by decide +kernel
theorem dX4_take_32 : decode cX4_take 32 = .ok (.aload_n 0, 1) := by decide +kernel
theorem dX4_take_33 : decode cX4_take 33 = .ok (.getfield 49, 3) := by decide +kernel
theorem dX4_take_36 : decode cX4_take 36 = .ok (.ifCond .eq 18, 3) := by decide +kernel
theorem dX4_take_39 : decode cX4_take 39 = .ok (.aload_n 0, 1) := by decide +kernel
theorem dX4_take_40 : decode cX4_take 40 = .ok (.iload 4, 2) := by decide +kernel
theorem dX4_take_42 : decode cX4_take 42 = .ok (.iload 5, 2) := by decide +kernel
theorem dX4_take_44 : decode cX4_take 44 = .ok (.invokevirtual 57, 3) := by decide +kernel
theorem dX4_take_47 : decode cX4_take 47 = .ok (.ifCond .eq 7, 3) := by decide +kernel
theorem dX4_take_50 : decode cX4_take 50 = .ok (.iconst 1, 1) := by decide +kernel
theorem dX4_take_51 : decode cX4_take 51 = .ok (.goto 4, 3) := by decide +kernel
theorem dX4_take_54 : decode cX4_take 54 = .ok (.iconst 0, 1) := by decide +kernel
theorem dX4_take_55 : decode cX4_take 55 = .ok (.ireturn, 1) := by decide +kernel
theorem dX4_take_56 : decode cX4_take 56 = .ok (.aload_n 0, 1) := by decide +kernel
theorem dX4_take_57 : decode cX4_take 57 = .ok (.iconst 0, 1) := by decide +kernel
theorem dX4_take_58 : decode cX4_take 58 = .ok (.putfield 49, 3) := by decide +kernel
theorem dX4_take_61 : decode cX4_take 61 = .ok (.iload_n 1, 1) := by decide +kernel
theorem dX4_take_62 : decode cX4_take 62 = .ok (.lookupswitch 102 #[(104, 34), (110, 58), (119, 82)], 34) := by decide +kernel
theorem dX4_take_96 : decode cX4_take 96 = .ok (.iload_n 2, 1) := by decide +kernel
theorem dX4_take_97 : decode cX4_take 97 = .ok (.iconst 3, 1) := by decide +kernel
theorem dX4_take_98 : decode cX4_take 98 = .ok (.if_icmp .ne 20, 3) := by decide +kernel
theorem dX4_take_101 : decode cX4_take 101 = .ok (.aload_n 0, 1) := by decide +kernel
theorem dX4_take_102 : decode cX4_take 102 = .ok (.iload 4, 2) := by decide +kernel
theorem dX4_take_104 : decode cX4_take 104 = .ok (.iload 5, 2) := by decide +kernel
theorem dX4_take_106 : decode cX4_take 106 = .ok (.iload 6, 2) := by decide +kernel
theorem dX4_take_108 : decode cX4_take 108 = .ok (.invokevirtual 65, 3) := by decide +kernel
theorem dX4_take_111 : decode cX4_take 111 = .ok (.ifCond .eq 7, 3) := by decide +kernel
theorem dX4_take_114 : decode cX4_take 114 = .ok (.iconst 1, 1) := by decide +kernel
theorem dX4_take_115 : decode cX4_take 115 = .ok (.goto 4, 3) := by decide +kernel
theorem dX4_take_118 : decode cX4_take 118 = .ok (.iconst 0, 1) := by decide +kernel
theorem dX4_take_119 : decode cX4_take 119 = .ok (.ireturn, 1) := by decide +kernel
theorem dX4_take_120 : decode cX4_take 120 = .ok (.iload_n 2, 1) := by decide +kernel
theorem dX4_take_121 : decode cX4_take 121 = .ok (.iconst 3, 1) := by decide +kernel
theorem dX4_take_122 : decode cX4_take 122 = .ok (.if_icmp .ne 20, 3) := by decide +kernel
theorem dX4_take_125 : decode cX4_take 125 = .ok (.aload_n 0, 1) := by decide +kernel
theorem dX4_take_126 : decode cX4_take 126 = .ok (.iload 4, 2) := by decide +kernel
theorem dX4_take_128 : decode cX4_take 128 = .ok (.iload 5, 2) := by decide +kernel
theorem dX4_take_130 : decode cX4_take 130 = .ok (.iload 6, 2) := by decide +kernel
theorem dX4_take_132 : decode cX4_take 132 = .ok (.invokevirtual 69, 3) := by decide +kernel
theorem dX4_take_135 : decode cX4_take 135 = .ok (.ifCond .eq 7, 3) := by decide +kernel
theorem dX4_take_138 : decode cX4_take 138 = .ok (.iconst 1, 1) := by decide +kernel
theorem dX4_take_139 : decode cX4_take 139 = .ok (.goto 4, 3) := by decide +kernel
theorem dX4_take_142 : decode cX4_take 142 = .ok (.iconst 0, 1) := by decide +kernel
theorem dX4_take_143 : decode cX4_take 143 = .ok (.ireturn, 1) := by decide +kernel
theorem dX4_take_144 : decode cX4_take 144 = .ok (.iload_n 2, 1) := by decide +kernel
theorem dX4_take_145 : decode cX4_take 145 = .ok (.iconst 1, 1) := by decide +kernel
theorem dX4_take_146 : decode cX4_take 146 = .ok (.if_icmp .ne 16, 3) := by decide +kernel
theorem dX4_take_149 : decode cX4_take 149 = .ok (.aload_n 0, 1) := by decide +kernel
theorem dX4_take_150 : decode cX4_take 150 = .ok (.iload 4, 2) := by decide +kernel
theorem dX4_take_152 : decode cX4_take 152 = .ok (.invokevirtual 72, 3) := by decide +kernel
theorem dX4_take_155 : decode cX4_take 155 = .ok (.ifCond .eq 7, 3) := by decide +kernel
theorem dX4_take_158 : decode cX4_take 158 = .ok (.iconst 1, 1) := by decide +kernel
theorem dX4_take_159 : decode cX4_take 159 = .ok (.goto 4, 3) := by decide +kernel
theorem dX4_take_162 : decode cX4_take 162 = .ok (.iconst 0, 1) := by decide +kernel
theorem dX4_take_163 : decode cX4_take 163 = .ok (.ireturn, 1) := by decide +kernel
theorem dX4_take_164 : decode cX4_take 164 = .ok (.iconst 0, 1) := by decide +kernel
theorem dX4_take_165 : decode cX4_take 165 = .ok (.ireturn, 1) := by decide +kernel
theorem dX4_takeGrid_0 : decode cX4_takeGrid 0 = .ok (.iload_n 1, 1) := by decide +kernel
theorem dX4_takeGrid_1 : decode cX4_takeGrid 1 = .ok (.iconst 1, 1) := by decide +kernel
theorem dX4_takeGrid_2 : decode cX4_takeGrid 2 = .ok (.iconst 4, 1) := by decide +kernel
theorem dX4_takeGrid_3 : decode cX4_takeGrid 3 = .ok (.invokestatic 76, 3) := by decide +kernel
theorem dX4_takeGrid_6 : decode cX4_takeGrid 6 = .ok (.ifCond .eq 12, 3) := by decide +kernel
theorem dX4_takeGrid_9 : decode cX4_takeGrid 9 = .ok (.iload_n 2, 1) := by decide +kernel
theorem dX4_takeGrid_10 : decode cX4_takeGrid 10 = .ok (.iconst 1, 1) := by decide +kernel
theorem dX4_takeGrid_11 : decode cX4_takeGrid 11 = .ok (.iconst 4, 1) := by decide +kernel
theorem dX4_takeGrid_12 : decode cX4_takeGrid 12 = .ok (.invokestatic 76, 3) := by decide +kernel
theorem dX4_takeGrid_15 : decode cX4_takeGrid 15 = .ok (.ifCond .ne 5, 3) := by decide +kernel
theorem dX4_takeGrid_18 : decode cX4_takeGrid 18 = .ok (.iconst 0, 1) := by decide +kernel
theorem dX4_takeGrid_19 : decode cX4_takeGrid 19 = .ok (.ireturn, 1) := by decide +kernel
theorem dX4_takeGrid_20 : decode cX4_takeGrid 20 = .ok (.aload_n 0, 1) := by decide +kernel
theorem dX4_takeGrid_21 : decode cX4_takeGrid 21 = .ok (.iload_n 1, 1) := by decide +kernel
theorem dX4_takeGrid_22 : decode cX4_takeGrid 22 = .ok (.putfield 30, 3) := by decide +kernel
theorem dX4_takeGrid_25 : decode cX4_takeGrid 25 = .ok (.aload_n 0, 1) := by decide +kernel
theorem dX4_takeGrid_26 : decode cX4_takeGrid 26 = .ok (.iload_n 2, 1) := by decide +kernel
theorem dX4_takeGrid_27 : decode cX4_takeGrid 27 = .ok (.putfield 34, 3) := by decide +kernel
theorem dX4_takeGrid_30 : decode cX4_takeGrid 30 = .ok (.aload_n 0, 1) := by decide +kernel
theorem dX4_takeGrid_31 : decode cX4_takeGrid 31 = .ok (.iconst 0, 1) := by decide +kernel
theorem dX4_takeGrid_32 : decode cX4_takeGrid 32 = .ok (.putfield 37, 3) := by decide +kernel
theorem dX4_takeGrid_35 : decode cX4_takeGrid 35 = .ok (.iconst 0, 1) := by decide +kernel
theorem dX4_takeGrid_36 : decode cX4_takeGrid 36 = .ok (.istore_n 3, 1) := by decide +kernel
theorem dX4_takeGrid_37 : decode cX4_takeGrid 37 = .ok (.iload_n 3, 1) := by decide +kernel
theorem dX4_takeGrid_38 : decode cX4_takeGrid 38 = .ok (.aload_n 0, 1) := by decide +kernel
theorem dX4_takeGrid_39 : decode cX4_takeGrid 39 = .ok (.getfield 30, 3) := by decide +kernel
theorem dX4_takeGrid_42 : decode cX4_takeGrid 42 = .ok (.if_icmp .ge 27, 3) := by decide +kernel
theorem dX4_takeGrid_45 : decode cX4_takeGrid 45 = .ok (.aload_n 0, 1) := by decide +kernel
theorem dX4_takeGrid_46 : decode cX4_takeGrid 46 = .ok (.dup, 1) := by decide +kernel
theorem dX4_takeGrid_47 : decode cX4_takeGrid 47 = .ok (.getfield 37, 3) := by decide +kernel
theorem dX4_takeGrid_50 : decode cX4_takeGrid 50 = .ok (.iload_n 3, 1) := by decide +kernel
theorem dX4_takeGrid_51 : decode cX4_takeGrid 51 = .ok (.aload_n 0, 1) := by decide +kernel
theorem dX4_takeGrid_52 : decode cX4_takeGrid 52 = .ok (.getfield 34, 3) := by decide +kernel
theorem dX4_takeGrid_55 : decode cX4_takeGrid 55 = .ok (.imul, 1) := by decide +kernel
theorem dX4_takeGrid_56 : decode cX4_takeGrid 56 = .ok (.invokestatic 79, 3) := by decide +kernel
theorem dX4_takeGrid_59 : decode cX4_takeGrid 59 = .ok (.ior, 1) := by decide +kernel
theorem dX4_takeGrid_60 : decode cX4_takeGrid 60 = .ok (.putfield 37, 3) := by decide +kernel
theorem dX4_takeGrid_63 : decode cX4_takeGrid 63 = .ok (.iinc 3 1, 3) := by decide +kernel
theorem dX4_takeGrid_66 : decode cX4_takeGrid 66 = .ok (.goto (-29), 3) := by decide +kernel
theorem dX4_takeGrid_69 : decode cX4_takeGrid 69 = .ok (.aload_n 0, 1) := by decide +kernel
theorem dX4_takeGrid_70 : decode cX4_takeGrid 70 = .ok (.aload_n 0, 1) := by decide +kernel
theorem dX4_takeGrid_71 : decode cX4_takeGrid 71 = .ok (.getfield 37, 3) := by decide +kernel
theorem dX4_takeGrid_74 : decode cX4_takeGrid 74 = .ok (.aload_n 0, 1) := by decide +kernel
theorem dX4_takeGrid_75 : decode cX4_takeGrid 75 = .ok (.getfield 34, 3) := by decide +kernel
theorem dX4_takeGrid_78 : decode cX4_takeGrid 78 = .ok (.iconst 1, 1) := by decide +kernel
theorem dX4_takeGrid_79 : decode cX4_takeGrid 79 = .ok (.isub, 1) := by decide +kernel
theorem dX4_takeGrid_80 : decode cX4_takeGrid 80 = .ok (.ishl, 1) := by decide +kernel
theorem dX4_takeGrid_81 : decode cX4_takeGrid 81 = .ok (.putfield 40, 3) := by decide +kernel
theorem dX4_takeGrid_84 : decode cX4_takeGrid 84 = .ok (.iconst 1, 1) := by decide +kernel
theorem dX4_takeGrid_85 : decode cX4_takeGrid 85 = .ok (.ireturn, 1) := by decide +kernel
theorem dX4_takeHouse_0 : decode cX4_takeHouse 0 = .ok (.aload_n 0, 1) := by decide +kernel
theorem dX4_takeHouse_1 : decode cX4_takeHouse 1 = .ok (.iload_n 1, 1) := by decide +kernel
theorem dX4_takeHouse_2 : decode cX4_takeHouse 2 = .ok (.invokevirtual 83, 3) := by decide +kernel
theorem dX4_takeHouse_5 : decode cX4_takeHouse 5 = .ok (.ifCond .eq 15, 3) := by decide +kernel
theorem dX4_takeHouse_8 : decode cX4_takeHouse 8 = .ok (.iload_n 2, 1) := by decide +kernel
theorem dX4_takeHouse_9 : decode cX4_takeHouse 9 = .ok (.iconst 4, 1) := by decide +kernel
theorem dX4_takeHouse_10 : decode cX4_takeHouse 10 = .ok (.if_icmp .gt 10, 3) := by decide +kernel
theorem dX4_takeHouse_13 : decode cX4_takeHouse 13 = .ok (.iload_n 3, 1) := by decide +kernel
theorem dX4_takeHouse_14 : decode cX4_takeHouse 14 = .ok (.invokestatic 86, 3) := by decide +kernel
theorem dX4_takeHouse_17 : decode cX4_takeHouse 17 = .ok (.ifCond .ne 5, 3) := by decide +kernel
theorem dX4_takeHouse_20 : decode cX4_takeHouse 20 = .ok (.iconst 0, 1) := by decide +kernel
theorem dX4_takeHouse_21 : decode cX4_takeHouse 21 = .ok (.ireturn, 1) := by decide +kernel
theorem dX4_takeHouse_22 : decode cX4_takeHouse 22 = .ok (.aload_n 0, 1) := by decide +kernel
theorem dX4_takeHouse_23 : decode cX4_takeHouse 23 = .ok (.getfield 9, 3) := by decide +kernel
theorem dX4_takeHouse_26 : decode cX4_takeHouse 26 = .ok (.iload_n 1, 1) := by decide +kernel
theorem dX4_takeHouse_27 : decode cX4_takeHouse 27 = .ok (.iload_n 2, 1) := by decide +kernel
theorem dX4_takeHouse_28 : decode cX4_takeHouse 28 = .ok (.invokestatic 89, 3) := by decide +kernel
theorem dX4_takeHouse_31 : decode cX4_takeHouse 31 = .ok (.aload_n 0, 1) := by decide +kernel
theorem dX4_takeHouse_32 : decode cX4_takeHouse 32 = .ok (.getfield 15, 3) := by decide +kernel
theorem dX4_takeHouse_35 : decode cX4_takeHouse 35 = .ok (.iload_n 1, 1) := by decide +kernel
theorem dX4_takeHouse_36 : decode cX4_takeHouse 36 = .ok (.iload_n 3, 1) := by decide +kernel
theorem dX4_takeHouse_37 : decode cX4_takeHouse 37 = .ok (.invokestatic 89, 3) := by decide +kernel
theorem dX4_takeHouse_40 : decode cX4_takeHouse 40 = .ok (.iconst 1, 1) := by decide +kernel
theorem dX4_takeHouse_41 : decode cX4_takeHouse 41 = .ok (.ireturn, 1) := by decide +kernel
theorem dX4_takeNews_0 : decode cX4_takeNews 0 = .ok (.iload_n 1, 1) := by decide +kernel
theorem dX4_takeNews_1 : decode cX4_takeNews 1 = .ok (.iconst 2, 1) := by decide +kernel
theorem dX4_takeNews_2 : decode cX4_takeNews 2 = .ok (.if_icmp .gt 20, 3) := by decide +kernel
theorem dX4_takeNews_5 : decode cX4_takeNews 5 = .ok (.iload_n 2, 1) := by decide +kernel
theorem dX4_takeNews_6 : decode cX4_takeNews 6 = .ok (.iconst 1, 1) := by decide +kernel
theorem dX4_takeNews_7 : decode cX4_takeNews 7 = .ok (.iconst 4, 1) := by decide +kernel
theorem dX4_takeNews_8 : decode cX4_takeNews 8 = .ok (.invokestatic 76, 3) := by decide +kernel
theorem dX4_takeNews_11 : decode cX4_takeNews 11 = .ok (.ifCond .eq 11, 3) := by decide +kernel
theorem dX4_takeNews_14 : decode cX4_takeNews 14 = .ok (.aload_n 0, 1) := by decide +kernel
theorem dX4_takeNews_15 : decode cX4_takeNews 15 = .ok (.iload_n 3, 1) := by decide +kernel
theorem dX4_takeNews_16 : decode cX4_takeNews 16 = .ok (.invokevirtual 83, 3) := by decide +kernel
theorem dX4_takeNews_19 : decode cX4_takeNews 19 = .ok (.ifCond .ne 5, 3) := by decide +kernel
theorem dX4_takeNews_22 : decode cX4_takeNews 22 = .ok (.iconst 0, 1) := by decide +kernel
theorem dX4_takeNews_23 : decode cX4_takeNews 23 = .ok (.ireturn, 1) := by decide +kernel
theorem dX4_takeNews_24 : decode cX4_takeNews 24 = .ok (.aload_n 0, 1) := by decide +kernel
theorem dX4_takeNews_25 : decode cX4_takeNews 25 = .ok (.getfield 43, 3) := by decide +kernel
theorem dX4_takeNews_28 : decode cX4_takeNews 28 = .ok (.iconst 5, 1) := by decide +kernel
theorem dX4_takeNews_29 : decode cX4_takeNews 29 = .ok (.if_icmp .lt 5, 3) := by decide +kernel
theorem dX4_takeNews_32 : decode cX4_takeNews 32 = .ok (.iconst 0, 1) := by decide +kernel
theorem dX4_takeNews_33 : decode cX4_takeNews 33 = .ok (.ireturn, 1) := by decide +kernel
theorem dX4_takeNews_34 : decode cX4_takeNews 34 = .ok (.aload_n 0, 1) := by decide +kernel
theorem dX4_takeNews_35 : decode cX4_takeNews 35 = .ok (.getfield 18, 3) := by decide +kernel
theorem dX4_takeNews_38 : decode cX4_takeNews 38 = .ok (.aload_n 0, 1) := by decide +kernel
theorem dX4_takeNews_39 : decode cX4_takeNews 39 = .ok (.getfield 43, 3) := by decide +kernel
theorem dX4_takeNews_42 : decode cX4_takeNews 42 = .ok (.iload_n 1, 1) := by decide +kernel
theorem dX4_takeNews_43 : decode cX4_takeNews 43 = .ok (.invokestatic 89, 3) := by decide +kernel
theorem dX4_takeNews_46 : decode cX4_takeNews 46 = .ok (.aload_n 0, 1) := by decide +kernel
theorem dX4_takeNews_47 : decode cX4_takeNews 47 = .ok (.getfield 21, 3) := by decide +kernel
theorem dX4_takeNews_50 : decode cX4_takeNews 50 = .ok (.aload_n 0, 1) := by decide +kernel
theorem dX4_takeNews_51 : decode cX4_takeNews 51 = .ok (.getfield 43, 3) := by decide +kernel
theorem dX4_takeNews_54 : decode cX4_takeNews 54 = .ok (.iload_n 2, 1) := by decide +kernel
theorem dX4_takeNews_55 : decode cX4_takeNews 55 = .ok (.invokestatic 89, 3) := by decide +kernel
theorem dX4_takeNews_58 : decode cX4_takeNews 58 = .ok (.aload_n 0, 1) := by decide +kernel
theorem dX4_takeNews_59 : decode cX4_takeNews 59 = .ok (.getfield 24, 3) := by decide +kernel
theorem dX4_takeNews_62 : decode cX4_takeNews 62 = .ok (.aload_n 0, 1) := by decide +kernel
theorem dX4_takeNews_63 : decode cX4_takeNews 63 = .ok (.getfield 43, 3) := by decide +kernel
theorem dX4_takeNews_66 : decode cX4_takeNews 66 = .ok (.iload_n 3, 1) := by decide +kernel
theorem dX4_takeNews_67 : decode cX4_takeNews 67 = .ok (.invokestatic 89, 3) := by decide +kernel
theorem dX4_takeNews_70 : decode cX4_takeNews 70 = .ok (.aload_n 0, 1) := by decide +kernel
theorem dX4_takeNews_71 : decode cX4_takeNews 71 = .ok (.dup, 1) := by decide +kernel
theorem dX4_takeNews_72 : decode cX4_takeNews 72 = .ok (.getfield 43, 3) := by decide +kernel
theorem dX4_takeNews_75 : decode cX4_takeNews 75 = .ok (.iconst 1, 1) := by decide +kernel
theorem dX4_takeNews_76 : decode cX4_takeNews 76 = .ok (.iadd, 1) := by decide +kernel
theorem dX4_takeNews_77 : decode cX4_takeNews 77 = .ok (.putfield 43, 3) := by decide +kernel
theorem dX4_takeNews_80 : decode cX4_takeNews 80 = .ok (.iconst 1, 1) := by decide +kernel
theorem dX4_takeNews_81 : decode cX4_takeNews 81 = .ok (.ireturn, 1) := by decide +kernel
theorem dX4_takeWind_0 : decode cX4_takeWind 0 = .ok (.iload_n 1, 1) := by decide +kernel
theorem dX4_takeWind_1 : decode cX4_takeWind 1 = .ok (.iconst 4, 1) := by decide +kernel
theorem dX4_takeWind_2 : decode cX4_takeWind 2 = .ok (.if_icmp .gt 12, 3) := by decide +kernel
theorem dX4_takeWind_5 : decode cX4_takeWind 5 = .ok (.aload_n 0, 1) := by decide +kernel
theorem dX4_takeWind_6 : decode cX4_takeWind 6 = .ok (.getfield 46, 3) := by decide +kernel
theorem dX4_takeWind_9 : decode cX4_takeWind 9 = .ok (.bipush 8, 2) := by decide +kernel
theorem dX4_takeWind_11 : decode cX4_takeWind 11 = .ok (.if_icmp .lt 5, 3) := by decide +kernel
theorem dX4_takeWind_14 : decode cX4_takeWind 14 = .ok (.iconst 0, 1) := by decide +kernel
theorem dX4_takeWind_15 : decode cX4_takeWind 15 = .ok (.ireturn, 1) := by decide +kernel
theorem dX4_takeWind_16 : decode cX4_takeWind 16 = .ok (.aload_n 0, 1) := by decide +kernel
theorem dX4_takeWind_17 : decode cX4_takeWind 17 = .ok (.getfield 27, 3) := by decide +kernel
theorem dX4_takeWind_20 : decode cX4_takeWind 20 = .ok (.aload_n 0, 1) := by decide +kernel
theorem dX4_takeWind_21 : decode cX4_takeWind 21 = .ok (.getfield 46, 3) := by decide +kernel
theorem dX4_takeWind_24 : decode cX4_takeWind 24 = .ok (.iload_n 1, 1) := by decide +kernel
theorem dX4_takeWind_25 : decode cX4_takeWind 25 = .ok (.invokestatic 89, 3) := by decide +kernel
theorem dX4_takeWind_28 : decode cX4_takeWind 28 = .ok (.aload_n 0, 1) := by decide +kernel
theorem dX4_takeWind_29 : decode cX4_takeWind 29 = .ok (.dup, 1) := by decide +kernel
theorem dX4_takeWind_30 : decode cX4_takeWind 30 = .ok (.getfield 46, 3) := by decide +kernel
theorem dX4_takeWind_33 : decode cX4_takeWind 33 = .ok (.iconst 1, 1) := by decide +kernel
theorem dX4_takeWind_34 : decode cX4_takeWind 34 = .ok (.iadd, 1) := by decide +kernel
theorem dX4_takeWind_35 : decode cX4_takeWind 35 = .ok (.putfield 46, 3) := by decide +kernel
theorem dX4_takeWind_38 : decode cX4_takeWind 38 = .ok (.iconst 1, 1) := by decide +kernel
theorem dX4_takeWind_39 : decode cX4_takeWind 39 = .ok (.ireturn, 1) := by decide +kernel
theorem dX4_rows_0 : decode cX4_rows 0 = .ok (.aload_n 0, 1) := by decide +kernel
theorem dX4_rows_1 : decode cX4_rows 1 = .ok (.getfield 30, 3) := by decide +kernel
theorem dX4_rows_4 : decode cX4_rows 4 = .ok (.ireturn, 1) := by decide +kernel
theorem dX4_columns_0 : decode cX4_columns 0 = .ok (.aload_n 0, 1) := by decide +kernel
theorem dX4_columns_1 : decode cX4_columns 1 = .ok (.getfield 34, 3) := by decide +kernel
theorem dX4_columns_4 : decode cX4_columns 4 = .ok (.ireturn, 1) := by decide +kernel
theorem dX4_firstColumn_0 : decode cX4_firstColumn 0 = .ok (.aload_n 0, 1) := by decide +kernel
theorem dX4_firstColumn_1 : decode cX4_firstColumn 1 = .ok (.getfield 37, 3) := by decide +kernel
theorem dX4_firstColumn_4 : decode cX4_firstColumn 4 = .ok (.ireturn, 1) := by decide +kernel
theorem dX4_lastColumn_0 : decode cX4_lastColumn 0 = .ok (.aload_n 0, 1) := by decide +kernel
theorem dX4_lastColumn_1 : decode cX4_lastColumn 1 = .ok (.getfield 40, 3) := by decide +kernel
theorem dX4_lastColumn_4 : decode cX4_lastColumn 4 = .ok (.ireturn, 1) := by decide +kernel
theorem dX4_houses_0 : decode cX4_houses 0 = .ok (.aload_n 0, 1) := by decide +kernel
theorem dX4_houses_1 : decode cX4_houses 1 = .ok (.getfield 30, 3) := by decide +kernel
theorem dX4_houses_4 : decode cX4_houses 4 = .ok (.aload_n 0, 1) := by decide +kernel
theorem dX4_houses_5 : decode cX4_houses 5 = .ok (.getfield 34, 3) := by decide +kernel
theorem dX4_houses_8 : decode cX4_houses 8 = .ok (.imul, 1) := by decide +kernel
theorem dX4_houses_9 : decode cX4_houses 9 = .ok (.ireturn, 1) := by decide +kernel
theorem dX4_allHouses_0 : decode cX4_allHouses 0 = .ok (.iconst 1, 1) := by decide +kernel
theorem dX4_allHouses_1 : decode cX4_allHouses 1 = .ok (.aload_n 0, 1) := by decide +kernel
theorem dX4_allHouses_2 : decode cX4_allHouses 2 = .ok (.invokevirtual 93, 3) := by decide +kernel
theorem dX4_allHouses_5 : decode cX4_allHouses 5 = .ok (.ishl, 1) := by decide +kernel
theorem dX4_allHouses_6 : decode cX4_allHouses 6 = .ok (.iconst 1, 1) := by decide +kernel
theorem dX4_allHouses_7 : decode cX4_allHouses 7 = .ok (.isub, 1) := by decide +kernel
theorem dX4_allHouses_8 : decode cX4_allHouses 8 = .ok (.ireturn, 1) := by decide +kernel
theorem dX4_hasHouse_0 : decode cX4_hasHouse 0 = .ok (.iload_n 1, 1) := by decide +kernel
theorem dX4_hasHouse_1 : decode cX4_hasHouse 1 = .ok (.ifCond .lt 15, 3) := by decide +kernel
theorem dX4_hasHouse_4 : decode cX4_hasHouse 4 = .ok (.iload_n 1, 1) := by decide +kernel
theorem dX4_hasHouse_5 : decode cX4_hasHouse 5 = .ok (.aload_n 0, 1) := by decide +kernel
theorem dX4_hasHouse_6 : decode cX4_hasHouse 6 = .ok (.invokevirtual 93, 3) := by decide +kernel
theorem dX4_hasHouse_9 : decode cX4_hasHouse 9 = .ok (.if_icmp .ge 7, 3) := by decide +kernel
theorem dX4_hasHouse_12 : decode cX4_hasHouse 12 = .ok (.iconst 1, 1) := by decide +kernel
theorem dX4_hasHouse_13 : decode cX4_hasHouse 13 = .ok (.goto 4, 3) := by decide +kernel
theorem dX4_hasHouse_16 : decode cX4_hasHouse 16 = .ok (.iconst 0, 1) := by decide +kernel
theorem dX4_hasHouse_17 : decode cX4_hasHouse 17 = .ok (.ireturn, 1) := by decide +kernel
theorem dX4_hasHouses_0 : decode cX4_hasHouses 0 = .ok (.iload_n 1, 1) := by decide +kernel
theorem dX4_hasHouses_1 : decode cX4_hasHouses 1 = .ok (.iconst 0, 1) := by decide +kernel
theorem dX4_hasHouses_2 : decode cX4_hasHouses 2 = .ok (.aload_n 0, 1) := by decide +kernel
theorem dX4_hasHouses_3 : decode cX4_hasHouses 3 = .ok (.invokevirtual 97, 3) := by decide +kernel
theorem dX4_hasHouses_6 : decode cX4_hasHouses 6 = .ok (.invokestatic 76, 3) := by decide +kernel
theorem dX4_hasHouses_9 : decode cX4_hasHouses 9 = .ok (.ireturn, 1) := by decide +kernel
theorem dX4_kindOf_0 : decode cX4_kindOf 0 = .ok (.aload_n 0, 1) := by decide +kernel
theorem dX4_kindOf_1 : decode cX4_kindOf 1 = .ok (.getfield 9, 3) := by decide +kernel
theorem dX4_kindOf_4 : decode cX4_kindOf 4 = .ok (.iload_n 1, 1) := by decide +kernel
theorem dX4_kindOf_5 : decode cX4_kindOf 5 = .ok (.invokestatic 61, 3) := by decide +kernel
theorem dX4_kindOf_8 : decode cX4_kindOf 8 = .ok (.ireturn, 1) := by decide +kernel
theorem dX4_sashOf_0 : decode cX4_sashOf 0 = .ok (.aload_n 0, 1) := by decide +kernel
theorem dX4_sashOf_1 : decode cX4_sashOf 1 = .ok (.getfield 15, 3) := by decide +kernel
theorem dX4_sashOf_4 : decode cX4_sashOf 4 = .ok (.iload_n 1, 1) := by decide +kernel
theorem dX4_sashOf_5 : decode cX4_sashOf 5 = .ok (.invokestatic 61, 3) := by decide +kernel
theorem dX4_sashOf_8 : decode cX4_sashOf 8 = .ok (.ireturn, 1) := by decide +kernel
theorem dX4_newsTold_0 : decode cX4_newsTold 0 = .ok (.aload_n 0, 1) := by decide +kernel
theorem dX4_newsTold_1 : decode cX4_newsTold 1 = .ok (.getfield 43, 3) := by decide +kernel
theorem dX4_newsTold_4 : decode cX4_newsTold 4 = .ok (.ireturn, 1) := by decide +kernel
theorem dX4_hasNews_0 : decode cX4_hasNews 0 = .ok (.iload_n 1, 1) := by decide +kernel
theorem dX4_hasNews_1 : decode cX4_hasNews 1 = .ok (.ifCond .lt 15, 3) := by decide +kernel
theorem dX4_hasNews_4 : decode cX4_hasNews 4 = .ok (.iload_n 1, 1) := by decide +kernel
theorem dX4_hasNews_5 : decode cX4_hasNews 5 = .ok (.aload_n 0, 1) := by decide +kernel
theorem dX4_hasNews_6 : decode cX4_hasNews 6 = .ok (.getfield 43, 3) := by decide +kernel
theorem dX4_hasNews_9 : decode cX4_hasNews 9 = .ok (.if_icmp .ge 7, 3) := by decide +kernel
theorem dX4_hasNews_12 : decode cX4_hasNews 12 = .ok (.iconst 1, 1) := by decide +kernel
theorem dX4_hasNews_13 : decode cX4_hasNews 13 = .ok (.goto 4, 3) := by decide +kernel
theorem dX4_hasNews_16 : decode cX4_hasNews 16 = .ok (.iconst 0, 1) := by decide +kernel
theorem dX4_hasNews_17 : decode cX4_hasNews 17 = .ok (.ireturn, 1) := by decide +kernel
theorem dX4_newsKindOf_0 : decode cX4_newsKindOf 0 = .ok (.aload_n 0, 1) := by decide +kernel
theorem dX4_newsKindOf_1 : decode cX4_newsKindOf 1 = .ok (.getfield 18, 3) := by decide +kernel
theorem dX4_newsKindOf_4 : decode cX4_newsKindOf 4 = .ok (.iload_n 1, 1) := by decide +kernel
theorem dX4_newsKindOf_5 : decode cX4_newsKindOf 5 = .ok (.invokestatic 61, 3) := by decide +kernel
theorem dX4_newsKindOf_8 : decode cX4_newsKindOf 8 = .ok (.ireturn, 1) := by decide +kernel
theorem dX4_weightOf_0 : decode cX4_weightOf 0 = .ok (.aload_n 0, 1) := by decide +kernel
theorem dX4_weightOf_1 : decode cX4_weightOf 1 = .ok (.getfield 21, 3) := by decide +kernel
theorem dX4_weightOf_4 : decode cX4_weightOf 4 = .ok (.iload_n 1, 1) := by decide +kernel
theorem dX4_weightOf_5 : decode cX4_weightOf 5 = .ok (.invokestatic 61, 3) := by decide +kernel
theorem dX4_weightOf_8 : decode cX4_weightOf 8 = .ok (.ireturn, 1) := by decide +kernel
theorem dX4_beginningOf_0 : decode cX4_beginningOf 0 = .ok (.aload_n 0, 1) := by decide +kernel
theorem dX4_beginningOf_1 : decode cX4_beginningOf 1 = .ok (.getfield 24, 3) := by decide +kernel
theorem dX4_beginningOf_4 : decode cX4_beginningOf 4 = .ok (.iload_n 1, 1) := by decide +kernel
theorem dX4_beginningOf_5 : decode cX4_beginningOf 5 = .ok (.invokestatic 61, 3) := by decide +kernel
theorem dX4_beginningOf_8 : decode cX4_beginningOf 8 = .ok (.ireturn, 1) := by decide +kernel
theorem dX4_windsInTurn_0 : decode cX4_windsInTurn 0 = .ok (.aload_n 0, 1) := by decide +kernel
theorem dX4_windsInTurn_1 : decode cX4_windsInTurn 1 = .ok (.getfield 46, 3) := by decide +kernel
theorem dX4_windsInTurn_4 : decode cX4_windsInTurn 4 = .ok (.ifCond .ne 7, 3) := by decide +kernel
theorem dX4_windsInTurn_7 : decode cX4_windsInTurn 7 = .ok (.iconst 1, 1) := by decide +kernel
theorem dX4_windsInTurn_8 : decode cX4_windsInTurn 8 = .ok (.goto 7, 3) := by decide +kernel
theorem dX4_windsInTurn_11 : decode cX4_windsInTurn 11 = .ok (.aload_n 0, 1) := by decide +kernel
theorem dX4_windsInTurn_12 : decode cX4_windsInTurn 12 = .ok (.getfield 46, 3) := by decide +kernel
theorem dX4_windsInTurn_15 : decode cX4_windsInTurn 15 = .ok (.ireturn, 1) := by decide +kernel
theorem dX4_windOf_0 : decode cX4_windOf 0 = .ok (.aload_n 0, 1) := by decide +kernel
theorem dX4_windOf_1 : decode cX4_windOf 1 = .ok (.invokevirtual 100, 3) := by decide +kernel
theorem dX4_windOf_4 : decode cX4_windOf 4 = .ok (.istore_n 2, 1) := by decide +kernel
theorem dX4_windOf_5 : decode cX4_windOf 5 = .ok (.iload_n 2, 1) := by decide +kernel
theorem dX4_windOf_6 : decode cX4_windOf 6 = .ok (.ifCond .le 18, 3) := by decide +kernel
theorem dX4_windOf_9 : decode cX4_windOf 9 = .ok (.aload_n 0, 1) := by decide +kernel
theorem dX4_windOf_10 : decode cX4_windOf 10 = .ok (.getfield 27, 3) := by decide +kernel
theorem dX4_windOf_13 : decode cX4_windOf 13 = .ok (.iload_n 1, 1) := by decide +kernel
theorem dX4_windOf_14 : decode cX4_windOf 14 = .ok (.iload_n 2, 1) := by decide +kernel
theorem dX4_windOf_15 : decode cX4_windOf 15 = .ok (.invokestatic 103, 3) := by decide +kernel
theorem dX4_windOf_18 : decode cX4_windOf 18 = .ok (.invokestatic 61, 3) := by decide +kernel
theorem dX4_windOf_21 : decode cX4_windOf 21 = .ok (.goto 4, 3) := by decide +kernel
theorem dX4_windOf_24 : decode cX4_windOf 24 = .ok (.iconst 0, 1) := by decide +kernel
theorem dX4_windOf_25 : decode cX4_windOf 25 = .ok (.ireturn, 1) := by decide +kernel
theorem dX5_init_0 : decode cX5_init 0 = .ok (.aload_n 0, 1) := by decide +kernel
theorem dX5_init_1 : decode cX5_init 1 = .ok (.invokespecial 1, 3) := by decide +kernel
theorem dX5_init_4 : decode cX5_init 4 = .ok (.aload_n 0, 1) := by decide +kernel
theorem dX5_init_5 : decode cX5_init 5 = .ok (.iconst 0, 1) := by decide +kernel
theorem dX5_init_6 : decode cX5_init 6 = .ok (.putfield 7, 3) := by decide +kernel
theorem dX5_init_9 : decode cX5_init 9 = .ok (.aload_n 0, 1) := by decide +kernel
theorem dX5_init_10 : decode cX5_init 10 = .ok (.iconst 0, 1) := by decide +kernel
theorem dX5_init_11 : decode cX5_init 11 = .ok (.putfield 13, 3) := by decide +kernel
theorem dX5_init_14 : decode cX5_init 14 = .ok (.aload_n 0, 1) := by decide +kernel
theorem dX5_init_15 : decode cX5_init 15 = .ok (.iload_n 1, 1) := by decide +kernel
theorem dX5_init_16 : decode cX5_init 16 = .ok (.iconst 1, 1) := by decide +kernel
theorem dX5_init_17 : decode cX5_init 17 = .ok (.if_icmp .ge 7, 3) := by decide +kernel
theorem dX5_init_20 : decode cX5_init 20 = .ok (.iconst 1, 1) := by decide +kernel
theorem dX5_init_21 : decode cX5_init 21 = .ok (.goto 4, 3) := by decide +kernel
theorem dX5_init_24 : decode cX5_init 24 = .ok (.iload_n 1, 1) := by decide +kernel
theorem dX5_init_25 : decode cX5_init 25 = .ok (.anewarray 16, 3) := by decide +kernel
theorem dX5_init_28 : decode cX5_init 28 = .ok (.putfield 18, 3) := by decide +kernel
theorem dX5_init_31 : decode cX5_init 31 = .ok (.iconst 0, 1) := by decide +kernel
theorem dX5_init_32 : decode cX5_init 32 = .ok (.istore_n 2, 1) := by decide +kernel
theorem dX5_init_33 : decode cX5_init 33 = .ok (.iload_n 2, 1) := by decide +kernel
theorem dX5_init_34 : decode cX5_init 34 = .ok (.aload_n 0, 1) := by decide +kernel
theorem dX5_init_35 : decode cX5_init 35 = .ok (.getfield 18, 3) := by decide +kernel
theorem dX5_init_38 : decode cX5_init 38 = .ok (.arraylength, 1) := by decide +kernel
theorem dX5_init_39 : decode cX5_init 39 = .ok (.if_icmp .ge 22, 3) := by decide +kernel
theorem dX5_init_42 : decode cX5_init 42 = .ok (.aload_n 0, 1) := by decide +kernel
theorem dX5_init_43 : decode cX5_init 43 = .ok (.getfield 18, 3) := by decide +kernel
theorem dX5_init_46 : decode cX5_init 46 = .ok (.iload_n 2, 1) := by decide +kernel
theorem dX5_init_47 : decode cX5_init 47 = .ok (.new 16, 3) := by decide +kernel
theorem dX5_init_50 : decode cX5_init 50 = .ok (.dup, 1) := by decide +kernel
theorem dX5_init_51 : decode cX5_init 51 = .ok (.invokespecial 22, 3) := by decide +kernel
theorem dX5_init_54 : decode cX5_init 54 = .ok (.aastore, 1) := by decide +kernel
theorem dX5_init_55 : decode cX5_init 55 = .ok (.iinc 2 1, 3) := by decide +kernel
theorem dX5_init_58 : decode cX5_init 58 = .ok (.goto (-25), 3) := by decide +kernel
theorem dX5_init_61 : decode cX5_init 61 = .ok (.return_, 1) := by decide +kernel
theorem dX5_push_0 : decode cX5_push 0 = .ok (.aload_n 0, 1) := by decide +kernel
theorem dX5_push_1 : decode cX5_push 1 = .ok (.aload_n 0, 1) := by decide +kernel
theorem dX5_push_2 : decode cX5_push 2 = .ok (.getfield 13, 3) := by decide +kernel
theorem dX5_push_5 : decode cX5_push 5 = .ok (.invokevirtual 23, 3) := by decide +kernel
theorem dX5_push_8 : decode cX5_push 8 = .ok (.astore_n 2, 1) := by decide +kernel
theorem dX5_push_9 : decode cX5_push 9 = .ok (.aload_n 2, 1) := by decide +kernel
theorem dX5_push_10 : decode cX5_push 10 = .ok (.ifnonnull 4, 3) := by decide +kernel
theorem dX5_push_13 : decode cX5_push 13 = .ok (.return_, 1) := by decide +kernel
theorem dX5_push_14 : decode cX5_push 14 = .ok (.aload_n 2, 1) := by decide +kernel
theorem dX5_push_15 : decode cX5_push 15 = .ok (.aload_n 1, 1) := by decide +kernel
theorem dX5_push_16 : decode cX5_push 16 = .ok (.invokevirtual 27, 3) := by decide +kernel
theorem dX5_push_19 : decode cX5_push 19 = .ok (.aload_n 0, 1) := by decide +kernel
theorem dX5_push_20 : decode cX5_push 20 = .ok (.invokevirtual 31, 3) := by decide +kernel
theorem dX5_push_23 : decode cX5_push 23 = .ok (.ifCond .eq 16, 3) := by decide +kernel
theorem dX5_push_26 : decode cX5_push 26 = .ok (.aload_n 0, 1) := by decide +kernel
theorem dX5_push_27 : decode cX5_push 27 = .ok (.dup, 1) := by decide +kernel
theorem dX5_push_28 : decode cX5_push 28 = .ok (.getfield 7, 3) := by decide +kernel
theorem dX5_push_31 : decode cX5_push 31 = .ok (.iconst 1, 1) := by decide +kernel
theorem dX5_push_32 : decode cX5_push 32 = .ok (.iadd, 1) := by decide +kernel
theorem dX5_push_33 : decode cX5_push 33 = .ok (.putfield 7, 3) := by decide +kernel
theorem dX5_push_36 : decode cX5_push 36 = .ok (.goto 13, 3) := by decide +kernel
theorem dX5_push_39 : decode cX5_push 39 = .ok (.aload_n 0, 1) := by decide +kernel
theorem dX5_push_40 : decode cX5_push 40 = .ok (.dup, 1) := by decide +kernel
theorem dX5_push_41 : decode cX5_push 41 = .ok (.getfield 13, 3) := by decide +kernel
theorem dX5_push_44 : decode cX5_push 44 = .ok (.iconst 1, 1) := by decide +kernel
theorem dX5_push_45 : decode cX5_push 45 = .ok (.iadd, 1) := by decide +kernel
theorem dX5_push_46 : decode cX5_push 46 = .ok (.putfield 13, 3) := by decide +kernel
theorem dX5_push_49 : decode cX5_push 49 = .ok (.return_, 1) := by decide +kernel
theorem dX5_popInto_0 : decode cX5_popInto 0 = .ok (.aload_n 0, 1) := by decide +kernel
theorem dX5_popInto_1 : decode cX5_popInto 1 = .ok (.getfield 13, 3) := by decide +kernel
theorem dX5_popInto_4 : decode cX5_popInto 4 = .ok (.ifCond .ne 5, 3) := by decide +kernel
theorem dX5_popInto_7 : decode cX5_popInto 7 = .ok (.iconst 0, 1) := by decide +kernel
theorem dX5_popInto_8 : decode cX5_popInto 8 = .ok (.ireturn, 1) := by decide +kernel
theorem dX5_popInto_9 : decode cX5_popInto 9 = .ok (.aload_n 0, 1) := by decide +kernel
theorem dX5_popInto_10 : decode cX5_popInto 10 = .ok (.aload_n 0, 1) := by decide +kernel
theorem dX5_popInto_11 : decode cX5_popInto 11 = .ok (.getfield 13, 3) := by decide +kernel
theorem dX5_popInto_14 : decode cX5_popInto 14 = .ok (.iconst 1, 1) := by decide +kernel
theorem dX5_popInto_15 : decode cX5_popInto 15 = .ok (.isub, 1) := by decide +kernel
theorem dX5_popInto_16 : decode cX5_popInto 16 = .ok (.invokevirtual 23, 3) := by decide +kernel
theorem dX5_popInto_19 : decode cX5_popInto 19 = .ok (.astore_n 2, 1) := by decide +kernel
theorem dX5_popInto_20 : decode cX5_popInto 20 = .ok (.aload_n 2, 1) := by decide +kernel
theorem dX5_popInto_21 : decode cX5_popInto 21 = .ok (.ifnonnull 5, 3) := by decide +kernel
theorem dX5_popInto_24 : decode cX5_popInto 24 = .ok (.iconst 0, 1) := by decide +kernel
theorem dX5_popInto_25 : decode cX5_popInto 25 = .ok (.ireturn, 1) := by decide +kernel
theorem dX5_popInto_26 : decode cX5_popInto 26 = .ok (.aload_n 1, 1) := by decide +kernel
theorem dX5_popInto_27 : decode cX5_popInto 27 = .ok (.aload_n 2, 1) := by decide +kernel
theorem dX5_popInto_28 : decode cX5_popInto 28 = .ok (.invokevirtual 27, 3) := by decide +kernel
theorem dX5_popInto_31 : decode cX5_popInto 31 = .ok (.aload_n 0, 1) := by decide +kernel
theorem dX5_popInto_32 : decode cX5_popInto 32 = .ok (.dup, 1) := by decide +kernel
theorem dX5_popInto_33 : decode cX5_popInto 33 = .ok (.getfield 13, 3) := by decide +kernel
theorem dX5_popInto_36 : decode cX5_popInto 36 = .ok (.iconst 1, 1) := by decide +kernel
theorem dX5_popInto_37 : decode cX5_popInto 37 = .ok (.isub, 1) := by decide +kernel
theorem dX5_popInto_38 : decode cX5_popInto 38 = .ok (.putfield 13, 3) := by decide +kernel
theorem dX5_popInto_41 : decode cX5_popInto 41 = .ok (.iconst 1, 1) := by decide +kernel
theorem dX5_popInto_42 : decode cX5_popInto 42 = .ok (.ireturn, 1) := by decide +kernel
theorem dX5_clear_0 : decode cX5_clear 0 = .ok (.aload_n 0, 1) := by decide +kernel
theorem dX5_clear_1 : decode cX5_clear 1 = .ok (.iconst 0, 1) := by decide +kernel
theorem dX5_clear_2 : decode cX5_clear 2 = .ok (.putfield 13, 3) := by decide +kernel
theorem dX5_clear_5 : decode cX5_clear 5 = .ok (.return_, 1) := by decide +kernel
theorem dX5_size_0 : decode cX5_size 0 = .ok (.aload_n 0, 1) := by decide +kernel
theorem dX5_size_1 : decode cX5_size 1 = .ok (.getfield 13, 3) := by decide +kernel
theorem dX5_size_4 : decode cX5_size 4 = .ok (.ireturn, 1) := by decide +kernel
theorem dX5_isFull_0 : decode cX5_isFull 0 = .ok (.aload_n 0, 1) := by decide +kernel
theorem dX5_isFull_1 : decode cX5_isFull 1 = .ok (.getfield 13, 3) := by decide +kernel
theorem dX5_isFull_4 : decode cX5_isFull 4 = .ok (.aload_n 0, 1) := by decide +kernel
theorem dX5_isFull_5 : decode cX5_isFull 5 = .ok (.getfield 18, 3) := by decide +kernel
theorem dX5_isFull_8 : decode cX5_isFull 8 = .ok (.arraylength, 1) := by decide +kernel
theorem dX5_isFull_9 : decode cX5_isFull 9 = .ok (.if_icmp .ne 7, 3) := by decide +kernel
theorem dX5_isFull_12 : decode cX5_isFull 12 = .ok (.iconst 1, 1) := by decide +kernel
theorem dX5_isFull_13 : decode cX5_isFull 13 = .ok (.goto 4, 3) := by decide +kernel
theorem dX5_isFull_16 : decode cX5_isFull 16 = .ok (.iconst 0, 1) := by decide +kernel
theorem dX5_isFull_17 : decode cX5_isFull 17 = .ok (.ireturn, 1) := by decide +kernel
theorem dX5_placeOf_0 : decode cX5_placeOf 0 = .ok (.aload_n 0, 1) := by decide +kernel
theorem dX5_placeOf_1 : decode cX5_placeOf 1 = .ok (.getfield 18, 3) := by decide +kernel
theorem dX5_placeOf_4 : decode cX5_placeOf 4 = .ok (.arraylength, 1) := by decide +kernel
theorem dX5_placeOf_5 : decode cX5_placeOf 5 = .ok (.ifCond .ne 5, 3) := by decide +kernel
theorem dX5_placeOf_8 : decode cX5_placeOf 8 = .ok (.aconst_null, 1) := by decide +kernel
theorem dX5_placeOf_9 : decode cX5_placeOf 9 = .ok (.areturn, 1) := by decide +kernel
theorem dX5_placeOf_10 : decode cX5_placeOf 10 = .ok (.aload_n 0, 1) := by decide +kernel
theorem dX5_placeOf_11 : decode cX5_placeOf 11 = .ok (.getfield 7, 3) := by decide +kernel
theorem dX5_placeOf_14 : decode cX5_placeOf 14 = .ok (.iload_n 1, 1) := by decide +kernel
theorem dX5_placeOf_15 : decode cX5_placeOf 15 = .ok (.iadd, 1) := by decide +kernel
theorem dX5_placeOf_16 : decode cX5_placeOf 16 = .ok (.aload_n 0, 1) := by decide +kernel
theorem dX5_placeOf_17 : decode cX5_placeOf 17 = .ok (.getfield 18, 3) := by decide +kernel
theorem dX5_placeOf_20 : decode cX5_placeOf 20 = .ok (.arraylength, 1) := by decide +kernel
theorem dX5_placeOf_21 : decode cX5_placeOf 21 = .ok (.invokestatic 35, 3) := by decide +kernel
theorem dX5_placeOf_24 : decode cX5_placeOf 24 = .ok (.istore_n 2, 1) := by decide +kernel
theorem dX5_placeOf_25 : decode cX5_placeOf 25 = .ok (.iload_n 2, 1) := by decide +kernel
theorem dX5_placeOf_26 : decode cX5_placeOf 26 = .ok (.ifCond .lt 21, 3) := by decide +kernel
theorem dX5_placeOf_29 : decode cX5_placeOf 29 = .ok (.iload_n 2, 1) := by decide +kernel
theorem dX5_placeOf_30 : decode cX5_placeOf 30 = .ok (.aload_n 0, 1) := by decide +kernel
theorem dX5_placeOf_31 : decode cX5_placeOf 31 = .ok (.getfield 18, 3) := by decide +kernel
theorem dX5_placeOf_34 : decode cX5_placeOf 34 = .ok (.arraylength, 1) := by decide +kernel
theorem dX5_placeOf_35 : decode cX5_placeOf 35 = .ok (.if_icmp .ge 12, 3) := by decide +kernel
theorem dX5_placeOf_38 : decode cX5_placeOf 38 = .ok (.aload_n 0, 1) := by decide +kernel
theorem dX5_placeOf_39 : decode cX5_placeOf 39 = .ok (.getfield 18, 3) := by decide +kernel
theorem dX5_placeOf_42 : decode cX5_placeOf 42 = .ok (.iload_n 2, 1) := by decide +kernel
theorem dX5_placeOf_43 : decode cX5_placeOf 43 = .ok (.aaload, 1) := by decide +kernel
theorem dX5_placeOf_44 : decode cX5_placeOf 44 = .ok (.goto 4, 3) := by decide +kernel
theorem dX5_placeOf_47 : decode cX5_placeOf 47 = .ok (.aconst_null, 1) := by decide +kernel
theorem dX5_placeOf_48 : decode cX5_placeOf 48 = .ok (.areturn, 1) := by decide +kernel
theorem dX6_init_0 : decode cX6_init 0 = .ok (.aload_n 0, 1) := by decide +kernel
theorem dX6_init_1 : decode cX6_init 1 = .ok (.invokespecial 3, 3) := by decide +kernel
theorem dX6_init_4 : decode cX6_init 4 = .ok (.aload_n 0, 1) := by decide +kernel
theorem dX6_init_5 : decode cX6_init 5 = .ok (.iconst 3, 1) := by decide +kernel
theorem dX6_init_6 : decode cX6_init 6 = .ok (.newarray .int, 2) := by decide +kernel
theorem dX6_init_8 : decode cX6_init 8 = .ok (.putfield 9, 3) := by decide +kernel
theorem dX6_init_11 : decode cX6_init 11 = .ok (.aload_n 0, 1) := by decide +kernel
theorem dX6_init_12 : decode cX6_init 12 = .ok (.iconst 0, 1) := by decide +kernel
theorem dX6_init_13 : decode cX6_init 13 = .ok (.putfield 15, 3) := by decide +kernel
theorem dX6_init_16 : decode cX6_init 16 = .ok (.aload_n 0, 1) := by decide +kernel
theorem dX6_init_17 : decode cX6_init 17 = .ok (.aload_n 1, 1) := by decide +kernel
theorem dX6_init_18 : decode cX6_init 18 = .ok (.putfield 19, 3) := by decide +kernel
theorem dX6_init_21 : decode cX6_init 21 = .ok (.return_, 1) := by decide +kernel
theorem dX6_readInto_0 : decode cX6_readInto 0 = .ok (.aload_n 1, 1) := by decide +kernel
theorem dX6_readInto_1 : decode cX6_readInto 1 = .ok (.invokevirtual 23, 3) := by decide +kernel
theorem dX6_readInto_4 : decode cX6_readInto 4 = .ok (.aload_n 0, 1) := by decide +kernel
theorem dX6_readInto_5 : decode cX6_readInto 5 = .ok (.iconst 0, 1) := by decide +kernel
theorem dX6_readInto_6 : decode cX6_readInto 6 = .ok (.putfield 15, 3) := by decide +kernel
theorem dX6_readInto_9 : decode cX6_readInto 9 = .ok (.iconst 0, 1) := by decide +kernel
theorem dX6_readInto_10 : decode cX6_readInto 10 = .ok (.istore_n 2, 1) := by decide +kernel
theorem dX6_readInto_11 : decode cX6_readInto 11 = .ok (.iload_n 2, 1) := by decide +kernel
theorem dX6_readInto_12 : decode cX6_readInto 12 = .ok (.sipush 200, 3) := by decide +kernel
theorem dX6_readInto_15 : decode cX6_readInto 15 = .ok (.if_icmp .ge 72, 3) := by decide +kernel
theorem dX6_readInto_18 : decode cX6_readInto 18 = .ok (.aload_n 0, 1) := by decide +kernel
theorem dX6_readInto_19 : decode cX6_readInto 19 = .ok (.getfield 15, 3) := by decide +kernel
theorem dX6_readInto_22 : decode cX6_readInto 22 = .ok (.aload_n 0, 1) := by decide +kernel
theorem dX6_readInto_23 : decode cX6_readInto 23 = .ok (.getfield 19, 3) := by decide +kernel
theorem dX6_readInto_26 : decode cX6_readInto 26 = .ok (.invokevirtual 28, 3) := by decide +kernel
theorem dX6_readInto_29 : decode cX6_readInto 29 = .ok (.if_icmp .ge 58, 3) := by decide +kernel
theorem dX6_readInto_32 : decode cX6_readInto 32 = .ok (.aload_n 0, 1) := by decide +kernel
theorem dX6_readInto_33 : decode cX6_readInto 33 = .ok (.getfield 15, 3) := by decide +kernel
theorem dX6_readInto_36 : decode cX6_readInto 36 = .ok (.istore_n 3, 1) := by decide +kernel
theorem dX6_readInto_37 : decode cX6_readInto 37 = .ok (.aload_n 0, 1) := by decide +kernel
theorem dX6_readInto_38 : decode cX6_readInto 38 = .ok (.dup, 1) := by decide +kernel
theorem dX6_readInto_39 : decode cX6_readInto 39 = .ok (.getfield 15, 3) := by decide +kernel
theorem dX6_readInto_42 : decode cX6_readInto 42 = .ok (.iconst 1, 1) := by decide +kernel
theorem dX6_readInto_43 : decode cX6_readInto 43 = .ok (.iadd, 1) := by decide +kernel
theorem dX6_readInto_44 : decode cX6_readInto 44 = .ok (.putfield 15, 3) := by decide +kernel
theorem dX6_readInto_47 : decode cX6_readInto 47 = .ok (.aload_n 0, 1) := by decide +kernel
theorem dX6_readInto_48 : decode cX6_readInto 48 = .ok (.invokevirtual 34, 3) := by decide +kernel
theorem dX6_readInto_51 : decode cX6_readInto 51 = .ok (.istore 4, 2) := by decide +kernel
theorem dX6_readInto_53 : decode cX6_readInto 53 = .ok (.iload 4, 2) := by decide +kernel
theorem dX6_readInto_55 : decode cX6_readInto 55 = .ok (.ifCond .eq 24, 3) := by decide +kernel
theorem dX6_readInto_58 : decode cX6_readInto 58 = .ok (.aload_n 1, 1) := by decide +kernel
theorem dX6_readInto_59 : decode cX6_readInto 59 = .ok (.aload_n 0, 1) := by decide +kernel
theorem dX6_readInto_60 : decode cX6_readInto 60 = .ok (.getfield 19, 3) := by decide +kernel
theorem dX6_readInto_63 : decode cX6_readInto 63 = .ok (.iload_n 3, 1) := by decide +kernel
theorem dX6_readInto_64 : decode cX6_readInto 64 = .ok (.invokevirtual 37, 3) := by decide +kernel
theorem dX6_readInto_67 : decode cX6_readInto 67 = .ok (.iload 4, 2) := by decide +kernel
theorem dX6_readInto_69 : decode cX6_readInto 69 = .ok (.aload_n 0, 1) := by decide +kernel
theorem dX6_readInto_70 : decode cX6_readInto 70 = .ok (.getfield 9, 3) := by decide +kernel
theorem dX6_readInto_73 : decode cX6_readInto 73 = .ok (.invokevirtual 41, 3) := by decide +kernel
theorem dX6_readInto_76 : decode cX6_readInto 76 = .ok (.ifCond .ne 5, 3) := by decide +kernel
theorem dX6_readInto_79 : decode cX6_readInto 79 = .ok (.iload_n 3, 1) := by decide +kernel
theorem dX6_readInto_80 : decode cX6_readInto 80 = .ok (.ireturn, 1) := by decide +kernel
theorem dX6_readInto_81 : decode cX6_readInto 81 = .ok (.iinc 2 1, 3) := by decide +kernel
theorem dX6_readInto_84 : decode cX6_readInto 84 = .ok (.goto (-73), 3) := by decide +kernel
theorem dX6_readInto_87 : decode cX6_readInto 87 = .ok (.bipush (-4), 2) := by decide +kernel
theorem dX6_readInto_89 : decode cX6_readInto 89 = .ok (.ireturn, 1) := by decide +kernel
theorem dX6_readNumbers_0 : decode cX6_readNumbers 0 = .ok (.iconst 0, 1) := by decide +kernel
theorem dX6_readNumbers_1 : decode cX6_readNumbers 1 = .ok (.istore_n 1, 1) := by decide +kernel
theorem dX6_readNumbers_2 : decode cX6_readNumbers 2 = .ok (.iload_n 1, 1) := by decide +kernel
theorem dX6_readNumbers_3 : decode cX6_readNumbers 3 = .ok (.iconst 3, 1) := by decide +kernel
theorem dX6_readNumbers_4 : decode cX6_readNumbers 4 = .ok (.if_icmp .ge 69, 3) := by decide +kernel
theorem dX6_readNumbers_7 : decode cX6_readNumbers 7 = .ok (.aload_n 0, 1) := by decide +kernel
theorem dX6_readNumbers_8 : decode cX6_readNumbers 8 = .ok (.invokevirtual 45, 3) := by decide +kernel
theorem dX6_readNumbers_11 : decode cX6_readNumbers 11 = .ok (.istore_n 2, 1) := by decide +kernel
theorem dX6_readNumbers_12 : decode cX6_readNumbers 12 = .ok (.iload_n 2, 1) := by decide +kernel
theorem dX6_readNumbers_13 : decode cX6_readNumbers 13 = .ok (.ifCond .ge 5, 3) := by decide +kernel
theorem dX6_readNumbers_16 : decode cX6_readNumbers 16 = .ok (.iconst 0, 1) := by decide +kernel
theorem dX6_readNumbers_17 : decode cX6_readNumbers 17 = .ok (.ireturn, 1) := by decide +kernel
theorem dX6_readNumbers_18 : decode cX6_readNumbers 18 = .ok (.aload_n 0, 1) := by decide +kernel
theorem dX6_readNumbers_19 : decode cX6_readNumbers 19 = .ok (.getfield 9, 3) := by decide +kernel
theorem dX6_readNumbers_22 : decode cX6_readNumbers 22 = .ok (.iload_n 1, 1) := by decide +kernel
theorem dX6_readNumbers_23 : decode cX6_readNumbers 23 = .ok (.iload_n 2, 1) := by decide +kernel
theorem dX6_readNumbers_24 : decode cX6_readNumbers 24 = .ok (.invokestatic 48, 3) := by decide +kernel
theorem dX6_readNumbers_27 : decode cX6_readNumbers 27 = .ok (.aload_n 0, 1) := by decide +kernel
theorem dX6_readNumbers_28 : decode cX6_readNumbers 28 = .ok (.getfield 19, 3) := by decide +kernel
theorem dX6_readNumbers_31 : decode cX6_readNumbers 31 = .ok (.aload_n 0, 1) := by decide +kernel
theorem dX6_readNumbers_32 : decode cX6_readNumbers 32 = .ok (.getfield 15, 3) := by decide +kernel
theorem dX6_readNumbers_35 : decode cX6_readNumbers 35 = .ok (.invokevirtual 37, 3) := by decide +kernel
theorem dX6_readNumbers_38 : decode cX6_readNumbers 38 = .ok (.istore_n 3, 1) := by decide +kernel
theorem dX6_readNumbers_39 : decode cX6_readNumbers 39 = .ok (.aload_n 0, 1) := by decide +kernel
theorem dX6_readNumbers_40 : decode cX6_readNumbers 40 = .ok (.dup, 1) := by decide +kernel
theorem dX6_readNumbers_41 : decode cX6_readNumbers 41 = .ok (.getfield 15, 3) := by decide +kernel
theorem dX6_readNumbers_44 : decode cX6_readNumbers 44 = .ok (.iconst 1, 1) := by decide +kernel
theorem dX6_readNumbers_45 : decode cX6_readNumbers 45 = .ok (.iadd, 1) := by decide +kernel
theorem dX6_readNumbers_46 : decode cX6_readNumbers 46 = .ok (.putfield 15, 3) := by decide +kernel
theorem dX6_readNumbers_49 : decode cX6_readNumbers 49 = .ok (.iload_n 3, 1) := by decide +kernel
theorem dX6_readNumbers_50 : decode cX6_readNumbers 50 = .ok (.bipush 59, 2) := by decide +kernel
theorem dX6_readNumbers_52 : decode cX6_readNumbers 52 = .ok (.if_icmp .ne 7, 3) := by decide +kernel
theorem dX6_readNumbers_55 : decode cX6_readNumbers 55 = .ok (.iload_n 1, 1) := by decide +kernel
theorem dX6_readNumbers_56 : decode cX6_readNumbers 56 = .ok (.iconst 1, 1) := by decide +kernel
theorem dX6_readNumbers_57 : decode cX6_readNumbers 57 = .ok (.iadd, 1) := by decide +kernel
theorem dX6_readNumbers_58 : decode cX6_readNumbers 58 = .ok (.ireturn, 1) := by decide +kernel
theorem dX6_readNumbers_59 : decode cX6_readNumbers 59 = .ok (.iload_n 3, 1) := by decide +kernel
theorem dX6_readNumbers_60 : decode cX6_readNumbers 60 = .ok (.bipush 44, 2) := by decide +kernel
theorem dX6_readNumbers_62 : decode cX6_readNumbers 62 = .ok (.if_icmp .eq 5, 3) := by decide +kernel
theorem dX6_readNumbers_65 : decode cX6_readNumbers 65 = .ok (.iconst 0, 1) := by decide +kernel
theorem dX6_readNumbers_66 : decode cX6_readNumbers 66 = .ok (.ireturn, 1) := by decide +kernel
theorem dX6_readNumbers_67 : decode cX6_readNumbers 67 = .ok (.iinc 1 1, 3) := by decide +kernel
theorem dX6_readNumbers_70 : decode cX6_readNumbers 70 = .ok (.goto (-68), 3) := by decide +kernel
theorem dX6_readNumbers_73 : decode cX6_readNumbers 73 = .ok (.iconst 0, 1) := by decide +kernel
theorem dX6_readNumbers_74 : decode cX6_readNumbers 74 = .ok (.ireturn, 1) := by decide +kernel
theorem dX6_readNumber_0 : decode cX6_readNumber 0 = .ok (.aload_n 0, 1) := by decide +kernel
theorem dX6_readNumber_1 : decode cX6_readNumber 1 = .ok (.getfield 19, 3) := by decide +kernel
theorem dX6_readNumber_4 : decode cX6_readNumber 4 = .ok (.aload_n 0, 1) := by decide +kernel
theorem dX6_readNumber_5 : decode cX6_readNumber 5 = .ok (.getfield 15, 3) := by decide +kernel
theorem dX6_readNumber_8 : decode cX6_readNumber 8 = .ok (.invokevirtual 37, 3) := by decide +kernel
theorem dX6_readNumber_11 : decode cX6_readNumber 11 = .ok (.istore_n 1, 1) := by decide +kernel
theorem dX6_readNumber_12 : decode cX6_readNumber 12 = .ok (.iload_n 1, 1) := by decide +kernel
theorem dX6_readNumber_13 : decode cX6_readNumber 13 = .ok (.invokestatic 52, 3) := by decide +kernel
theorem dX6_readNumber_16 : decode cX6_readNumber 16 = .ok (.ifCond .ne 5, 3) := by decide +kernel
theorem dX6_readNumber_19 : decode cX6_readNumber 19 = .ok (.iconst (-1), 1) := by decide +kernel
theorem dX6_readNumber_20 : decode cX6_readNumber 20 = .ok (.ireturn, 1) := by decide +kernel
theorem dX6_readNumber_21 : decode cX6_readNumber 21 = .ok (.aload_n 0, 1) := by decide +kernel
theorem dX6_readNumber_22 : decode cX6_readNumber 22 = .ok (.dup, 1) := by decide +kernel
theorem dX6_readNumber_23 : decode cX6_readNumber 23 = .ok (.getfield 15, 3) := by decide +kernel
theorem dX6_readNumber_26 : decode cX6_readNumber 26 = .ok (.iconst 1, 1) := by decide +kernel
theorem dX6_readNumber_27 : decode cX6_readNumber 27 = .ok (.iadd, 1) := by decide +kernel
theorem dX6_readNumber_28 : decode cX6_readNumber 28 = .ok (.putfield 15, 3) := by decide +kernel
theorem dX6_readNumber_31 : decode cX6_readNumber 31 = .ok (.aload_n 0, 1) := by decide +kernel
theorem dX6_readNumber_32 : decode cX6_readNumber 32 = .ok (.getfield 19, 3) := by decide +kernel
theorem dX6_readNumber_35 : decode cX6_readNumber 35 = .ok (.aload_n 0, 1) := by decide +kernel
theorem dX6_readNumber_36 : decode cX6_readNumber 36 = .ok (.getfield 15, 3) := by decide +kernel
theorem dX6_readNumber_39 : decode cX6_readNumber 39 = .ok (.invokevirtual 37, 3) := by decide +kernel
theorem dX6_readNumber_42 : decode cX6_readNumber 42 = .ok (.istore_n 2, 1) := by decide +kernel
theorem dX6_readNumber_43 : decode cX6_readNumber 43 = .ok (.iload_n 2, 1) := by decide +kernel
theorem dX6_readNumber_44 : decode cX6_readNumber 44 = .ok (.invokestatic 52, 3) := by decide +kernel
theorem dX6_readNumber_47 : decode cX6_readNumber 47 = .ok (.ifCond .ne 8, 3) := by decide +kernel
theorem dX6_readNumber_50 : decode cX6_readNumber 50 = .ok (.iload_n 1, 1) := by decide +kernel
theorem dX6_readNumber_51 : decode cX6_readNumber 51 = .ok (.bipush 48, 2) := by decide +kernel
theorem dX6_readNumber_53 : decode cX6_readNumber 53 = .ok (.isub, 1) := by decide +kernel
theorem dX6_readNumber_54 : decode cX6_readNumber 54 = .ok (.ireturn, 1) := by decide +kernel
theorem dX6_readNumber_55 : decode cX6_readNumber 55 = .ok (.aload_n 0, 1) := by decide +kernel
theorem dX6_readNumber_56 : decode cX6_readNumber 56 = .ok (.dup, 1) := by decide +kernel
theorem dX6_readNumber_57 : decode cX6_readNumber 57 = .ok (.getfield 15, 3) := by decide +kernel
theorem dX6_readNumber_60 : decode cX6_readNumber 60 = .ok (.iconst 1, 1) := by decide +kernel
theorem dX6_readNumber_61 : decode cX6_readNumber 61 = .ok (.iadd, 1) := by decide +kernel
theorem dX6_readNumber_62 : decode cX6_readNumber 62 = .ok (.putfield 15, 3) := by decide +kernel
theorem dX6_readNumber_65 : decode cX6_readNumber 65 = .ok (.bipush 10, 2) := by decide +kernel
theorem dX6_readNumber_67 : decode cX6_readNumber 67 = .ok (.iload_n 1, 1) := by decide +kernel
theorem dX6_readNumber_68 : decode cX6_readNumber 68 = .ok (.bipush 48, 2) := by decide +kernel
theorem dX6_readNumber_70 : decode cX6_readNumber 70 = .ok (.isub, 1) := by decide +kernel
theorem dX6_readNumber_71 : decode cX6_readNumber 71 = .ok (.imul, 1) := by decide +kernel
theorem dX6_readNumber_72 : decode cX6_readNumber 72 = .ok (.iload_n 2, 1) := by decide +kernel
theorem dX6_readNumber_73 : decode cX6_readNumber 73 = .ok (.iadd, 1) := by decide +kernel
theorem dX6_readNumber_74 : decode cX6_readNumber 74 = .ok (.bipush 48, 2) := by decide +kernel
theorem dX6_readNumber_76 : decode cX6_readNumber 76 = .ok (.isub, 1) := by decide +kernel
theorem dX6_readNumber_77 : decode cX6_readNumber 77 = .ok (.ireturn, 1) := by decide +kernel
theorem dX6_isFigure_0 : decode cX6_isFigure 0 = .ok (.iload_n 0, 1) := by decide +kernel
theorem dX6_isFigure_1 : decode cX6_isFigure 1 = .ok (.bipush 48, 2) := by decide +kernel
theorem dX6_isFigure_3 : decode cX6_isFigure 3 = .ok (.bipush 57, 2) := by decide +kernel
theorem dX6_isFigure_5 : decode cX6_isFigure 5 = .ok (.invokestatic 56, 3) := by decide +kernel
theorem dX6_isFigure_8 : decode cX6_isFigure 8 = .ok (.ireturn, 1) := by decide +kernel
theorem dX7_init_0 : decode cX7_init 0 = .ok (.aload_n 0, 1) := by decide +kernel
theorem dX7_init_1 : decode cX7_init 1 = .ok (.invokespecial 3, 3) := by decide +kernel
theorem dX7_init_4 : decode cX7_init 4 = .ok (.aload_n 0, 1) := by decide +kernel
theorem dX7_init_5 : decode cX7_init 5 = .ok (.sipush 200, 3) := by decide +kernel
theorem dX7_init_8 : decode cX7_init 8 = .ok (.newarray .int, 2) := by decide +kernel
theorem dX7_init_10 : decode cX7_init 10 = .ok (.putfield 9, 3) := by decide +kernel
theorem dX7_init_13 : decode cX7_init 13 = .ok (.aload_n 0, 1) := by decide +kernel
theorem dX7_init_14 : decode cX7_init 14 = .ok (.iconst 0, 1) := by decide +kernel
theorem dX7_init_15 : decode cX7_init 15 = .ok (.putfield 15, 3) := by decide +kernel
theorem dX7_init_18 : decode cX7_init 18 = .ok (.return_, 1) := by decide +kernel
theorem dX7_add_0 : decode cX7_add 0 = .ok (.aload_n 0, 1) := by decide +kernel
theorem dX7_add_1 : decode cX7_add 1 = .ok (.getfield 15, 3) := by decide +kernel
theorem dX7_add_4 : decode cX7_add 4 = .ok (.sipush 200, 3) := by decide +kernel
theorem dX7_add_7 : decode cX7_add 7 = .ok (.if_icmp .lt 5, 3) := by decide +kernel
theorem dX7_add_10 : decode cX7_add 10 = .ok (.iconst 0, 1) := by decide +kernel
theorem dX7_add_11 : decode cX7_add 11 = .ok (.ireturn, 1) := by decide +kernel
theorem dX7_add_12 : decode cX7_add 12 = .ok (.aload_n 0, 1) := by decide +kernel
theorem dX7_add_13 : decode cX7_add 13 = .ok (.getfield 9, 3) := by decide +kernel
theorem dX7_add_16 : decode cX7_add 16 = .ok (.aload_n 0, 1) := by decide +kernel
theorem dX7_add_17 : decode cX7_add 17 = .ok (.getfield 15, 3) := by decide +kernel
theorem dX7_add_20 : decode cX7_add 20 = .ok (.iload_n 1, 1) := by decide +kernel
theorem dX7_add_21 : decode cX7_add 21 = .ok (.invokestatic 19, 3) := by decide +kernel
theorem dX7_add_24 : decode cX7_add 24 = .ok (.aload_n 0, 1) := by decide +kernel
theorem dX7_add_25 : decode cX7_add 25 = .ok (.dup, 1) := by decide +kernel
theorem dX7_add_26 : decode cX7_add 26 = .ok (.getfield 15, 3) := by decide +kernel
theorem dX7_add_29 : decode cX7_add 29 = .ok (.iconst 1, 1) := by decide +kernel
theorem dX7_add_30 : decode cX7_add 30 = .ok (.iadd, 1) := by decide +kernel
theorem dX7_add_31 : decode cX7_add 31 = .ok (.putfield 15, 3) := by decide +kernel
theorem dX7_add_34 : decode cX7_add 34 = .ok (.iconst 1, 1) := by decide +kernel
theorem dX7_add_35 : decode cX7_add 35 = .ok (.ireturn, 1) := by decide +kernel
theorem dX7_clear_0 : decode cX7_clear 0 = .ok (.aload_n 0, 1) := by decide +kernel
theorem dX7_clear_1 : decode cX7_clear 1 = .ok (.iconst 0, 1) := by decide +kernel
theorem dX7_clear_2 : decode cX7_clear 2 = .ok (.putfield 15, 3) := by decide +kernel
theorem dX7_clear_5 : decode cX7_clear 5 = .ok (.return_, 1) := by decide +kernel
theorem dX7_length_0 : decode cX7_length 0 = .ok (.aload_n 0, 1) := by decide +kernel
theorem dX7_length_1 : decode cX7_length 1 = .ok (.getfield 15, 3) := by decide +kernel
theorem dX7_length_4 : decode cX7_length 4 = .ok (.ireturn, 1) := by decide +kernel
theorem dX7_letterAt_0 : decode cX7_letterAt 0 = .ok (.iload_n 1, 1) := by decide +kernel
theorem dX7_letterAt_1 : decode cX7_letterAt 1 = .ok (.aload_n 0, 1) := by decide +kernel
theorem dX7_letterAt_2 : decode cX7_letterAt 2 = .ok (.getfield 15, 3) := by decide +kernel
theorem dX7_letterAt_5 : decode cX7_letterAt 5 = .ok (.if_icmp .ge 14, 3) := by decide +kernel
theorem dX7_letterAt_8 : decode cX7_letterAt 8 = .ok (.aload_n 0, 1) := by decide +kernel
theorem dX7_letterAt_9 : decode cX7_letterAt 9 = .ok (.getfield 9, 3) := by decide +kernel
theorem dX7_letterAt_12 : decode cX7_letterAt 12 = .ok (.iload_n 1, 1) := by decide +kernel
theorem dX7_letterAt_13 : decode cX7_letterAt 13 = .ok (.invokestatic 23, 3) := by decide +kernel
theorem dX7_letterAt_16 : decode cX7_letterAt 16 = .ok (.goto 4, 3) := by decide +kernel
theorem dX7_letterAt_19 : decode cX7_letterAt 19 = .ok (.iconst 0, 1) := by decide +kernel
theorem dX7_letterAt_20 : decode cX7_letterAt 20 = .ok (.ireturn, 1) := by decide +kernel
theorem dX8_init_0 : decode cX8_init 0 = .ok (.aload_n 0, 1) := by decide +kernel
theorem dX8_init_1 : decode cX8_init 1 = .ok (.invokespecial 3, 3) := by decide +kernel
theorem dX8_init_4 : decode cX8_init 4 = .ok (.aload_n 0, 1) := by decide +kernel
theorem dX8_init_5 : decode cX8_init 5 = .ok (.bipush 6, 2) := by decide +kernel
theorem dX8_init_7 : decode cX8_init 7 = .ok (.newarray .int, 2) := by decide +kernel
theorem dX8_init_9 : decode cX8_init 9 = .ok (.putfield 9, 3) := by decide +kernel
theorem dX8_init_12 : decode cX8_init 12 = .ok (.aload_n 0, 1) := by decide +kernel
theorem dX8_init_13 : decode cX8_init 13 = .ok (.bipush 6, 2) := by decide +kernel
theorem dX8_init_15 : decode cX8_init 15 = .ok (.newarray .int, 2) := by decide +kernel
theorem dX8_init_17 : decode cX8_init 17 = .ok (.putfield 15, 3) := by decide +kernel
theorem dX8_init_20 : decode cX8_init 20 = .ok (.aload_n 0, 1) := by decide +kernel
theorem dX8_init_21 : decode cX8_init 21 = .ok (.bipush 6, 2) := by decide +kernel
theorem dX8_init_23 : decode cX8_init 23 = .ok (.newarray .int, 2) := by decide +kernel
theorem dX8_init_25 : decode cX8_init 25 = .ok (.putfield 18, 3) := by decide +kernel
theorem dX8_init_28 : decode cX8_init 28 = .ok (.aload_n 0, 1) := by decide +kernel
theorem dX8_init_29 : decode cX8_init 29 = .ok (.bipush 6, 2) := by decide +kernel
theorem dX8_init_31 : decode cX8_init 31 = .ok (.newarray .int, 2) := by decide +kernel
theorem dX8_init_33 : decode cX8_init 33 = .ok (.putfield 21, 3) := by decide +kernel
theorem dX8_init_36 : decode cX8_init 36 = .ok (.aload_n 0, 1) := by decide +kernel
theorem dX8_init_37 : decode cX8_init 37 = .ok (.iconst 0, 1) := by decide +kernel
theorem dX8_init_38 : decode cX8_init 38 = .ok (.putfield 24, 3) := by decide +kernel
theorem dX8_init_41 : decode cX8_init 41 = .ok (.aload_n 0, 1) := by decide +kernel
theorem dX8_init_42 : decode cX8_init 42 = .ok (.aload_n 1, 1) := by decide +kernel
theorem dX8_init_43 : decode cX8_init 43 = .ok (.putfield 28, 3) := by decide +kernel
theorem dX8_init_46 : decode cX8_init 46 = .ok (.aload_n 0, 1) := by decide +kernel
theorem dX8_init_47 : decode cX8_init 47 = .ok (.aload_n 2, 1) := by decide +kernel
theorem dX8_init_48 : decode cX8_init 48 = .ok (.putfield 32, 3) := by decide +kernel
theorem dX8_init_51 : decode cX8_init 51 = .ok (.return_, 1) := by decide +kernel
theorem dX8_add_0 : decode cX8_add 0 = .ok (.aload_n 0, 1) := by decide +kernel
theorem dX8_add_1 : decode cX8_add 1 = .ok (.getfield 24, 3) := by decide +kernel
theorem dX8_add_4 : decode cX8_add 4 = .ok (.bipush 6, 2) := by decide +kernel
theorem dX8_add_6 : decode cX8_add 6 = .ok (.if_icmp .lt 5, 3) := by decide +kernel
theorem dX8_add_9 : decode cX8_add 9 = .ok (.iconst 0, 1) := by decide +kernel
theorem dX8_add_10 : decode cX8_add 10 = .ok (.ireturn, 1) := by decide +kernel
theorem dX8_add_11 : decode cX8_add 11 = .ok (.aload_n 0, 1) := by decide +kernel
theorem dX8_add_12 : decode cX8_add 12 = .ok (.getfield 9, 3) := by decide +kernel
theorem dX8_add_15 : decode cX8_add 15 = .ok (.aload_n 0, 1) := by decide +kernel
theorem dX8_add_16 : decode cX8_add 16 = .ok (.getfield 24, 3) := by decide +kernel
theorem dX8_add_19 : decode cX8_add 19 = .ok (.iload_n 1, 1) := by decide +kernel
theorem dX8_add_20 : decode cX8_add 20 = .ok (.invokestatic 36, 3) := by decide +kernel
theorem dX8_add_23 : decode cX8_add 23 = .ok (.aload_n 0, 1) := by decide +kernel
theorem dX8_add_24 : decode cX8_add 24 = .ok (.getfield 15, 3) := by decide +kernel
theorem dX8_add_27 : decode cX8_add 27 = .ok (.aload_n 0, 1) := by decide +kernel
theorem dX8_add_28 : decode cX8_add 28 = .ok (.getfield 24, 3) := by decide +kernel
theorem dX8_add_31 : decode cX8_add 31 = .ok (.iload_n 2, 1) := by decide +kernel
theorem dX8_add_32 : decode cX8_add 32 = .ok (.invokestatic 36, 3) := by decide +kernel
theorem dX8_add_35 : decode cX8_add 35 = .ok (.aload_n 0, 1) := by decide +kernel
theorem dX8_add_36 : decode cX8_add 36 = .ok (.getfield 18, 3) := by decide +kernel
theorem dX8_add_39 : decode cX8_add 39 = .ok (.aload_n 0, 1) := by decide +kernel
theorem dX8_add_40 : decode cX8_add 40 = .ok (.getfield 24, 3) := by decide +kernel
theorem dX8_add_43 : decode cX8_add 43 = .ok (.iload_n 3, 1) := by decide +kernel
theorem dX8_add_44 : decode cX8_add 44 = .ok (.invokestatic 36, 3) := by decide +kernel
theorem dX8_add_47 : decode cX8_add 47 = .ok (.aload_n 0, 1) := by decide +kernel
theorem dX8_add_48 : decode cX8_add 48 = .ok (.getfield 21, 3) := by decide +kernel
theorem dX8_add_51 : decode cX8_add 51 = .ok (.aload_n 0, 1) := by decide +kernel
theorem dX8_add_52 : decode cX8_add 52 = .ok (.getfield 24, 3) := by decide +kernel
theorem dX8_add_55 : decode cX8_add 55 = .ok (.iload 4, 2) := by decide +kernel
theorem dX8_add_57 : decode cX8_add 57 = .ok (.ifCond .eq 7, 3) := by decide +kernel
theorem dX8_add_60 : decode cX8_add 60 = .ok (.iconst 1, 1) := by decide +kernel
theorem dX8_add_61 : decode cX8_add 61 = .ok (.goto 4, 3) := by decide +kernel
theorem dX8_add_64 : decode cX8_add 64 = .ok (.iconst 0, 1) := by decide +kernel
theorem dX8_add_65 : decode cX8_add 65 = .ok (.invokestatic 36, 3) := by decide +kernel
theorem dX8_add_68 : decode cX8_add 68 = .ok (.aload_n 0, 1) := by decide +kernel
theorem dX8_add_69 : decode cX8_add 69 = .ok (.dup, 1) := by decide +kernel
theorem dX8_add_70 : decode cX8_add 70 = .ok (.getfield 24, 3) := by decide +kernel
theorem dX8_add_73 : decode cX8_add 73 = .ok (.iconst 1, 1) := by decide +kernel
theorem dX8_add_74 : decode cX8_add 74 = .ok (.iadd, 1) := by decide +kernel
theorem dX8_add_75 : decode cX8_add 75 = .ok (.putfield 24, 3) := by decide +kernel
theorem dX8_add_78 : decode cX8_add 78 = .ok (.iconst 1, 1) := by decide +kernel
theorem dX8_add_79 : decode cX8_add 79 = .ok (.ireturn, 1) := by decide +kernel
theorem dX8_clear_0 : decode cX8_clear 0 = .ok (.aload_n 0, 1) := by decide +kernel
theorem dX8_clear_1 : decode cX8_clear 1 = .ok (.iconst 0, 1) := by decide +kernel
theorem dX8_clear_2 : decode cX8_clear 2 = .ok (.putfield 24, 3) := by decide +kernel
theorem dX8_clear_5 : decode cX8_clear 5 = .ok (.return_, 1) := by decide +kernel
theorem dX8_size_0 : decode cX8_size 0 = .ok (.aload_n 0, 1) := by decide +kernel
theorem dX8_size_1 : decode cX8_size 1 = .ok (.getfield 24, 3) := by decide +kernel
theorem dX8_size_4 : decode cX8_size 4 = .ok (.ireturn, 1) := by decide +kernel
theorem dX8_beginnings_0 : decode cX8_beginnings 0 = .ok (.iconst 0, 1) := by decide +kernel
theorem dX8_beginnings_1 : decode cX8_beginnings 1 = .ok (.istore_n 2, 1) := by decide +kernel
theorem dX8_beginnings_2 : decode cX8_beginnings 2 = .ok (.iconst 0, 1) := by decide +kernel
theorem dX8_beginnings_3 : decode cX8_beginnings 3 = .ok (.istore_n 3, 1) := by decide +kernel
theorem dX8_beginnings_4 : decode cX8_beginnings 4 = .ok (.iload_n 3, 1) := by decide +kernel
theorem dX8_beginnings_5 : decode cX8_beginnings 5 = .ok (.aload_n 0, 1) := by decide +kernel
theorem dX8_beginnings_6 : decode cX8_beginnings 6 = .ok (.getfield 28, 3) := by decide +kernel
theorem dX8_beginnings_9 : decode cX8_beginnings 9 = .ok (.invokevirtual 40, 3) := by decide +kernel
theorem dX8_beginnings_12 : decode cX8_beginnings 12 = .ok (.if_icmp .ge 25, 3) := by decide +kernel
theorem dX8_beginnings_15 : decode cX8_beginnings 15 = .ok (.aload_n 0, 1) := by decide +kernel
theorem dX8_beginnings_16 : decode cX8_beginnings 16 = .ok (.iload_n 3, 1) := by decide +kernel
theorem dX8_beginnings_17 : decode cX8_beginnings 17 = .ok (.iload_n 1, 1) := by decide +kernel
theorem dX8_beginnings_18 : decode cX8_beginnings 18 = .ok (.invokevirtual 45, 3) := by decide +kernel
theorem dX8_beginnings_21 : decode cX8_beginnings 21 = .ok (.ifCond .eq 10, 3) := by decide +kernel
theorem dX8_beginnings_24 : decode cX8_beginnings 24 = .ok (.iload_n 2, 1) := by decide +kernel
theorem dX8_beginnings_25 : decode cX8_beginnings 25 = .ok (.iload_n 3, 1) := by decide +kernel
theorem dX8_beginnings_26 : decode cX8_beginnings 26 = .ok (.invokestatic 49, 3) := by decide +kernel
theorem dX8_beginnings_29 : decode cX8_beginnings 29 = .ok (.ior, 1) := by decide +kernel
theorem dX8_beginnings_30 : decode cX8_beginnings 30 = .ok (.istore_n 2, 1) := by decide +kernel
theorem dX8_beginnings_31 : decode cX8_beginnings 31 = .ok (.iinc 3 1, 3) := by decide +kernel
theorem dX8_beginnings_34 : decode cX8_beginnings 34 = .ok (.goto (-30), 3) := by decide +kernel
theorem dX8_beginnings_37 : decode cX8_beginnings 37 = .ok (.iload_n 2, 1) := by decide +kernel
theorem dX8_beginnings_38 : decode cX8_beginnings 38 = .ok (.ireturn, 1) := by decide +kernel
theorem dX8_allSoFrom_0 : decode cX8_allSoFrom 0 = .ok (.aload_n 0, 1) := by decide +kernel
theorem dX8_allSoFrom_1 : decode cX8_allSoFrom 1 = .ok (.getfield 32, 3) := by decide +kernel
theorem dX8_allSoFrom_4 : decode cX8_allSoFrom 4 = .ok (.iload_n 2, 1) := by decide +kernel
theorem dX8_allSoFrom_5 : decode cX8_allSoFrom 5 = .ok (.invokevirtual 53, 3) := by decide +kernel
theorem dX8_allSoFrom_8 : decode cX8_allSoFrom 8 = .ok (.iconst 0, 1) := by decide +kernel
theorem dX8_allSoFrom_9 : decode cX8_allSoFrom 9 = .ok (.istore_n 3, 1) := by decide +kernel
theorem dX8_allSoFrom_10 : decode cX8_allSoFrom 10 = .ok (.iload_n 3, 1) := by decide +kernel
theorem dX8_allSoFrom_11 : decode cX8_allSoFrom 11 = .ok (.aload_n 0, 1) := by decide +kernel
theorem dX8_allSoFrom_12 : decode cX8_allSoFrom 12 = .ok (.getfield 24, 3) := by decide +kernel
theorem dX8_allSoFrom_15 : decode cX8_allSoFrom 15 = .ok (.if_icmp .ge 51, 3) := by decide +kernel
theorem dX8_allSoFrom_18 : decode cX8_allSoFrom 18 = .ok (.aload_n 0, 1) := by decide +kernel
theorem dX8_allSoFrom_19 : decode cX8_allSoFrom 19 = .ok (.getfield 15, 3) := by decide +kernel
theorem dX8_allSoFrom_22 : decode cX8_allSoFrom 22 = .ok (.iload_n 3, 1) := by decide +kernel
theorem dX8_allSoFrom_23 : decode cX8_allSoFrom 23 = .ok (.invokestatic 59, 3) := by decide +kernel
theorem dX8_allSoFrom_26 : decode cX8_allSoFrom 26 = .ok (.iload_n 2, 1) := by decide +kernel
theorem dX8_allSoFrom_27 : decode cX8_allSoFrom 27 = .ok (.if_icmp .ne 33, 3) := by decide +kernel
theorem dX8_allSoFrom_30 : decode cX8_allSoFrom 30 = .ok (.aload_n 0, 1) := by decide +kernel
theorem dX8_allSoFrom_31 : decode cX8_allSoFrom 31 = .ok (.iload_n 3, 1) := by decide +kernel
theorem dX8_allSoFrom_32 : decode cX8_allSoFrom 32 = .ok (.aload_n 0, 1) := by decide +kernel
theorem dX8_allSoFrom_33 : decode cX8_allSoFrom 33 = .ok (.getfield 32, 3) := by decide +kernel
theorem dX8_allSoFrom_36 : decode cX8_allSoFrom 36 = .ok (.iload_n 1, 1) := by decide +kernel
theorem dX8_allSoFrom_37 : decode cX8_allSoFrom 37 = .ok (.invokestatic 49, 3) := by decide +kernel
theorem dX8_allSoFrom_40 : decode cX8_allSoFrom 40 = .ok (.iconst 0, 1) := by decide +kernel
theorem dX8_allSoFrom_41 : decode cX8_allSoFrom 41 = .ok (.aload_n 0, 1) := by decide +kernel
theorem dX8_allSoFrom_42 : decode cX8_allSoFrom 42 = .ok (.getfield 18, 3) := by decide +kernel
theorem dX8_allSoFrom_45 : decode cX8_allSoFrom 45 = .ok (.iload_n 3, 1) := by decide +kernel
theorem dX8_allSoFrom_46 : decode cX8_allSoFrom 46 = .ok (.invokestatic 59, 3) := by decide +kernel
theorem dX8_allSoFrom_49 : decode cX8_allSoFrom 49 = .ok (.invokevirtual 63, 3) := by decide +kernel
theorem dX8_allSoFrom_52 : decode cX8_allSoFrom 52 = .ok (.invokevirtual 67, 3) := by decide +kernel
theorem dX8_allSoFrom_55 : decode cX8_allSoFrom 55 = .ok (.ifCond .ne 5, 3) := by decide +kernel
theorem dX8_allSoFrom_58 : decode cX8_allSoFrom 58 = .ok (.iconst 0, 1) := by decide +kernel
theorem dX8_allSoFrom_59 : decode cX8_allSoFrom 59 = .ok (.ireturn, 1) := by decide +kernel
theorem dX8_allSoFrom_60 : decode cX8_allSoFrom 60 = .ok (.iinc 3 1, 3) := by decide +kernel
theorem dX8_allSoFrom_63 : decode cX8_allSoFrom 63 = .ok (.goto (-53), 3) := by decide +kernel
theorem dX8_allSoFrom_66 : decode cX8_allSoFrom 66 = .ok (.iconst 1, 1) := by decide +kernel
theorem dX8_allSoFrom_67 : decode cX8_allSoFrom 67 = .ok (.ireturn, 1) := by decide +kernel
theorem dX8_nextWinds_0 : decode cX8_nextWinds 0 = .ok (.iconst 0, 1) := by decide +kernel
theorem dX8_nextWinds_1 : decode cX8_nextWinds 1 = .ok (.istore_n 1, 1) := by decide +kernel
theorem dX8_nextWinds_2 : decode cX8_nextWinds 2 = .ok (.iconst 0, 1) := by decide +kernel
theorem dX8_nextWinds_3 : decode cX8_nextWinds 3 = .ok (.istore_n 2, 1) := by decide +kernel
theorem dX8_nextWinds_4 : decode cX8_nextWinds 4 = .ok (.iload_n 2, 1) := by decide +kernel
theorem dX8_nextWinds_5 : decode cX8_nextWinds 5 = .ok (.iconst 4, 1) := by decide +kernel
theorem dX8_nextWinds_6 : decode cX8_nextWinds 6 = .ok (.if_icmp .gt 24, 3) := by decide +kernel
theorem dX8_nextWinds_9 : decode cX8_nextWinds 9 = .ok (.aload_n 0, 1) := by decide +kernel
theorem dX8_nextWinds_10 : decode cX8_nextWinds 10 = .ok (.iload_n 2, 1) := by decide +kernel
theorem dX8_nextWinds_11 : decode cX8_nextWinds 11 = .ok (.invokevirtual 70, 3) := by decide +kernel
theorem dX8_nextWinds_14 : decode cX8_nextWinds 14 = .ok (.ifCond .eq 10, 3) := by decide +kernel
theorem dX8_nextWinds_17 : decode cX8_nextWinds 17 = .ok (.iload_n 1, 1) := by decide +kernel
theorem dX8_nextWinds_18 : decode cX8_nextWinds 18 = .ok (.iload_n 2, 1) := by decide +kernel
theorem dX8_nextWinds_19 : decode cX8_nextWinds 19 = .ok (.invokestatic 49, 3) := by decide +kernel
theorem dX8_nextWinds_22 : decode cX8_nextWinds 22 = .ok (.ior, 1) := by decide +kernel
theorem dX8_nextWinds_23 : decode cX8_nextWinds 23 = .ok (.istore_n 1, 1) := by decide +kernel
theorem dX8_nextWinds_24 : decode cX8_nextWinds 24 = .ok (.iinc 2 1, 3) := by decide +kernel
theorem dX8_nextWinds_27 : decode cX8_nextWinds 27 = .ok (.goto (-23), 3) := by decide +kernel
theorem dX8_nextWinds_30 : decode cX8_nextWinds 30 = .ok (.iload_n 1, 1) := by decide +kernel
theorem dX8_nextWinds_31 : decode cX8_nextWinds 31 = .ok (.ireturn, 1) := by decide +kernel
theorem dX8_allSoBy_0 : decode cX8_allSoBy 0 = .ok (.iconst 0, 1) := by decide +kernel
theorem dX8_allSoBy_1 : decode cX8_allSoBy 1 = .ok (.istore_n 2, 1) := by decide +kernel
theorem dX8_allSoBy_2 : decode cX8_allSoBy 2 = .ok (.iload_n 2, 1) := by decide +kernel
theorem dX8_allSoBy_3 : decode cX8_allSoBy 3 = .ok (.aload_n 0, 1) := by decide +kernel
theorem dX8_allSoBy_4 : decode cX8_allSoBy 4 = .ok (.getfield 24, 3) := by decide +kernel
theorem dX8_allSoBy_7 : decode cX8_allSoBy 7 = .ok (.if_icmp .ge 80, 3) := by decide +kernel
theorem dX8_allSoBy_10 : decode cX8_allSoBy 10 = .ok (.aload_n 0, 1) := by decide +kernel
theorem dX8_allSoBy_11 : decode cX8_allSoBy 11 = .ok (.getfield 32, 3) := by decide +kernel
theorem dX8_allSoBy_14 : decode cX8_allSoBy 14 = .ok (.aload_n 0, 1) := by decide +kernel
theorem dX8_allSoBy_15 : decode cX8_allSoBy 15 = .ok (.getfield 15, 3) := by decide +kernel
theorem dX8_allSoBy_18 : decode cX8_allSoBy 18 = .ok (.iload_n 2, 1) := by decide +kernel
theorem dX8_allSoBy_19 : decode cX8_allSoBy 19 = .ok (.invokestatic 59, 3) := by decide +kernel
theorem dX8_allSoBy_22 : decode cX8_allSoBy 22 = .ok (.invokevirtual 53, 3) := by decide +kernel
theorem dX8_allSoBy_25 : decode cX8_allSoBy 25 = .ok (.aload_n 0, 1) := by decide +kernel
theorem dX8_allSoBy_26 : decode cX8_allSoBy 26 = .ok (.getfield 32, 3) := by decide +kernel
theorem dX8_allSoBy_29 : decode cX8_allSoBy 29 = .ok (.invokevirtual 74, 3) := by decide +kernel
theorem dX8_allSoBy_32 : decode cX8_allSoBy 32 = .ok (.istore_n 3, 1) := by decide +kernel
theorem dX8_allSoBy_33 : decode cX8_allSoBy 33 = .ok (.aload_n 0, 1) := by decide +kernel
theorem dX8_allSoBy_34 : decode cX8_allSoBy 34 = .ok (.getfield 18, 3) := by decide +kernel
theorem dX8_allSoBy_37 : decode cX8_allSoBy 37 = .ok (.iload_n 2, 1) := by decide +kernel
theorem dX8_allSoBy_38 : decode cX8_allSoBy 38 = .ok (.invokestatic 59, 3) := by decide +kernel
theorem dX8_allSoBy_41 : decode cX8_allSoBy 41 = .ok (.ifCond .le 29, 3) := by decide +kernel
theorem dX8_allSoBy_44 : decode cX8_allSoBy 44 = .ok (.aload_n 0, 1) := by decide +kernel
theorem dX8_allSoBy_45 : decode cX8_allSoBy 45 = .ok (.getfield 32, 3) := by decide +kernel
theorem dX8_allSoBy_48 : decode cX8_allSoBy 48 = .ok (.aload_n 0, 1) := by decide +kernel
theorem dX8_allSoBy_49 : decode cX8_allSoBy 49 = .ok (.getfield 32, 3) := by decide +kernel
theorem dX8_allSoBy_52 : decode cX8_allSoBy 52 = .ok (.iload_n 3, 1) := by decide +kernel
theorem dX8_allSoBy_53 : decode cX8_allSoBy 53 = .ok (.iload_n 1, 1) := by decide +kernel
theorem dX8_allSoBy_54 : decode cX8_allSoBy 54 = .ok (.invokevirtual 77, 3) := by decide +kernel
theorem dX8_allSoBy_57 : decode cX8_allSoBy 57 = .ok (.iconst 1, 1) := by decide +kernel
theorem dX8_allSoBy_58 : decode cX8_allSoBy 58 = .ok (.aload_n 0, 1) := by decide +kernel
theorem dX8_allSoBy_59 : decode cX8_allSoBy 59 = .ok (.getfield 18, 3) := by decide +kernel
theorem dX8_allSoBy_62 : decode cX8_allSoBy 62 = .ok (.iload_n 2, 1) := by decide +kernel
theorem dX8_allSoBy_63 : decode cX8_allSoBy 63 = .ok (.invokestatic 59, 3) := by decide +kernel
theorem dX8_allSoBy_66 : decode cX8_allSoBy 66 = .ok (.invokevirtual 63, 3) := by decide +kernel
theorem dX8_allSoBy_69 : decode cX8_allSoBy 69 = .ok (.istore_n 3, 1) := by decide +kernel
theorem dX8_allSoBy_70 : decode cX8_allSoBy 70 = .ok (.aload_n 0, 1) := by decide +kernel
theorem dX8_allSoBy_71 : decode cX8_allSoBy 71 = .ok (.iload_n 2, 1) := by decide +kernel
theorem dX8_allSoBy_72 : decode cX8_allSoBy 72 = .ok (.iload_n 3, 1) := by decide +kernel
theorem dX8_allSoBy_73 : decode cX8_allSoBy 73 = .ok (.invokevirtual 67, 3) := by decide +kernel
theorem dX8_allSoBy_76 : decode cX8_allSoBy 76 = .ok (.ifCond .ne 5, 3) := by decide +kernel
theorem dX8_allSoBy_79 : decode cX8_allSoBy 79 = .ok (.iconst 0, 1) := by decide +kernel
theorem dX8_allSoBy_80 : decode cX8_allSoBy 80 = .ok (.ireturn, 1) := by decide +kernel
theorem dX8_allSoBy_81 : decode cX8_allSoBy 81 = .ok (.iinc 2 1, 3) := by decide +kernel
theorem dX8_allSoBy_84 : decode cX8_allSoBy 84 = .ok (.goto (-82), 3) := by decide +kernel
theorem dX8_allSoBy_87 : decode cX8_allSoBy 87 = .ok (.iconst 1, 1) := by decide +kernel
theorem dX8_allSoBy_88 : decode cX8_allSoBy 88 = .ok (.ireturn, 1) := by decide +kernel
theorem dX8_isSo_0 : decode cX8_isSo 0 = .ok (.iload_n 2, 1) := by decide +kernel
theorem dX8_isSo_1 : decode cX8_isSo 1 = .ok (.aload_n 0, 1) := by decide +kernel
theorem dX8_isSo_2 : decode cX8_isSo 2 = .ok (.getfield 9, 3) := by decide +kernel
theorem dX8_isSo_5 : decode cX8_isSo 5 = .ok (.iload_n 1, 1) := by decide +kernel
theorem dX8_isSo_6 : decode cX8_isSo 6 = .ok (.invokestatic 59, 3) := by decide +kernel
theorem dX8_isSo_9 : decode cX8_isSo 9 = .ok (.invokestatic 81, 3) := by decide +kernel
theorem dX8_isSo_12 : decode cX8_isSo 12 = .ok (.aload_n 0, 1) := by decide +kernel
theorem dX8_isSo_13 : decode cX8_isSo 13 = .ok (.getfield 21, 3) := by decide +kernel
theorem dX8_isSo_16 : decode cX8_isSo 16 = .ok (.iload_n 1, 1) := by decide +kernel
theorem dX8_isSo_17 : decode cX8_isSo 17 = .ok (.invokestatic 59, 3) := by decide +kernel
theorem dX8_isSo_20 : decode cX8_isSo 20 = .ok (.iconst 1, 1) := by decide +kernel
theorem dX8_isSo_21 : decode cX8_isSo 21 = .ok (.if_icmp .ne 7, 3) := by decide +kernel
theorem dX8_isSo_24 : decode cX8_isSo 24 = .ok (.iconst 1, 1) := by decide +kernel
theorem dX8_isSo_25 : decode cX8_isSo 25 = .ok (.goto 4, 3) := by decide +kernel
theorem dX8_isSo_28 : decode cX8_isSo 28 = .ok (.iconst 0, 1) := by decide +kernel
theorem dX8_isSo_29 : decode cX8_isSo 29 = .ok (.if_icmp .ne 7, 3) := by decide +kernel
theorem dX8_isSo_32 : decode cX8_isSo 32 = .ok (.iconst 1, 1) := by decide +kernel
theorem dX8_isSo_33 : decode cX8_isSo 33 = .ok (.goto 4, 3) := by decide +kernel
theorem dX8_isSo_36 : decode cX8_isSo 36 = .ok (.iconst 0, 1) := by decide +kernel
theorem dX8_isSo_37 : decode cX8_isSo 37 = .ok (.ireturn, 1) := by decide +kernel
theorem dX9_init_0 : decode cX9_init 0 = .ok (.aload_n 0, 1) := by decide +kernel
theorem dX9_init_1 : decode cX9_init 1 = .ok (.invokespecial 3, 3) := by decide +kernel
theorem dX9_init_4 : decode cX9_init 4 = .ok (.aload_n 0, 1) := by decide +kernel
theorem dX9_init_5 : decode cX9_init 5 = .ok (.bipush 16, 2) := by decide +kernel
theorem dX9_init_7 : decode cX9_init 7 = .ok (.newarray .int, 2) := by decide +kernel
theorem dX9_init_9 : decode cX9_init 9 = .ok (.putfield 9, 3) := by decide +kernel
theorem dX9_init_12 : decode cX9_init 12 = .ok (.aload_n 0, 1) := by decide +kernel
theorem dX9_init_13 : decode cX9_init 13 = .ok (.iconst 5, 1) := by decide +kernel
theorem dX9_init_14 : decode cX9_init 14 = .ok (.newarray .int, 2) := by decide +kernel
theorem dX9_init_16 : decode cX9_init 16 = .ok (.putfield 15, 3) := by decide +kernel
theorem dX9_init_19 : decode cX9_init 19 = .ok (.aload_n 0, 1) := by decide +kernel
theorem dX9_init_20 : decode cX9_init 20 = .ok (.iconst 0, 1) := by decide +kernel
theorem dX9_init_21 : decode cX9_init 21 = .ok (.putfield 18, 3) := by decide +kernel
theorem dX9_init_24 : decode cX9_init 24 = .ok (.return_, 1) := by decide +kernel
theorem dX9_begin_0 : decode cX9_begin 0 = .ok (.iconst 0, 1) := by decide +kernel
theorem dX9_begin_1 : decode cX9_begin 1 = .ok (.istore_n 2, 1) := by decide +kernel
theorem dX9_begin_2 : decode cX9_begin 2 = .ok (.iload_n 2, 1) := by decide +kernel
theorem dX9_begin_3 : decode cX9_begin 3 = .ok (.bipush 16, 2) := by decide +kernel
theorem dX9_begin_5 : decode cX9_begin 5 = .ok (.if_icmp .ge 22, 3) := by decide +kernel
theorem dX9_begin_8 : decode cX9_begin 8 = .ok (.aload_n 0, 1) := by decide +kernel
theorem dX9_begin_9 : decode cX9_begin 9 = .ok (.getfield 9, 3) := by decide +kernel
theorem dX9_begin_12 : decode cX9_begin 12 = .ok (.iload_n 2, 1) := by decide +kernel
theorem dX9_begin_13 : decode cX9_begin 13 = .ok (.aload_n 1, 1) := by decide +kernel
theorem dX9_begin_14 : decode cX9_begin 14 = .ok (.iload_n 2, 1) := by decide +kernel
theorem dX9_begin_15 : decode cX9_begin 15 = .ok (.invokevirtual 22, 3) := by decide +kernel
theorem dX9_begin_18 : decode cX9_begin 18 = .ok (.invokestatic 28, 3) := by decide +kernel
theorem dX9_begin_21 : decode cX9_begin 21 = .ok (.iinc 2 1, 3) := by decide +kernel
theorem dX9_begin_24 : decode cX9_begin 24 = .ok (.goto (-22), 3) := by decide +kernel
theorem dX9_begin_27 : decode cX9_begin 27 = .ok (.iconst 0, 1) := by decide +kernel
theorem dX9_begin_28 : decode cX9_begin 28 = .ok (.istore_n 2, 1) := by decide +kernel
theorem dX9_begin_29 : decode cX9_begin 29 = .ok (.iload_n 2, 1) := by decide +kernel
theorem dX9_begin_30 : decode cX9_begin 30 = .ok (.iconst 5, 1) := by decide +kernel
theorem dX9_begin_31 : decode cX9_begin 31 = .ok (.if_icmp .ge 37, 3) := by decide +kernel
theorem dX9_begin_34 : decode cX9_begin 34 = .ok (.aload_n 0, 1) := by decide +kernel
theorem dX9_begin_35 : decode cX9_begin 35 = .ok (.getfield 15, 3) := by decide +kernel
theorem dX9_begin_38 : decode cX9_begin 38 = .ok (.iload_n 2, 1) := by decide +kernel
theorem dX9_begin_39 : decode cX9_begin 39 = .ok (.aload_n 1, 1) := by decide +kernel
theorem dX9_begin_40 : decode cX9_begin 40 = .ok (.iload_n 2, 1) := by decide +kernel
theorem dX9_begin_41 : decode cX9_begin 41 = .ok (.invokevirtual 32, 3) := by decide +kernel
theorem dX9_begin_44 : decode cX9_begin 44 = .ok (.ifCond .eq 14, 3) := by decide +kernel
theorem dX9_begin_47 : decode cX9_begin 47 = .ok (.aload_n 1, 1) := by decide +kernel
theorem dX9_begin_48 : decode cX9_begin 48 = .ok (.iload_n 2, 1) := by decide +kernel
theorem dX9_begin_49 : decode cX9_begin 49 = .ok (.invokevirtual 36, 3) := by decide +kernel
theorem dX9_begin_52 : decode cX9_begin 52 = .ok (.invokestatic 39, 3) := by decide +kernel
theorem dX9_begin_55 : decode cX9_begin 55 = .ok (.goto 4, 3) := by decide +kernel
theorem dX9_begin_58 : decode cX9_begin 58 = .ok (.iconst 0, 1) := by decide +kernel
theorem dX9_begin_59 : decode cX9_begin 59 = .ok (.invokestatic 28, 3) := by decide +kernel
theorem dX9_begin_62 : decode cX9_begin 62 = .ok (.iinc 2 1, 3) := by decide +kernel
theorem dX9_begin_65 : decode cX9_begin 65 = .ok (.goto (-36), 3) := by decide +kernel
theorem dX9_begin_68 : decode cX9_begin 68 = .ok (.aload_n 0, 1) := by decide +kernel
theorem dX9_begin_69 : decode cX9_begin 69 = .ok (.iconst 0, 1) := by decide +kernel
theorem dX9_begin_70 : decode cX9_begin 70 = .ok (.putfield 18, 3) := by decide +kernel
theorem dX9_begin_73 : decode cX9_begin 73 = .ok (.return_, 1) := by decide +kernel
theorem dX9_copyOf_0 : decode cX9_copyOf 0 = .ok (.aload_n 1, 1) := by decide +kernel
theorem dX9_copyOf_1 : decode cX9_copyOf 1 = .ok (.getfield 9, 3) := by decide +kernel
theorem dX9_copyOf_4 : decode cX9_copyOf 4 = .ok (.aload_n 0, 1) := by decide +kernel
theorem dX9_copyOf_5 : decode cX9_copyOf 5 = .ok (.getfield 9, 3) := by decide +kernel
theorem dX9_copyOf_8 : decode cX9_copyOf 8 = .ok (.invokestatic 42, 3) := by decide +kernel
theorem dX9_copyOf_11 : decode cX9_copyOf 11 = .ok (.aload_n 1, 1) := by decide +kernel
theorem dX9_copyOf_12 : decode cX9_copyOf 12 = .ok (.getfield 15, 3) := by decide +kernel
theorem dX9_copyOf_15 : decode cX9_copyOf 15 = .ok (.aload_n 0, 1) := by decide +kernel
theorem dX9_copyOf_16 : decode cX9_copyOf 16 = .ok (.getfield 15, 3) := by decide +kernel
theorem dX9_copyOf_19 : decode cX9_copyOf 19 = .ok (.invokestatic 42, 3) := by decide +kernel
theorem dX9_copyOf_22 : decode cX9_copyOf 22 = .ok (.aload_n 0, 1) := by decide +kernel
theorem dX9_copyOf_23 : decode cX9_copyOf 23 = .ok (.aload_n 1, 1) := by decide +kernel
theorem dX9_copyOf_24 : decode cX9_copyOf 24 = .ok (.getfield 18, 3) := by decide +kernel
theorem dX9_copyOf_27 : decode cX9_copyOf 27 = .ok (.putfield 18, 3) := by decide +kernel
theorem dX9_copyOf_30 : decode cX9_copyOf 30 = .ok (.return_, 1) := by decide +kernel
theorem dX9_sashOf_0 : decode cX9_sashOf 0 = .ok (.aload_n 0, 1) := by decide +kernel
theorem dX9_sashOf_1 : decode cX9_sashOf 1 = .ok (.getfield 9, 3) := by decide +kernel
theorem dX9_sashOf_4 : decode cX9_sashOf 4 = .ok (.iload_n 1, 1) := by decide +kernel
theorem dX9_sashOf_5 : decode cX9_sashOf 5 = .ok (.invokestatic 46, 3) := by decide +kernel
theorem dX9_sashOf_8 : decode cX9_sashOf 8 = .ok (.ireturn, 1) := by decide +kernel
theorem dX9_setSash_0 : decode cX9_setSash 0 = .ok (.aload_n 0, 1) := by decide +kernel
theorem dX9_setSash_1 : decode cX9_setSash 1 = .ok (.getfield 9, 3) := by decide +kernel
theorem dX9_setSash_4 : decode cX9_setSash 4 = .ok (.iload_n 1, 1) := by decide +kernel
theorem dX9_setSash_5 : decode cX9_setSash 5 = .ok (.iload_n 2, 1) := by decide +kernel
theorem dX9_setSash_6 : decode cX9_setSash 6 = .ok (.invokestatic 28, 3) := by decide +kernel
theorem dX9_setSash_9 : decode cX9_setSash 9 = .ok (.return_, 1) := by decide +kernel
theorem dX9_whoKnows_0 : decode cX9_whoKnows 0 = .ok (.aload_n 0, 1) := by decide +kernel
theorem dX9_whoKnows_1 : decode cX9_whoKnows 1 = .ok (.getfield 15, 3) := by decide +kernel
theorem dX9_whoKnows_4 : decode cX9_whoKnows 4 = .ok (.iload_n 1, 1) := by decide +kernel
theorem dX9_whoKnows_5 : decode cX9_whoKnows 5 = .ok (.invokestatic 46, 3) := by decide +kernel
theorem dX9_whoKnows_8 : decode cX9_whoKnows 8 = .ok (.ireturn, 1) := by decide +kernel
theorem dX9_setWhoKnows_0 : decode cX9_setWhoKnows 0 = .ok (.aload_n 0, 1) := by decide +kernel
theorem dX9_setWhoKnows_1 : decode cX9_setWhoKnows 1 = .ok (.getfield 15, 3) := by decide +kernel
theorem dX9_setWhoKnows_4 : decode cX9_setWhoKnows 4 = .ok (.iload_n 1, 1) := by decide +kernel
theorem dX9_setWhoKnows_5 : decode cX9_setWhoKnows 5 = .ok (.iload_n 2, 1) := by decide +kernel
theorem dX9_setWhoKnows_6 : decode cX9_setWhoKnows 6 = .ok (.invokestatic 28, 3) := by decide +kernel
theorem dX9_setWhoKnows_9 : decode cX9_setWhoKnows 9 = .ok (.return_, 1) := by decide +kernel
theorem dX9_whoKnowsAny_0 : decode cX9_whoKnowsAny 0 = .ok (.iconst 0, 1) := by decide +kernel
theorem dX9_whoKnowsAny_1 : decode cX9_whoKnowsAny 1 = .ok (.istore_n 1, 1) := by decide +kernel
theorem dX9_whoKnowsAny_2 : decode cX9_whoKnowsAny 2 = .ok (.iconst 0, 1) := by decide +kernel
theorem dX9_whoKnowsAny_3 : decode cX9_whoKnowsAny 3 = .ok (.istore_n 2, 1) := by decide +kernel
theorem dX9_whoKnowsAny_4 : decode cX9_whoKnowsAny 4 = .ok (.iload_n 2, 1) := by decide +kernel
theorem dX9_whoKnowsAny_5 : decode cX9_whoKnowsAny 5 = .ok (.iconst 5, 1) := by decide +kernel
theorem dX9_whoKnowsAny_6 : decode cX9_whoKnowsAny 6 = .ok (.if_icmp .ge 17, 3) := by decide +kernel
theorem dX9_whoKnowsAny_9 : decode cX9_whoKnowsAny 9 = .ok (.iload_n 1, 1) := by decide +kernel
theorem dX9_whoKnowsAny_10 : decode cX9_whoKnowsAny 10 = .ok (.aload_n 0, 1) := by decide +kernel
theorem dX9_whoKnowsAny_11 : decode cX9_whoKnowsAny 11 = .ok (.iload_n 2, 1) := by decide +kernel
theorem dX9_whoKnowsAny_12 : decode cX9_whoKnowsAny 12 = .ok (.invokevirtual 50, 3) := by decide +kernel
theorem dX9_whoKnowsAny_15 : decode cX9_whoKnowsAny 15 = .ok (.ior, 1) := by decide +kernel
theorem dX9_whoKnowsAny_16 : decode cX9_whoKnowsAny 16 = .ok (.istore_n 1, 1) := by decide +kernel
theorem dX9_whoKnowsAny_17 : decode cX9_whoKnowsAny 17 = .ok (.iinc 2 1, 3) := by decide +kernel
theorem dX9_whoKnowsAny_20 : decode cX9_whoKnowsAny 20 = .ok (.goto (-16), 3) := by decide +kernel
theorem dX9_whoKnowsAny_23 : decode cX9_whoKnowsAny 23 = .ok (.iload_n 1, 1) := by decide +kernel
theorem dX9_whoKnowsAny_24 : decode cX9_whoKnowsAny 24 = .ok (.ireturn, 1) := by decide +kernel
theorem dX9_knownIn_0 : decode cX9_knownIn 0 = .ok (.iconst 0, 1) := by decide +kernel
theorem dX9_knownIn_1 : decode cX9_knownIn 1 = .ok (.istore_n 2, 1) := by decide +kernel
theorem dX9_knownIn_2 : decode cX9_knownIn 2 = .ok (.iconst 0, 1) := by decide +kernel
theorem dX9_knownIn_3 : decode cX9_knownIn 3 = .ok (.istore_n 3, 1) := by decide +kernel
theorem dX9_knownIn_4 : decode cX9_knownIn 4 = .ok (.iload_n 3, 1) := by decide +kernel
theorem dX9_knownIn_5 : decode cX9_knownIn 5 = .ok (.iconst 5, 1) := by decide +kernel
theorem dX9_knownIn_6 : decode cX9_knownIn 6 = .ok (.if_icmp .ge 28, 3) := by decide +kernel
theorem dX9_knownIn_9 : decode cX9_knownIn 9 = .ok (.aload_n 0, 1) := by decide +kernel
theorem dX9_knownIn_10 : decode cX9_knownIn 10 = .ok (.iload_n 3, 1) := by decide +kernel
theorem dX9_knownIn_11 : decode cX9_knownIn 11 = .ok (.invokevirtual 50, 3) := by decide +kernel
theorem dX9_knownIn_14 : decode cX9_knownIn 14 = .ok (.iload_n 1, 1) := by decide +kernel
theorem dX9_knownIn_15 : decode cX9_knownIn 15 = .ok (.invokestatic 52, 3) := by decide +kernel
theorem dX9_knownIn_18 : decode cX9_knownIn 18 = .ok (.ifCond .eq 10, 3) := by decide +kernel
theorem dX9_knownIn_21 : decode cX9_knownIn 21 = .ok (.iload_n 2, 1) := by decide +kernel
theorem dX9_knownIn_22 : decode cX9_knownIn 22 = .ok (.iload_n 3, 1) := by decide +kernel
theorem dX9_knownIn_23 : decode cX9_knownIn 23 = .ok (.invokestatic 39, 3) := by decide +kernel
theorem dX9_knownIn_26 : decode cX9_knownIn 26 = .ok (.ior, 1) := by decide +kernel
theorem dX9_knownIn_27 : decode cX9_knownIn 27 = .ok (.istore_n 2, 1) := by decide +kernel
theorem dX9_knownIn_28 : decode cX9_knownIn 28 = .ok (.iinc 3 1, 3) := by decide +kernel
theorem dX9_knownIn_31 : decode cX9_knownIn 31 = .ok (.goto (-27), 3) := by decide +kernel
theorem dX9_knownIn_34 : decode cX9_knownIn 34 = .ok (.iload_n 2, 1) := by decide +kernel
theorem dX9_knownIn_35 : decode cX9_knownIn 35 = .ok (.ireturn, 1) := by decide +kernel
theorem dX9_stepsGone_0 : decode cX9_stepsGone 0 = .ok (.aload_n 0, 1) := by decide +kernel
theorem dX9_stepsGone_1 : decode cX9_stepsGone 1 = .ok (.getfield 18, 3) := by decide +kernel
theorem dX9_stepsGone_4 : decode cX9_stepsGone 4 = .ok (.ireturn, 1) := by decide +kernel
theorem dX9_goOn_0 : decode cX9_goOn 0 = .ok (.aload_n 0, 1) := by decide +kernel
theorem dX9_goOn_1 : decode cX9_goOn 1 = .ok (.dup, 1) := by decide +kernel
theorem dX9_goOn_2 : decode cX9_goOn 2 = .ok (.getfield 18, 3) := by decide +kernel
theorem dX9_goOn_5 : decode cX9_goOn 5 = .ok (.iload_n 1, 1) := by decide +kernel
theorem dX9_goOn_6 : decode cX9_goOn 6 = .ok (.iadd, 1) := by decide +kernel
theorem dX9_goOn_7 : decode cX9_goOn 7 = .ok (.putfield 18, 3) := by decide +kernel
theorem dX9_goOn_10 : decode cX9_goOn 10 = .ok (.return_, 1) := by decide +kernel
theorem dX10_init_0 : decode cX10_init 0 = .ok (.aload_n 0, 1) := by decide +kernel
theorem dX10_init_1 : decode cX10_init 1 = .ok (.invokespecial 1, 3) := by decide +kernel
theorem dX10_init_4 : decode cX10_init 4 = .ok (.aload_n 0, 1) := by decide +kernel
theorem dX10_init_5 : decode cX10_init 5 = .ok (.new 7, 3) := by decide +kernel
theorem dX10_init_8 : decode cX10_init 8 = .ok (.dup, 1) := by decide +kernel
theorem dX10_init_9 : decode cX10_init 9 = .ok (.invokespecial 9, 3) := by decide +kernel
theorem dX10_init_12 : decode cX10_init 12 = .ok (.putfield 10, 3) := by decide +kernel
theorem dX10_init_15 : decode cX10_init 15 = .ok (.aload_n 0, 1) := by decide +kernel
theorem dX10_init_16 : decode cX10_init 16 = .ok (.new 16, 3) := by decide +kernel
theorem dX10_init_19 : decode cX10_init 19 = .ok (.dup, 1) := by decide +kernel
theorem dX10_init_20 : decode cX10_init 20 = .ok (.aload_n 0, 1) := by decide +kernel
theorem dX10_init_21 : decode cX10_init 21 = .ok (.getfield 10, 3) := by decide +kernel
theorem dX10_init_24 : decode cX10_init 24 = .ok (.invokespecial 18, 3) := by decide +kernel
theorem dX10_init_27 : decode cX10_init 27 = .ok (.putfield 21, 3) := by decide +kernel
theorem dX10_init_30 : decode cX10_init 30 = .ok (.aload_n 0, 1) := by decide +kernel
theorem dX10_init_31 : decode cX10_init 31 = .ok (.new 25, 3) := by decide +kernel
theorem dX10_init_34 : decode cX10_init 34 = .ok (.dup, 1) := by decide +kernel
theorem dX10_init_35 : decode cX10_init 35 = .ok (.invokespecial 27, 3) := by decide +kernel
theorem dX10_init_38 : decode cX10_init 38 = .ok (.putfield 28, 3) := by decide +kernel
theorem dX10_init_41 : decode cX10_init 41 = .ok (.aload_n 0, 1) := by decide +kernel
theorem dX10_init_42 : decode cX10_init 42 = .ok (.new 25, 3) := by decide +kernel
theorem dX10_init_45 : decode cX10_init 45 = .ok (.dup, 1) := by decide +kernel
theorem dX10_init_46 : decode cX10_init 46 = .ok (.invokespecial 27, 3) := by decide +kernel
theorem dX10_init_49 : decode cX10_init 49 = .ok (.putfield 32, 3) := by decide +kernel
theorem dX10_init_52 : decode cX10_init 52 = .ok (.aload_n 0, 1) := by decide +kernel
theorem dX10_init_53 : decode cX10_init 53 = .ok (.new 35, 3) := by decide +kernel
theorem dX10_init_56 : decode cX10_init 56 = .ok (.dup, 1) := by decide +kernel
theorem dX10_init_57 : decode cX10_init 57 = .ok (.invokespecial 37, 3) := by decide +kernel
theorem dX10_init_60 : decode cX10_init 60 = .ok (.putfield 38, 3) := by decide +kernel
theorem dX10_init_63 : decode cX10_init 63 = .ok (.aload_n 0, 1) := by decide +kernel
theorem dX10_init_64 : decode cX10_init 64 = .ok (.new 42, 3) := by decide +kernel
theorem dX10_init_67 : decode cX10_init 67 = .ok (.dup, 1) := by decide +kernel
theorem dX10_init_68 : decode cX10_init 68 = .ok (.bipush 8, 2) := by decide +kernel
theorem dX10_init_70 : decode cX10_init 70 = .ok (.invokespecial 44, 3) := by decide +kernel
theorem dX10_init_73 : decode cX10_init 73 = .ok (.putfield 47, 3) := by decide +kernel
theorem dX10_init_76 : decode cX10_init 76 = .ok (.aload_n 0, 1) := by decide +kernel
theorem dX10_init_77 : decode cX10_init 77 = .ok (.new 42, 3) := by decide +kernel
theorem dX10_init_80 : decode cX10_init 80 = .ok (.dup, 1) := by decide +kernel
theorem dX10_init_81 : decode cX10_init 81 = .ok (.iconst 2, 1) := by decide +kernel
theorem dX10_init_82 : decode cX10_init 82 = .ok (.invokespecial 44, 3) := by decide +kernel
theorem dX10_init_85 : decode cX10_init 85 = .ok (.putfield 51, 3) := by decide +kernel
theorem dX10_init_88 : decode cX10_init 88 = .ok (.aload_n 0, 1) := by decide +kernel
theorem dX10_init_89 : decode cX10_init 89 = .ok (.new 54, 3) := by decide +kernel
theorem dX10_init_92 : decode cX10_init 92 = .ok (.dup, 1) := by decide +kernel
theorem dX10_init_93 : decode cX10_init 93 = .ok (.aload_n 0, 1) := by decide +kernel
theorem dX10_init_94 : decode cX10_init 94 = .ok (.getfield 32, 3) := by decide +kernel
theorem dX10_init_97 : decode cX10_init 97 = .ok (.aload_n 0, 1) := by decide +kernel
theorem dX10_init_98 : decode cX10_init 98 = .ok (.getfield 38, 3) := by decide +kernel
theorem dX10_init_101 : decode cX10_init 101 = .ok (.invokespecial 56, 3) := by decide +kernel
theorem dX10_init_104 : decode cX10_init 104 = .ok (.putfield 59, 3) := by decide +kernel
theorem dX10_init_107 : decode cX10_init 107 = .ok (.aload_n 0, 1) := by decide +kernel
theorem dX10_init_108 : decode cX10_init 108 = .ok (.new 63, 3) := by decide +kernel
theorem dX10_init_111 : decode cX10_init 111 = .ok (.dup, 1) := by decide +kernel
theorem dX10_init_112 : decode cX10_init 112 = .ok (.aload_n 0, 1) := by decide +kernel
theorem dX10_init_113 : decode cX10_init 113 = .ok (.getfield 32, 3) := by decide +kernel
theorem dX10_init_116 : decode cX10_init 116 = .ok (.aload_n 0, 1) := by decide +kernel
theorem dX10_init_117 : decode cX10_init 117 = .ok (.getfield 38, 3) := by decide +kernel
theorem dX10_init_120 : decode cX10_init 120 = .ok (.aload_n 0, 1) := by decide +kernel
theorem dX10_init_121 : decode cX10_init 121 = .ok (.getfield 59, 3) := by decide +kernel
theorem dX10_init_124 : decode cX10_init 124 = .ok (.invokespecial 65, 3) := by decide +kernel
theorem dX10_init_127 : decode cX10_init 127 = .ok (.putfield 68, 3) := by decide +kernel
theorem dX10_init_130 : decode cX10_init 130 = .ok (.aload_n 0, 1) := by decide +kernel
theorem dX10_init_131 : decode cX10_init 131 = .ok (.new 72, 3) := by decide +kernel
theorem dX10_init_134 : decode cX10_init 134 = .ok (.dup, 1) := by decide +kernel
theorem dX10_init_135 : decode cX10_init 135 = .ok (.aload_n 0, 1) := by decide +kernel
theorem dX10_init_136 : decode cX10_init 136 = .ok (.getfield 32, 3) := by decide +kernel
theorem dX10_init_139 : decode cX10_init 139 = .ok (.aload_n 0, 1) := by decide +kernel
theorem dX10_init_140 : decode cX10_init 140 = .ok (.getfield 38, 3) := by decide +kernel
theorem dX10_init_143 : decode cX10_init 143 = .ok (.aload_n 0, 1) := by decide +kernel
theorem dX10_init_144 : decode cX10_init 144 = .ok (.getfield 59, 3) := by decide +kernel
theorem dX10_init_147 : decode cX10_init 147 = .ok (.invokespecial 74, 3) := by decide +kernel
theorem dX10_init_150 : decode cX10_init 150 = .ok (.putfield 75, 3) := by decide +kernel
theorem dX10_init_153 : decode cX10_init 153 = .ok (.aload_n 0, 1) := by decide +kernel
theorem dX10_init_154 : decode cX10_init 154 = .ok (.new 79, 3) := by decide +kernel
theorem dX10_init_157 : decode cX10_init 157 = .ok (.dup, 1) := by decide +kernel
theorem dX10_init_158 : decode cX10_init 158 = .ok (.aload_n 0, 1) := by decide +kernel
theorem dX10_init_159 : decode cX10_init 159 = .ok (.getfield 32, 3) := by decide +kernel
theorem dX10_init_162 : decode cX10_init 162 = .ok (.aload_n 0, 1) := by decide +kernel
theorem dX10_init_163 : decode cX10_init 163 = .ok (.getfield 59, 3) := by decide +kernel
theorem dX10_init_166 : decode cX10_init 166 = .ok (.invokespecial 81, 3) := by decide +kernel
theorem dX10_init_169 : decode cX10_init 169 = .ok (.putfield 84, 3) := by decide +kernel
theorem dX10_init_172 : decode cX10_init 172 = .ok (.aload_n 0, 1) := by decide +kernel
theorem dX10_init_173 : decode cX10_init 173 = .ok (.new 88, 3) := by decide +kernel
theorem dX10_init_176 : decode cX10_init 176 = .ok (.dup, 1) := by decide +kernel
theorem dX10_init_177 : decode cX10_init 177 = .ok (.aload_n 0, 1) := by decide +kernel
theorem dX10_init_178 : decode cX10_init 178 = .ok (.getfield 32, 3) := by decide +kernel
theorem dX10_init_181 : decode cX10_init 181 = .ok (.aload_n 0, 1) := by decide +kernel
theorem dX10_init_182 : decode cX10_init 182 = .ok (.getfield 59, 3) := by decide +kernel
theorem dX10_init_185 : decode cX10_init 185 = .ok (.invokespecial 90, 3) := by decide +kernel
theorem dX10_init_188 : decode cX10_init 188 = .ok (.putfield 91, 3) := by decide +kernel
theorem dX10_init_191 : decode cX10_init 191 = .ok (.iconst 0, 1) := by decide +kernel
theorem dX10_init_192 : decode cX10_init 192 = .ok (.istore_n 1, 1) := by decide +kernel
theorem dX10_init_193 : decode cX10_init 193 = .ok (.iload_n 1, 1) := by decide +kernel
theorem dX10_init_194 : decode cX10_init 194 = .ok (.ldc 95, 2) := by decide +kernel
theorem dX10_init_196 : decode cX10_init 196 = .ok (.invokevirtual 97, 3) := by decide +kernel
theorem dX10_init_199 : decode cX10_init 199 = .ok (.if_icmp .ge 23, 3) := by decide +kernel
theorem dX10_init_202 : decode cX10_init 202 = .ok (.aload_n 0, 1) := by decide +kernel
theorem dX10_init_203 : decode cX10_init 203 = .ok (.getfield 10, 3) := by decide +kernel
theorem dX10_init_206 : decode cX10_init 206 = .ok (.ldc 95, 2) := by decide +kernel
theorem dX10_init_208 : decode cX10_init 208 = .ok (.iload_n 1, 1) := by decide +kernel
theorem dX10_init_209 : decode cX10_init 209 = .ok (.invokevirtual 103, 3) := by decide +kernel
theorem dX10_init_212 : decode cX10_init 212 = .ok (.invokevirtual 107, 3) := by decide +kernel
theorem dX10_init_215 : decode cX10_init 215 = .ok (.pop, 1) := by decide +kernel
theorem dX10_init_216 : decode cX10_init 216 = .ok (.iinc 1 1, 3) := by decide +kernel
theorem dX10_init_219 : decode cX10_init 219 = .ok (.goto (-26), 3) := by decide +kernel
theorem dX10_init_222 : decode cX10_init 222 = .ok (.aload_n 0, 1) := by decide +kernel
theorem dX10_init_223 : decode cX10_init 223 = .ok (.invokevirtual 111, 3) := by decide +kernel
theorem dX10_init_226 : decode cX10_init 226 = .ok (.pop, 1) := by decide +kernel
theorem dX10_init_227 : decode cX10_init 227 = .ok (.aload_n 0, 1) := by decide +kernel
theorem dX10_init_228 : decode cX10_init 228 = .ok (.getfield 10, 3) := by decide +kernel
theorem dX10_init_231 : decode cX10_init 231 = .ok (.invokevirtual 115, 3) := by decide +kernel
theorem dX10_init_234 : decode cX10_init 234 = .ok (.return_, 1) := by decide +kernel
theorem dX10_write_0 : decode cX10_write 0 = .ok (.iload_n 1, 1) := by decide +kernel
theorem dX10_write_1 : decode cX10_write 1 = .ok (.bipush 32, 2) := by decide +kernel
theorem dX10_write_3 : decode cX10_write 3 = .ok (.bipush 126, 2) := by decide +kernel
theorem dX10_write_5 : decode cX10_write 5 = .ok (.invokestatic 118, 3) := by decide +kernel
theorem dX10_write_8 : decode cX10_write 8 = .ok (.ifCond .ne 5, 3) := by decide +kernel
theorem dX10_write_11 : decode cX10_write 11 = .ok (.iconst (-1), 1) := by decide +kernel
theorem dX10_write_12 : decode cX10_write 12 = .ok (.ireturn, 1) := by decide +kernel
theorem dX10_write_13 : decode cX10_write 13 = .ok (.aload_n 0, 1) := by decide +kernel
theorem dX10_write_14 : decode cX10_write 14 = .ok (.getfield 10, 3) := by decide +kernel
theorem dX10_write_17 : decode cX10_write 17 = .ok (.iload_n 1, 1) := by decide +kernel
theorem dX10_write_18 : decode cX10_write 18 = .ok (.invokevirtual 107, 3) := by decide +kernel
theorem dX10_write_21 : decode cX10_write 21 = .ok (.ifCond .eq 13, 3) := by decide +kernel
theorem dX10_write_24 : decode cX10_write 24 = .ok (.aload_n 0, 1) := by decide +kernel
theorem dX10_write_25 : decode cX10_write 25 = .ok (.getfield 10, 3) := by decide +kernel
theorem dX10_write_28 : decode cX10_write 28 = .ok (.invokevirtual 122, 3) := by decide +kernel
theorem dX10_write_31 : decode cX10_write 31 = .ok (.goto 5, 3) := by decide +kernel
theorem dX10_write_34 : decode cX10_write 34 = .ok (.bipush (-3), 2) := by decide +kernel
theorem dX10_write_36 : decode cX10_write 36 = .ok (.ireturn, 1) := by decide +kernel
theorem dX10_wipe_0 : decode cX10_wipe 0 = .ok (.aload_n 0, 1) := by decide +kernel
theorem dX10_wipe_1 : decode cX10_wipe 1 = .ok (.getfield 10, 3) := by decide +kernel
theorem dX10_wipe_4 : decode cX10_wipe 4 = .ok (.invokevirtual 122, 3) := by decide +kernel
theorem dX10_wipe_7 : decode cX10_wipe 7 = .ok (.istore_n 1, 1) := by decide +kernel
theorem dX10_wipe_8 : decode cX10_wipe 8 = .ok (.aload_n 0, 1) := by decide +kernel
theorem dX10_wipe_9 : decode cX10_wipe 9 = .ok (.getfield 10, 3) := by decide +kernel
theorem dX10_wipe_12 : decode cX10_wipe 12 = .ok (.invokevirtual 115, 3) := by decide +kernel
theorem dX10_wipe_15 : decode cX10_wipe 15 = .ok (.iload_n 1, 1) := by decide +kernel
theorem dX10_wipe_16 : decode cX10_wipe 16 = .ok (.ireturn, 1) := by decide +kernel
theorem dX10_fault_0 : decode cX10_fault 0 = .ok (.aload_n 0, 1) := by decide +kernel
theorem dX10_fault_1 : decode cX10_fault 1 = .ok (.getfield 21, 3) := by decide +kernel
theorem dX10_fault_4 : decode cX10_fault 4 = .ok (.aload_n 0, 1) := by decide +kernel
theorem dX10_fault_5 : decode cX10_fault 5 = .ok (.getfield 28, 3) := by decide +kernel
theorem dX10_fault_8 : decode cX10_fault 8 = .ok (.invokevirtual 123, 3) := by decide +kernel
theorem dX10_fault_11 : decode cX10_fault 11 = .ok (.ireturn, 1) := by decide +kernel
theorem dX10_lay_0 : decode cX10_lay 0 = .ok (.aload_n 0, 1) := by decide +kernel
theorem dX10_lay_1 : decode cX10_lay 1 = .ok (.invokevirtual 111, 3) := by decide +kernel
theorem dX10_lay_4 : decode cX10_lay 4 = .ok (.ifCond .eq 13, 3) := by decide +kernel
theorem dX10_lay_7 : decode cX10_lay 7 = .ok (.aload_n 0, 1) := by decide +kernel
theorem dX10_lay_8 : decode cX10_lay 8 = .ok (.getfield 32, 3) := by decide +kernel
theorem dX10_lay_11 : decode cX10_lay 11 = .ok (.invokevirtual 127, 3) := by decide +kernel
theorem dX10_lay_14 : decode cX10_lay 14 = .ok (.goto 5, 3) := by decide +kernel
theorem dX10_lay_17 : decode cX10_lay 17 = .ok (.bipush (-2), 2) := by decide +kernel
theorem dX10_lay_19 : decode cX10_lay 19 = .ok (.ireturn, 1) := by decide +kernel
theorem dX10_house_0 : decode cX10_house 0 = .ok (.aload_n 0, 1) := by decide +kernel
theorem dX10_house_1 : decode cX10_house 1 = .ok (.getfield 32, 3) := by decide +kernel
theorem dX10_house_4 : decode cX10_house 4 = .ok (.iload_n 1, 1) := by decide +kernel
theorem dX10_house_5 : decode cX10_house 5 = .ok (.invokevirtual 130, 3) := by decide +kernel
theorem dX10_house_8 : decode cX10_house 8 = .ok (.ifCond .ne 5, 3) := by decide +kernel
theorem dX10_house_11 : decode cX10_house 11 = .ok (.iconst (-1), 1) := by decide +kernel
theorem dX10_house_12 : decode cX10_house 12 = .ok (.ireturn, 1) := by decide +kernel
theorem dX10_house_13 : decode cX10_house 13 = .ok (.iload_n 2, 1) := by decide +kernel
theorem dX10_house_14 : decode cX10_house 14 = .ok (.tableswitch 53 0 2 #[26, 35, 44], 26) := by decide +kernel
theorem dX10_house_40 : decode cX10_house 40 = .ok (.aload_n 0, 1) := by decide +kernel
theorem dX10_house_41 : decode cX10_house 41 = .ok (.getfield 32, 3) := by decide +kernel
theorem dX10_house_44 : decode cX10_house 44 = .ok (.iload_n 1, 1) := by decide +kernel
theorem dX10_house_45 : decode cX10_house 45 = .ok (.invokevirtual 133, 3) := by decide +kernel
theorem dX10_house_48 : decode cX10_house 48 = .ok (.ireturn, 1) := by decide +kernel
theorem dX10_house_49 : decode cX10_house 49 = .ok (.aload_n 0, 1) := by decide +kernel
theorem dX10_house_50 : decode cX10_house 50 = .ok (.getfield 38, 3) := by decide +kernel
theorem dX10_house_53 : decode cX10_house 53 = .ok (.iload_n 1, 1) := by decide +kernel
theorem dX10_house_54 : decode cX10_house 54 = .ok (.invokevirtual 137, 3) := by decide +kernel
theorem dX10_house_57 : decode cX10_house 57 = .ok (.ireturn, 1) := by decide +kernel
theorem dX10_house_58 : decode cX10_house 58 = .ok (.aload_n 0, 1) := by decide +kernel
theorem dX10_house_59 : decode cX10_house 59 = .ok (.getfield 38, 3) := by decide +kernel
theorem dX10_house_62 : decode cX10_house 62 = .ok (.iload_n 1, 1) := by decide +kernel
theorem dX10_house_63 : decode cX10_house 63 = .ok (.invokevirtual 140, 3) := by decide +kernel
theorem dX10_house_66 : decode cX10_house 66 = .ok (.ireturn, 1) := by decide +kernel
theorem dX10_house_67 : decode cX10_house 67 = .ok (.iconst (-1), 1) := by decide +kernel
theorem dX10_house_68 : decode cX10_house 68 = .ok (.ireturn, 1) := by decide +kernel
theorem dX10_news_0 : decode cX10_news 0 = .ok (.aload_n 0, 1) := by decide +kernel
theorem dX10_news_1 : decode cX10_news 1 = .ok (.getfield 32, 3) := by decide +kernel
theorem dX10_news_4 : decode cX10_news 4 = .ok (.iload_n 1, 1) := by decide +kernel
theorem dX10_news_5 : decode cX10_news 5 = .ok (.invokevirtual 143, 3) := by decide +kernel
theorem dX10_news_8 : decode cX10_news 8 = .ok (.ifCond .ne 5, 3) := by decide +kernel
theorem dX10_news_11 : decode cX10_news 11 = .ok (.iconst (-1), 1) := by decide +kernel
theorem dX10_news_12 : decode cX10_news 12 = .ok (.ireturn, 1) := by decide +kernel
theorem dX10_news_13 : decode cX10_news 13 = .ok (.iload_n 2, 1) := by decide +kernel
theorem dX10_news_14 : decode cX10_news 14 = .ok (.tableswitch 69 0 3 #[30, 39, 48, 57], 30) := by decide +kernel
theorem dX10_news_44 : decode cX10_news 44 = .ok (.aload_n 0, 1) := by decide +kernel
theorem dX10_news_45 : decode cX10_news 45 = .ok (.getfield 32, 3) := by decide +kernel
theorem dX10_news_48 : decode cX10_news 48 = .ok (.iload_n 1, 1) := by decide +kernel
theorem dX10_news_49 : decode cX10_news 49 = .ok (.invokevirtual 146, 3) := by decide +kernel
theorem dX10_news_52 : decode cX10_news 52 = .ok (.ireturn, 1) := by decide +kernel
theorem dX10_news_53 : decode cX10_news 53 = .ok (.aload_n 0, 1) := by decide +kernel
theorem dX10_news_54 : decode cX10_news 54 = .ok (.getfield 32, 3) := by decide +kernel
theorem dX10_news_57 : decode cX10_news 57 = .ok (.iload_n 1, 1) := by decide +kernel
theorem dX10_news_58 : decode cX10_news 58 = .ok (.invokevirtual 149, 3) := by decide +kernel
theorem dX10_news_61 : decode cX10_news 61 = .ok (.ireturn, 1) := by decide +kernel
theorem dX10_news_62 : decode cX10_news 62 = .ok (.aload_n 0, 1) := by decide +kernel
theorem dX10_news_63 : decode cX10_news 63 = .ok (.getfield 32, 3) := by decide +kernel
theorem dX10_news_66 : decode cX10_news 66 = .ok (.iload_n 1, 1) := by decide +kernel
theorem dX10_news_67 : decode cX10_news 67 = .ok (.invokevirtual 152, 3) := by decide +kernel
theorem dX10_news_70 : decode cX10_news 70 = .ok (.ireturn, 1) := by decide +kernel
theorem dX10_news_71 : decode cX10_news 71 = .ok (.aload_n 0, 1) := by decide +kernel
theorem dX10_news_72 : decode cX10_news 72 = .ok (.getfield 38, 3) := by decide +kernel
theorem dX10_news_75 : decode cX10_news 75 = .ok (.iload_n 1, 1) := by decide +kernel
theorem dX10_news_76 : decode cX10_news 76 = .ok (.invokevirtual 155, 3) := by decide +kernel
theorem dX10_news_79 : decode cX10_news 79 = .ok (.invokestatic 158, 3) := by decide +kernel
theorem dX10_news_82 : decode cX10_news 82 = .ok (.ireturn, 1) := by decide +kernel
theorem dX10_news_83 : decode cX10_news 83 = .ok (.iconst (-1), 1) := by decide +kernel
theorem dX10_news_84 : decode cX10_news 84 = .ok (.ireturn, 1) := by decide +kernel
theorem dX10_wind_0 : decode cX10_wind 0 = .ok (.iload_n 1, 1) := by decide +kernel
theorem dX10_wind_1 : decode cX10_wind 1 = .ok (.iconst 0, 1) := by decide +kernel
theorem dX10_wind_2 : decode cX10_wind 2 = .ok (.bipush 99, 2) := by decide +kernel
theorem dX10_wind_4 : decode cX10_wind 4 = .ok (.invokestatic 118, 3) := by decide +kernel
theorem dX10_wind_7 : decode cX10_wind 7 = .ok (.ifCond .ne 5, 3) := by decide +kernel
theorem dX10_wind_10 : decode cX10_wind 10 = .ok (.iconst (-1), 1) := by decide +kernel
theorem dX10_wind_11 : decode cX10_wind 11 = .ok (.ireturn, 1) := by decide +kernel
theorem dX10_wind_12 : decode cX10_wind 12 = .ok (.aload_n 0, 1) := by decide +kernel
theorem dX10_wind_13 : decode cX10_wind 13 = .ok (.getfield 32, 3) := by decide +kernel
theorem dX10_wind_16 : decode cX10_wind 16 = .ok (.aload_n 0, 1) := by decide +kernel
theorem dX10_wind_17 : decode cX10_wind 17 = .ok (.getfield 38, 3) := by decide +kernel
theorem dX10_wind_20 : decode cX10_wind 20 = .ok (.invokevirtual 163, 3) := by decide +kernel
theorem dX10_wind_23 : decode cX10_wind 23 = .ok (.iload_n 1, 1) := by decide +kernel
theorem dX10_wind_24 : decode cX10_wind 24 = .ok (.iadd, 1) := by decide +kernel
theorem dX10_wind_25 : decode cX10_wind 25 = .ok (.invokevirtual 166, 3) := by decide +kernel
theorem dX10_wind_28 : decode cX10_wind 28 = .ok (.ireturn, 1) := by decide +kernel
theorem dX10_step_0 : decode cX10_step 0 = .ok (.iload_n 1, 1) := by decide +kernel
theorem dX10_step_1 : decode cX10_step 1 = .ok (.iconst 1, 1) := by decide +kernel
theorem dX10_step_2 : decode cX10_step 2 = .ok (.bipush 24, 2) := by decide +kernel
theorem dX10_step_4 : decode cX10_step 4 = .ok (.invokestatic 118, 3) := by decide +kernel
theorem dX10_step_7 : decode cX10_step 7 = .ok (.ifCond .ne 5, 3) := by decide +kernel
theorem dX10_step_10 : decode cX10_step 10 = .ok (.iconst (-1), 1) := by decide +kernel
theorem dX10_step_11 : decode cX10_step 11 = .ok (.ireturn, 1) := by decide +kernel
theorem dX10_step_12 : decode cX10_step 12 = .ok (.aload_n 0, 1) := by decide +kernel
theorem dX10_step_13 : decode cX10_step 13 = .ok (.getfield 47, 3) := by decide +kernel
theorem dX10_step_16 : decode cX10_step 16 = .ok (.aload_n 0, 1) := by decide +kernel
theorem dX10_step_17 : decode cX10_step 17 = .ok (.getfield 38, 3) := by decide +kernel
theorem dX10_step_20 : decode cX10_step 20 = .ok (.invokevirtual 169, 3) := by decide +kernel
theorem dX10_step_23 : decode cX10_step 23 = .ok (.iconst 0, 1) := by decide +kernel
theorem dX10_step_24 : decode cX10_step 24 = .ok (.istore_n 2, 1) := by decide +kernel
theorem dX10_step_25 : decode cX10_step 25 = .ok (.iload_n 2, 1) := by decide +kernel
theorem dX10_step_26 : decode cX10_step 26 = .ok (.aload_n 0, 1) := by decide +kernel
theorem dX10_step_27 : decode cX10_step 27 = .ok (.getfield 32, 3) := by decide +kernel
theorem dX10_step_30 : decode cX10_step 30 = .ok (.invokevirtual 173, 3) := by decide +kernel
theorem dX10_step_33 : decode cX10_step 33 = .ok (.if_icmp .ge 41, 3) := by decide +kernel
theorem dX10_step_36 : decode cX10_step 36 = .ok (.aload_n 0, 1) := by decide +kernel
theorem dX10_step_37 : decode cX10_step 37 = .ok (.getfield 59, 3) := by decide +kernel
theorem dX10_step_40 : decode cX10_step 40 = .ok (.iload_n 2, 1) := by decide +kernel
theorem dX10_step_41 : decode cX10_step 41 = .ok (.invokevirtual 176, 3) := by decide +kernel
theorem dX10_step_44 : decode cX10_step 44 = .ok (.aload_n 0, 1) := by decide +kernel
theorem dX10_step_45 : decode cX10_step 45 = .ok (.getfield 38, 3) := by decide +kernel
theorem dX10_step_48 : decode cX10_step 48 = .ok (.iload_n 2, 1) := by decide +kernel
theorem dX10_step_49 : decode cX10_step 49 = .ok (.aload_n 0, 1) := by decide +kernel
theorem dX10_step_50 : decode cX10_step 50 = .ok (.getfield 59, 3) := by decide +kernel
theorem dX10_step_53 : decode cX10_step 53 = .ok (.aload_n 0, 1) := by decide +kernel
theorem dX10_step_54 : decode cX10_step 54 = .ok (.getfield 59, 3) := by decide +kernel
theorem dX10_step_57 : decode cX10_step 57 = .ok (.invokevirtual 179, 3) := by decide +kernel
theorem dX10_step_60 : decode cX10_step 60 = .ok (.iconst 0, 1) := by decide +kernel
theorem dX10_step_61 : decode cX10_step 61 = .ok (.iload_n 1, 1) := by decide +kernel
theorem dX10_step_62 : decode cX10_step 62 = .ok (.invokevirtual 181, 3) := by decide +kernel
theorem dX10_step_65 : decode cX10_step 65 = .ok (.invokevirtual 185, 3) := by decide +kernel
theorem dX10_step_68 : decode cX10_step 68 = .ok (.iinc 2 1, 3) := by decide +kernel
theorem dX10_step_71 : decode cX10_step 71 = .ok (.goto (-46), 3) := by decide +kernel
theorem dX10_step_74 : decode cX10_step 74 = .ok (.aload_n 0, 1) := by decide +kernel
theorem dX10_step_75 : decode cX10_step 75 = .ok (.getfield 38, 3) := by decide +kernel
theorem dX10_step_78 : decode cX10_step 78 = .ok (.iload_n 1, 1) := by decide +kernel
theorem dX10_step_79 : decode cX10_step 79 = .ok (.invokevirtual 189, 3) := by decide +kernel
theorem dX10_step_82 : decode cX10_step 82 = .ok (.aload_n 0, 1) := by decide +kernel
theorem dX10_step_83 : decode cX10_step 83 = .ok (.getfield 38, 3) := by decide +kernel
theorem dX10_step_86 : decode cX10_step 86 = .ok (.invokevirtual 163, 3) := by decide +kernel
theorem dX10_step_89 : decode cX10_step 89 = .ok (.ireturn, 1) := by decide +kernel
theorem dX10_open_0 : decode cX10_open 0 = .ok (.aload_n 0, 1) := by decide +kernel
theorem dX10_open_1 : decode cX10_open 1 = .ok (.getfield 32, 3) := by decide +kernel
theorem dX10_open_4 : decode cX10_open 4 = .ok (.iload_n 1, 1) := by decide +kernel
theorem dX10_open_5 : decode cX10_open 5 = .ok (.invokevirtual 130, 3) := by decide +kernel
theorem dX10_open_8 : decode cX10_open 8 = .ok (.ifCond .eq 10, 3) := by decide +kernel
theorem dX10_open_11 : decode cX10_open 11 = .ok (.iload_n 2, 1) := by decide +kernel
theorem dX10_open_12 : decode cX10_open 12 = .ok (.invokestatic 192, 3) := by decide +kernel
theorem dX10_open_15 : decode cX10_open 15 = .ok (.ifCond .ne 5, 3) := by decide +kernel
theorem dX10_open_18 : decode cX10_open 18 = .ok (.iconst (-1), 1) := by decide +kernel
theorem dX10_open_19 : decode cX10_open 19 = .ok (.ireturn, 1) := by decide +kernel
theorem dX10_open_20 : decode cX10_open 20 = .ok (.aload_n 0, 1) := by decide +kernel
theorem dX10_open_21 : decode cX10_open 21 = .ok (.getfield 38, 3) := by decide +kernel
theorem dX10_open_24 : decode cX10_open 24 = .ok (.iload_n 1, 1) := by decide +kernel
theorem dX10_open_25 : decode cX10_open 25 = .ok (.invokevirtual 137, 3) := by decide +kernel
theorem dX10_open_28 : decode cX10_open 28 = .ok (.istore_n 3, 1) := by decide +kernel
theorem dX10_open_29 : decode cX10_open 29 = .ok (.aload_n 0, 1) := by decide +kernel
theorem dX10_open_30 : decode cX10_open 30 = .ok (.getfield 47, 3) := by decide +kernel
theorem dX10_open_33 : decode cX10_open 33 = .ok (.aload_n 0, 1) := by decide +kernel
theorem dX10_open_34 : decode cX10_open 34 = .ok (.getfield 38, 3) := by decide +kernel
theorem dX10_open_37 : decode cX10_open 37 = .ok (.invokevirtual 169, 3) := by decide +kernel
theorem dX10_open_40 : decode cX10_open 40 = .ok (.aload_n 0, 1) := by decide +kernel
theorem dX10_open_41 : decode cX10_open 41 = .ok (.getfield 38, 3) := by decide +kernel
theorem dX10_open_44 : decode cX10_open 44 = .ok (.iload_n 1, 1) := by decide +kernel
theorem dX10_open_45 : decode cX10_open 45 = .ok (.iload_n 2, 1) := by decide +kernel
theorem dX10_open_46 : decode cX10_open 46 = .ok (.invokevirtual 195, 3) := by decide +kernel
theorem dX10_open_49 : decode cX10_open 49 = .ok (.iload_n 3, 1) := by decide +kernel
theorem dX10_open_50 : decode cX10_open 50 = .ok (.ireturn, 1) := by decide +kernel
theorem dX10_tell_0 : decode cX10_tell 0 = .ok (.aload_n 0, 1) := by decide +kernel
theorem dX10_tell_1 : decode cX10_tell 1 = .ok (.getfield 32, 3) := by decide +kernel
theorem dX10_tell_4 : decode cX10_tell 4 = .ok (.iload_n 1, 1) := by decide +kernel
theorem dX10_tell_5 : decode cX10_tell 5 = .ok (.invokevirtual 130, 3) := by decide +kernel
theorem dX10_tell_8 : decode cX10_tell 8 = .ok (.ifCond .eq 14, 3) := by decide +kernel
theorem dX10_tell_11 : decode cX10_tell 11 = .ok (.aload_n 0, 1) := by decide +kernel
theorem dX10_tell_12 : decode cX10_tell 12 = .ok (.getfield 32, 3) := by decide +kernel
theorem dX10_tell_15 : decode cX10_tell 15 = .ok (.iload_n 2, 1) := by decide +kernel
theorem dX10_tell_16 : decode cX10_tell 16 = .ok (.invokevirtual 143, 3) := by decide +kernel
theorem dX10_tell_19 : decode cX10_tell 19 = .ok (.ifCond .ne 5, 3) := by decide +kernel
theorem dX10_tell_22 : decode cX10_tell 22 = .ok (.iconst (-1), 1) := by decide +kernel
theorem dX10_tell_23 : decode cX10_tell 23 = .ok (.ireturn, 1) := by decide +kernel
theorem dX10_tell_24 : decode cX10_tell 24 = .ok (.aload_n 0, 1) := by decide +kernel
theorem dX10_tell_25 : decode cX10_tell 25 = .ok (.getfield 38, 3) := by decide +kernel
theorem dX10_tell_28 : decode cX10_tell 28 = .ok (.iload_n 2, 1) := by decide +kernel
theorem dX10_tell_29 : decode cX10_tell 29 = .ok (.invokevirtual 155, 3) := by decide +kernel
theorem dX10_tell_32 : decode cX10_tell 32 = .ok (.istore_n 3, 1) := by decide +kernel
theorem dX10_tell_33 : decode cX10_tell 33 = .ok (.iload_n 3, 1) := by decide +kernel
theorem dX10_tell_34 : decode cX10_tell 34 = .ok (.iload_n 1, 1) := by decide +kernel
theorem dX10_tell_35 : decode cX10_tell 35 = .ok (.invokestatic 198, 3) := by decide +kernel
theorem dX10_tell_38 : decode cX10_tell 38 = .ok (.ifCond .eq 6, 3) := by decide +kernel
theorem dX10_tell_41 : decode cX10_tell 41 = .ok (.bipush (-2), 2) := by decide +kernel
theorem dX10_tell_43 : decode cX10_tell 43 = .ok (.ireturn, 1) := by decide +kernel
theorem dX10_tell_44 : decode cX10_tell 44 = .ok (.aload_n 0, 1) := by decide +kernel
theorem dX10_tell_45 : decode cX10_tell 45 = .ok (.getfield 47, 3) := by decide +kernel
theorem dX10_tell_48 : decode cX10_tell 48 = .ok (.aload_n 0, 1) := by decide +kernel
theorem dX10_tell_49 : decode cX10_tell 49 = .ok (.getfield 38, 3) := by decide +kernel
theorem dX10_tell_52 : decode cX10_tell 52 = .ok (.invokevirtual 169, 3) := by decide +kernel
theorem dX10_tell_55 : decode cX10_tell 55 = .ok (.aload_n 0, 1) := by decide +kernel
theorem dX10_tell_56 : decode cX10_tell 56 = .ok (.getfield 38, 3) := by decide +kernel
theorem dX10_tell_59 : decode cX10_tell 59 = .ok (.iload_n 2, 1) := by decide +kernel
theorem dX10_tell_60 : decode cX10_tell 60 = .ok (.iload_n 3, 1) := by decide +kernel
theorem dX10_tell_61 : decode cX10_tell 61 = .ok (.iload_n 1, 1) := by decide +kernel
theorem dX10_tell_62 : decode cX10_tell 62 = .ok (.invokestatic 202, 3) := by decide +kernel
theorem dX10_tell_65 : decode cX10_tell 65 = .ok (.ior, 1) := by decide +kernel
theorem dX10_tell_66 : decode cX10_tell 66 = .ok (.invokevirtual 185, 3) := by decide +kernel
theorem dX10_tell_69 : decode cX10_tell 69 = .ok (.iload_n 3, 1) := by decide +kernel
theorem dX10_tell_70 : decode cX10_tell 70 = .ok (.iload_n 1, 1) := by decide +kernel
theorem dX10_tell_71 : decode cX10_tell 71 = .ok (.invokestatic 202, 3) := by decide +kernel
theorem dX10_tell_74 : decode cX10_tell 74 = .ok (.ior, 1) := by decide +kernel
theorem dX10_tell_75 : decode cX10_tell 75 = .ok (.invokestatic 158, 3) := by decide +kernel
theorem dX10_tell_78 : decode cX10_tell 78 = .ok (.ireturn, 1) := by decide +kernel
theorem dX10_undo_0 : decode cX10_undo 0 = .ok (.aload_n 0, 1) := by decide +kernel
theorem dX10_undo_1 : decode cX10_undo 1 = .ok (.getfield 47, 3) := by decide +kernel
theorem dX10_undo_4 : decode cX10_undo 4 = .ok (.aload_n 0, 1) := by decide +kernel
theorem dX10_undo_5 : decode cX10_undo 5 = .ok (.getfield 38, 3) := by decide +kernel
theorem dX10_undo_8 : decode cX10_undo 8 = .ok (.invokevirtual 205, 3) := by decide +kernel
theorem dX10_undo_11 : decode cX10_undo 11 = .ok (.ifCond .eq 13, 3) := by decide +kernel
theorem dX10_undo_14 : decode cX10_undo 14 = .ok (.aload_n 0, 1) := by decide +kernel
theorem dX10_undo_15 : decode cX10_undo 15 = .ok (.getfield 47, 3) := by decide +kernel
theorem dX10_undo_18 : decode cX10_undo 18 = .ok (.invokevirtual 209, 3) := by decide +kernel
theorem dX10_undo_21 : decode cX10_undo 21 = .ok (.goto 5, 3) := by decide +kernel
theorem dX10_undo_24 : decode cX10_undo 24 = .ok (.bipush (-2), 2) := by decide +kernel
theorem dX10_undo_26 : decode cX10_undo 26 = .ok (.ireturn, 1) := by decide +kernel
theorem dX10_behind_0 : decode cX10_behind 0 = .ok (.iload_n 1, 1) := by decide +kernel
theorem dX10_behind_1 : decode cX10_behind 1 = .ok (.iconst 0, 1) := by decide +kernel
theorem dX10_behind_2 : decode cX10_behind 2 = .ok (.bipush 48, 2) := by decide +kernel
theorem dX10_behind_4 : decode cX10_behind 4 = .ok (.invokestatic 118, 3) := by decide +kernel
theorem dX10_behind_7 : decode cX10_behind 7 = .ok (.ifCond .eq 14, 3) := by decide +kernel
theorem dX10_behind_10 : decode cX10_behind 10 = .ok (.aload_n 0, 1) := by decide +kernel
theorem dX10_behind_11 : decode cX10_behind 11 = .ok (.getfield 32, 3) := by decide +kernel
theorem dX10_behind_14 : decode cX10_behind 14 = .ok (.iload_n 2, 1) := by decide +kernel
theorem dX10_behind_15 : decode cX10_behind 15 = .ok (.invokevirtual 130, 3) := by decide +kernel
theorem dX10_behind_18 : decode cX10_behind 18 = .ok (.ifCond .ne 5, 3) := by decide +kernel
theorem dX10_behind_21 : decode cX10_behind 21 = .ok (.iconst (-1), 1) := by decide +kernel
theorem dX10_behind_22 : decode cX10_behind 22 = .ok (.ireturn, 1) := by decide +kernel
theorem dX10_behind_23 : decode cX10_behind 23 = .ok (.aload_n 0, 1) := by decide +kernel
theorem dX10_behind_24 : decode cX10_behind 24 = .ok (.getfield 68, 3) := by decide +kernel
theorem dX10_behind_27 : decode cX10_behind 27 = .ok (.iload_n 1, 1) := by decide +kernel
theorem dX10_behind_28 : decode cX10_behind 28 = .ok (.iload_n 2, 1) := by decide +kernel
theorem dX10_behind_29 : decode cX10_behind 29 = .ok (.invokevirtual 212, 3) := by decide +kernel
theorem dX10_behind_32 : decode cX10_behind 32 = .ok (.ireturn, 1) := by decide +kernel
theorem dX10_when_0 : decode cX10_when 0 = .ok (.aload_n 0, 1) := by decide +kernel
theorem dX10_when_1 : decode cX10_when 1 = .ok (.getfield 32, 3) := by decide +kernel
theorem dX10_when_4 : decode cX10_when 4 = .ok (.iload_n 1, 1) := by decide +kernel
theorem dX10_when_5 : decode cX10_when 5 = .ok (.invokevirtual 130, 3) := by decide +kernel
theorem dX10_when_8 : decode cX10_when 8 = .ok (.ifCond .eq 14, 3) := by decide +kernel
theorem dX10_when_11 : decode cX10_when 11 = .ok (.aload_n 0, 1) := by decide +kernel
theorem dX10_when_12 : decode cX10_when 12 = .ok (.getfield 32, 3) := by decide +kernel
theorem dX10_when_15 : decode cX10_when 15 = .ok (.iload_n 2, 1) := by decide +kernel
theorem dX10_when_16 : decode cX10_when 16 = .ok (.invokevirtual 143, 3) := by decide +kernel
theorem dX10_when_19 : decode cX10_when 19 = .ok (.ifCond .ne 5, 3) := by decide +kernel
theorem dX10_when_22 : decode cX10_when 22 = .ok (.iconst (-1), 1) := by decide +kernel
theorem dX10_when_23 : decode cX10_when 23 = .ok (.ireturn, 1) := by decide +kernel
theorem dX10_when_24 : decode cX10_when 24 = .ok (.aload_n 0, 1) := by decide +kernel
theorem dX10_when_25 : decode cX10_when 25 = .ok (.getfield 68, 3) := by decide +kernel
theorem dX10_when_28 : decode cX10_when 28 = .ok (.iload_n 1, 1) := by decide +kernel
theorem dX10_when_29 : decode cX10_when 29 = .ok (.iload_n 2, 1) := by decide +kernel
theorem dX10_when_30 : decode cX10_when 30 = .ok (.invokevirtual 216, 3) := by decide +kernel
theorem dX10_when_33 : decode cX10_when 33 = .ok (.ireturn, 1) := by decide +kernel
theorem dX10_last_0 : decode cX10_last 0 = .ok (.aload_n 0, 1) := by decide +kernel
theorem dX10_last_1 : decode cX10_last 1 = .ok (.getfield 32, 3) := by decide +kernel
theorem dX10_last_4 : decode cX10_last 4 = .ok (.iload_n 1, 1) := by decide +kernel
theorem dX10_last_5 : decode cX10_last 5 = .ok (.invokevirtual 143, 3) := by decide +kernel
theorem dX10_last_8 : decode cX10_last 8 = .ok (.ifCond .eq 12, 3) := by decide +kernel
theorem dX10_last_11 : decode cX10_last 11 = .ok (.iload_n 2, 1) := by decide +kernel
theorem dX10_last_12 : decode cX10_last 12 = .ok (.iconst 0, 1) := by decide +kernel
theorem dX10_last_13 : decode cX10_last 13 = .ok (.iconst 1, 1) := by decide +kernel
theorem dX10_last_14 : decode cX10_last 14 = .ok (.invokestatic 118, 3) := by decide +kernel
theorem dX10_last_17 : decode cX10_last 17 = .ok (.ifCond .ne 5, 3) := by decide +kernel
theorem dX10_last_20 : decode cX10_last 20 = .ok (.iconst (-1), 1) := by decide +kernel
theorem dX10_last_21 : decode cX10_last 21 = .ok (.ireturn, 1) := by decide +kernel
theorem dX10_last_22 : decode cX10_last 22 = .ok (.aload_n 0, 1) := by decide +kernel
theorem dX10_last_23 : decode cX10_last 23 = .ok (.getfield 68, 3) := by decide +kernel
theorem dX10_last_26 : decode cX10_last 26 = .ok (.iload_n 1, 1) := by decide +kernel
theorem dX10_last_27 : decode cX10_last 27 = .ok (.invokevirtual 219, 3) := by decide +kernel
theorem dX10_last_30 : decode cX10_last 30 = .ok (.istore_n 3, 1) := by decide +kernel
theorem dX10_last_31 : decode cX10_last 31 = .ok (.iload_n 3, 1) := by decide +kernel
theorem dX10_last_32 : decode cX10_last 32 = .ok (.bipush (-4), 2) := by decide +kernel
theorem dX10_last_34 : decode cX10_last 34 = .ok (.if_icmp .ne 6, 3) := by decide +kernel
theorem dX10_last_37 : decode cX10_last 37 = .ok (.bipush (-4), 2) := by decide +kernel
theorem dX10_last_39 : decode cX10_last 39 = .ok (.ireturn, 1) := by decide +kernel
theorem dX10_last_40 : decode cX10_last 40 = .ok (.iload_n 2, 1) := by decide +kernel
theorem dX10_last_41 : decode cX10_last 41 = .ok (.ifCond .ne 7, 3) := by decide +kernel
theorem dX10_last_44 : decode cX10_last 44 = .ok (.iload_n 3, 1) := by decide +kernel
theorem dX10_last_45 : decode cX10_last 45 = .ok (.goto 12, 3) := by decide +kernel
theorem dX10_last_48 : decode cX10_last 48 = .ok (.aload_n 0, 1) := by decide +kernel
theorem dX10_last_49 : decode cX10_last 49 = .ok (.getfield 68, 3) := by decide +kernel
theorem dX10_last_52 : decode cX10_last 52 = .ok (.iload_n 3, 1) := by decide +kernel
theorem dX10_last_53 : decode cX10_last 53 = .ok (.iload_n 1, 1) := by decide +kernel
theorem dX10_last_54 : decode cX10_last 54 = .ok (.invokevirtual 216, 3) := by decide +kernel
theorem dX10_last_57 : decode cX10_last 57 = .ok (.ireturn, 1) := by decide +kernel
theorem dX10_cut_0 : decode cX10_cut 0 = .ok (.aload_n 0, 1) := by decide +kernel
theorem dX10_cut_1 : decode cX10_cut 1 = .ok (.getfield 32, 3) := by decide +kernel
theorem dX10_cut_4 : decode cX10_cut 4 = .ok (.iload_n 1, 1) := by decide +kernel
theorem dX10_cut_5 : decode cX10_cut 5 = .ok (.invokevirtual 130, 3) := by decide +kernel
theorem dX10_cut_8 : decode cX10_cut 8 = .ok (.ifCond .eq 23, 3) := by decide +kernel
theorem dX10_cut_11 : decode cX10_cut 11 = .ok (.aload_n 0, 1) := by decide +kernel
theorem dX10_cut_12 : decode cX10_cut 12 = .ok (.getfield 32, 3) := by decide +kernel
theorem dX10_cut_15 : decode cX10_cut 15 = .ok (.iload_n 2, 1) := by decide +kernel
theorem dX10_cut_16 : decode cX10_cut 16 = .ok (.invokevirtual 143, 3) := by decide +kernel
theorem dX10_cut_19 : decode cX10_cut 19 = .ok (.ifCond .eq 12, 3) := by decide +kernel
theorem dX10_cut_22 : decode cX10_cut 22 = .ok (.iload_n 3, 1) := by decide +kernel
theorem dX10_cut_23 : decode cX10_cut 23 = .ok (.iconst 0, 1) := by decide +kernel
theorem dX10_cut_24 : decode cX10_cut 24 = .ok (.iconst 1, 1) := by decide +kernel
theorem dX10_cut_25 : decode cX10_cut 25 = .ok (.invokestatic 118, 3) := by decide +kernel
theorem dX10_cut_28 : decode cX10_cut 28 = .ok (.ifCond .ne 5, 3) := by decide +kernel
theorem dX10_cut_31 : decode cX10_cut 31 = .ok (.iconst (-1), 1) := by decide +kernel
theorem dX10_cut_32 : decode cX10_cut 32 = .ok (.ireturn, 1) := by decide +kernel
theorem dX10_cut_33 : decode cX10_cut 33 = .ok (.aload_n 0, 1) := by decide +kernel
theorem dX10_cut_34 : decode cX10_cut 34 = .ok (.getfield 68, 3) := by decide +kernel
theorem dX10_cut_37 : decode cX10_cut 37 = .ok (.iload_n 1, 1) := by decide +kernel
theorem dX10_cut_38 : decode cX10_cut 38 = .ok (.iload_n 2, 1) := by decide +kernel
theorem dX10_cut_39 : decode cX10_cut 39 = .ok (.invokevirtual 222, 3) := by decide +kernel
theorem dX10_cut_42 : decode cX10_cut 42 = .ok (.istore 4, 2) := by decide +kernel
theorem dX10_cut_44 : decode cX10_cut 44 = .ok (.iload 4, 2) := by decide +kernel
theorem dX10_cut_46 : decode cX10_cut 46 = .ok (.bipush (-4), 2) := by decide +kernel
theorem dX10_cut_48 : decode cX10_cut 48 = .ok (.if_icmp .ne 6, 3) := by decide +kernel
theorem dX10_cut_51 : decode cX10_cut 51 = .ok (.bipush (-4), 2) := by decide +kernel
theorem dX10_cut_53 : decode cX10_cut 53 = .ok (.ireturn, 1) := by decide +kernel
theorem dX10_cut_54 : decode cX10_cut 54 = .ok (.iload_n 3, 1) := by decide +kernel
theorem dX10_cut_55 : decode cX10_cut 55 = .ok (.ifCond .ne 11, 3) := by decide +kernel
theorem dX10_cut_58 : decode cX10_cut 58 = .ok (.iload 4, 2) := by decide +kernel
theorem dX10_cut_60 : decode cX10_cut 60 = .ok (.invokestatic 158, 3) := by decide +kernel
theorem dX10_cut_63 : decode cX10_cut 63 = .ok (.goto 5, 3) := by decide +kernel
theorem dX10_cut_66 : decode cX10_cut 66 = .ok (.iload 4, 2) := by decide +kernel
theorem dX10_cut_68 : decode cX10_cut 68 = .ok (.ireturn, 1) := by decide +kernel
theorem dX10_openings_0 : decode cX10_openings 0 = .ok (.aload_n 0, 1) := by decide +kernel
theorem dX10_openings_1 : decode cX10_openings 1 = .ok (.getfield 32, 3) := by decide +kernel
theorem dX10_openings_4 : decode cX10_openings 4 = .ok (.iload_n 1, 1) := by decide +kernel
theorem dX10_openings_5 : decode cX10_openings 5 = .ok (.invokevirtual 143, 3) := by decide +kernel
theorem dX10_openings_8 : decode cX10_openings 8 = .ok (.ifCond .eq 23, 3) := by decide +kernel
theorem dX10_openings_11 : decode cX10_openings 11 = .ok (.iload_n 2, 1) := by decide +kernel
theorem dX10_openings_12 : decode cX10_openings 12 = .ok (.iconst 1, 1) := by decide +kernel
theorem dX10_openings_13 : decode cX10_openings 13 = .ok (.bipush 12, 2) := by decide +kernel
theorem dX10_openings_15 : decode cX10_openings 15 = .ok (.invokestatic 118, 3) := by decide +kernel
theorem dX10_openings_18 : decode cX10_openings 18 = .ok (.ifCond .eq 13, 3) := by decide +kernel
theorem dX10_openings_21 : decode cX10_openings 21 = .ok (.iload 5, 2) := by decide +kernel
theorem dX10_openings_23 : decode cX10_openings 23 = .ok (.iconst 0, 1) := by decide +kernel
theorem dX10_openings_24 : decode cX10_openings 24 = .ok (.iconst 2, 1) := by decide +kernel
theorem dX10_openings_25 : decode cX10_openings 25 = .ok (.invokestatic 118, 3) := by decide +kernel
theorem dX10_openings_28 : decode cX10_openings 28 = .ok (.ifCond .ne 5, 3) := by decide +kernel
theorem dX10_openings_31 : decode cX10_openings 31 = .ok (.iconst (-1), 1) := by decide +kernel
theorem dX10_openings_32 : decode cX10_openings 32 = .ok (.ireturn, 1) := by decide +kernel
theorem dX10_openings_33 : decode cX10_openings 33 = .ok (.aload_n 0, 1) := by decide +kernel
theorem dX10_openings_34 : decode cX10_openings 34 = .ok (.getfield 32, 3) := by decide +kernel
theorem dX10_openings_37 : decode cX10_openings 37 = .ok (.iload_n 3, 1) := by decide +kernel
theorem dX10_openings_38 : decode cX10_openings 38 = .ok (.invokevirtual 225, 3) := by decide +kernel
theorem dX10_openings_41 : decode cX10_openings 41 = .ok (.ifCond .eq 22, 3) := by decide +kernel
theorem dX10_openings_44 : decode cX10_openings 44 = .ok (.aload_n 0, 1) := by decide +kernel
theorem dX10_openings_45 : decode cX10_openings 45 = .ok (.getfield 32, 3) := by decide +kernel
theorem dX10_openings_48 : decode cX10_openings 48 = .ok (.iload 4, 2) := by decide +kernel
theorem dX10_openings_50 : decode cX10_openings 50 = .ok (.invokevirtual 225, 3) := by decide +kernel
theorem dX10_openings_53 : decode cX10_openings 53 = .ok (.ifCond .eq 10, 3) := by decide +kernel
theorem dX10_openings_56 : decode cX10_openings 56 = .ok (.iload_n 3, 1) := by decide +kernel
theorem dX10_openings_57 : decode cX10_openings 57 = .ok (.iload 4, 2) := by decide +kernel
theorem dX10_openings_59 : decode cX10_openings 59 = .ok (.iand, 1) := by decide +kernel
theorem dX10_openings_60 : decode cX10_openings 60 = .ok (.ifCond .eq 5, 3) := by decide +kernel
theorem dX10_openings_63 : decode cX10_openings 63 = .ok (.iconst (-1), 1) := by decide +kernel
theorem dX10_openings_64 : decode cX10_openings 64 = .ok (.ireturn, 1) := by decide +kernel
theorem dX10_openings_65 : decode cX10_openings 65 = .ok (.aload_n 0, 1) := by decide +kernel
theorem dX10_openings_66 : decode cX10_openings 66 = .ok (.getfield 75, 3) := by decide +kernel
theorem dX10_openings_69 : decode cX10_openings 69 = .ok (.iload_n 1, 1) := by decide +kernel
theorem dX10_openings_70 : decode cX10_openings 70 = .ok (.iload_n 2, 1) := by decide +kernel
theorem dX10_openings_71 : decode cX10_openings 71 = .ok (.iload_n 3, 1) := by decide +kernel
theorem dX10_openings_72 : decode cX10_openings 72 = .ok (.iload 4, 2) := by decide +kernel
theorem dX10_openings_74 : decode cX10_openings 74 = .ok (.invokevirtual 228, 3) := by decide +kernel
theorem dX10_openings_77 : decode cX10_openings 77 = .ok (.aload_n 0, 1) := by decide +kernel
theorem dX10_openings_78 : decode cX10_openings 78 = .ok (.getfield 75, 3) := by decide +kernel
theorem dX10_openings_81 : decode cX10_openings 81 = .ok (.invokevirtual 232, 3) := by decide +kernel
theorem dX10_openings_84 : decode cX10_openings 84 = .ok (.ifCond .ne 20, 3) := by decide +kernel
theorem dX10_openings_87 : decode cX10_openings 87 = .ok (.aload_n 0, 1) := by decide +kernel
theorem dX10_openings_88 : decode cX10_openings 88 = .ok (.getfield 75, 3) := by decide +kernel
theorem dX10_openings_91 : decode cX10_openings 91 = .ok (.invokevirtual 235, 3) := by decide +kernel
theorem dX10_openings_94 : decode cX10_openings 94 = .ok (.ifCond .ne 10, 3) := by decide +kernel
theorem dX10_openings_97 : decode cX10_openings 97 = .ok (.aload_n 0, 1) := by decide +kernel
theorem dX10_openings_98 : decode cX10_openings 98 = .ok (.getfield 75, 3) := by decide +kernel
theorem dX10_openings_101 : decode cX10_openings 101 = .ok (.invokevirtual 238, 3) := by decide +kernel
theorem dX10_openings_104 : decode cX10_openings 104 = .ok (.aload_n 0, 1) := by decide +kernel
theorem dX10_openings_105 : decode cX10_openings 105 = .ok (.getfield 75, 3) := by decide +kernel
theorem dX10_openings_108 : decode cX10_openings 108 = .ok (.iload 5, 2) := by decide +kernel
theorem dX10_openings_110 : decode cX10_openings 110 = .ok (.invokevirtual 241, 3) := by decide +kernel
theorem dX10_openings_113 : decode cX10_openings 113 = .ok (.ireturn, 1) := by decide +kernel
theorem dX10_bears_0 : decode cX10_bears 0 = .ok (.aload_n 0, 1) := by decide +kernel
theorem dX10_bears_1 : decode cX10_bears 1 = .ok (.getfield 32, 3) := by decide +kernel
theorem dX10_bears_4 : decode cX10_bears 4 = .ok (.iload_n 1, 1) := by decide +kernel
theorem dX10_bears_5 : decode cX10_bears 5 = .ok (.invokevirtual 130, 3) := by decide +kernel
theorem dX10_bears_8 : decode cX10_bears 8 = .ok (.ifCond .eq 13, 3) := by decide +kernel
theorem dX10_bears_11 : decode cX10_bears 11 = .ok (.iload_n 2, 1) := by decide +kernel
theorem dX10_bears_12 : decode cX10_bears 12 = .ok (.iconst 0, 1) := by decide +kernel
theorem dX10_bears_13 : decode cX10_bears 13 = .ok (.bipush 20, 2) := by decide +kernel
theorem dX10_bears_15 : decode cX10_bears 15 = .ok (.invokestatic 118, 3) := by decide +kernel
theorem dX10_bears_18 : decode cX10_bears 18 = .ok (.ifCond .ne 5, 3) := by decide +kernel
theorem dX10_bears_21 : decode cX10_bears 21 = .ok (.iconst (-1), 1) := by decide +kernel
theorem dX10_bears_22 : decode cX10_bears 22 = .ok (.ireturn, 1) := by decide +kernel
theorem dX10_bears_23 : decode cX10_bears 23 = .ok (.aload_n 0, 1) := by decide +kernel
theorem dX10_bears_24 : decode cX10_bears 24 = .ok (.getfield 68, 3) := by decide +kernel
theorem dX10_bears_27 : decode cX10_bears 27 = .ok (.iload_n 1, 1) := by decide +kernel
theorem dX10_bears_28 : decode cX10_bears 28 = .ok (.iload_n 2, 1) := by decide +kernel
theorem dX10_bears_29 : decode cX10_bears 29 = .ok (.invokevirtual 244, 3) := by decide +kernel
theorem dX10_bears_32 : decode cX10_bears 32 = .ok (.ireturn, 1) := by decide +kernel
theorem dX10_quarrel_0 : decode cX10_quarrel 0 = .ok (.aload_n 0, 1) := by decide +kernel
theorem dX10_quarrel_1 : decode cX10_quarrel 1 = .ok (.getfield 32, 3) := by decide +kernel
theorem dX10_quarrel_4 : decode cX10_quarrel 4 = .ok (.iload_n 1, 1) := by decide +kernel
theorem dX10_quarrel_5 : decode cX10_quarrel 5 = .ok (.invokevirtual 130, 3) := by decide +kernel
theorem dX10_quarrel_8 : decode cX10_quarrel 8 = .ok (.ifCond .eq 14, 3) := by decide +kernel
theorem dX10_quarrel_11 : decode cX10_quarrel 11 = .ok (.aload_n 0, 1) := by decide +kernel
theorem dX10_quarrel_12 : decode cX10_quarrel 12 = .ok (.getfield 32, 3) := by decide +kernel
theorem dX10_quarrel_15 : decode cX10_quarrel 15 = .ok (.iload_n 2, 1) := by decide +kernel
theorem dX10_quarrel_16 : decode cX10_quarrel 16 = .ok (.invokevirtual 143, 3) := by decide +kernel
theorem dX10_quarrel_19 : decode cX10_quarrel 19 = .ok (.ifCond .ne 5, 3) := by decide +kernel
theorem dX10_quarrel_22 : decode cX10_quarrel 22 = .ok (.iconst (-1), 1) := by decide +kernel
theorem dX10_quarrel_23 : decode cX10_quarrel 23 = .ok (.ireturn, 1) := by decide +kernel
theorem dX10_quarrel_24 : decode cX10_quarrel 24 = .ok (.iload_n 3, 1) := by decide +kernel
theorem dX10_quarrel_25 : decode cX10_quarrel 25 = .ok (.iconst 1, 1) := by decide +kernel
theorem dX10_quarrel_26 : decode cX10_quarrel 26 = .ok (.bipush 12, 2) := by decide +kernel
theorem dX10_quarrel_28 : decode cX10_quarrel 28 = .ok (.invokestatic 118, 3) := by decide +kernel
theorem dX10_quarrel_31 : decode cX10_quarrel 31 = .ok (.ifCond .eq 13, 3) := by decide +kernel
theorem dX10_quarrel_34 : decode cX10_quarrel 34 = .ok (.iload 4, 2) := by decide +kernel
theorem dX10_quarrel_36 : decode cX10_quarrel 36 = .ok (.iconst 0, 1) := by decide +kernel
theorem dX10_quarrel_37 : decode cX10_quarrel 37 = .ok (.iconst 1, 1) := by decide +kernel
theorem dX10_quarrel_38 : decode cX10_quarrel 38 = .ok (.invokestatic 118, 3) := by decide +kernel
theorem dX10_quarrel_41 : decode cX10_quarrel 41 = .ok (.ifCond .ne 5, 3) := by decide +kernel
theorem dX10_quarrel_44 : decode cX10_quarrel 44 = .ok (.iconst (-1), 1) := by decide +kernel
theorem dX10_quarrel_45 : decode cX10_quarrel 45 = .ok (.ireturn, 1) := by decide +kernel
theorem dX10_quarrel_46 : decode cX10_quarrel 46 = .ok (.aload_n 0, 1) := by decide +kernel
theorem dX10_quarrel_47 : decode cX10_quarrel 47 = .ok (.getfield 68, 3) := by decide +kernel
theorem dX10_quarrel_50 : decode cX10_quarrel 50 = .ok (.iload_n 1, 1) := by decide +kernel
theorem dX10_quarrel_51 : decode cX10_quarrel 51 = .ok (.iload_n 2, 1) := by decide +kernel
theorem dX10_quarrel_52 : decode cX10_quarrel 52 = .ok (.iload_n 3, 1) := by decide +kernel
theorem dX10_quarrel_53 : decode cX10_quarrel 53 = .ok (.invokevirtual 247, 3) := by decide +kernel
theorem dX10_quarrel_56 : decode cX10_quarrel 56 = .ok (.istore 5, 2) := by decide +kernel
theorem dX10_quarrel_58 : decode cX10_quarrel 58 = .ok (.iload 4, 2) := by decide +kernel
theorem dX10_quarrel_60 : decode cX10_quarrel 60 = .ok (.iconst 1, 1) := by decide +kernel
theorem dX10_quarrel_61 : decode cX10_quarrel 61 = .ok (.if_icmp .ne 6, 3) := by decide +kernel
theorem dX10_quarrel_64 : decode cX10_quarrel 64 = .ok (.iload 5, 2) := by decide +kernel
theorem dX10_quarrel_66 : decode cX10_quarrel 66 = .ok (.ireturn, 1) := by decide +kernel
theorem dX10_quarrel_67 : decode cX10_quarrel 67 = .ok (.aload_n 0, 1) := by decide +kernel
theorem dX10_quarrel_68 : decode cX10_quarrel 68 = .ok (.getfield 68, 3) := by decide +kernel
theorem dX10_quarrel_71 : decode cX10_quarrel 71 = .ok (.iload_n 1, 1) := by decide +kernel
theorem dX10_quarrel_72 : decode cX10_quarrel 72 = .ok (.iload_n 2, 1) := by decide +kernel
theorem dX10_quarrel_73 : decode cX10_quarrel 73 = .ok (.iload_n 3, 1) := by decide +kernel
theorem dX10_quarrel_74 : decode cX10_quarrel 74 = .ok (.iload 5, 2) := by decide +kernel
theorem dX10_quarrel_76 : decode cX10_quarrel 76 = .ok (.invokevirtual 250, 3) := by decide +kernel
theorem dX10_quarrel_79 : decode cX10_quarrel 79 = .ok (.ifCond .eq 7, 3) := by decide +kernel
theorem dX10_quarrel_82 : decode cX10_quarrel 82 = .ok (.iconst 1, 1) := by decide +kernel
theorem dX10_quarrel_83 : decode cX10_quarrel 83 = .ok (.goto 4, 3) := by decide +kernel
theorem dX10_quarrel_86 : decode cX10_quarrel 86 = .ok (.iconst 0, 1) := by decide +kernel
theorem dX10_quarrel_87 : decode cX10_quarrel 87 = .ok (.ireturn, 1) := by decide +kernel
theorem dX10_see_0 : decode cX10_see 0 = .ok (.aload_n 0, 1) := by decide +kernel
theorem dX10_see_1 : decode cX10_see 1 = .ok (.getfield 32, 3) := by decide +kernel
theorem dX10_see_4 : decode cX10_see 4 = .ok (.iload_n 1, 1) := by decide +kernel
theorem dX10_see_5 : decode cX10_see 5 = .ok (.invokevirtual 130, 3) := by decide +kernel
theorem dX10_see_8 : decode cX10_see 8 = .ok (.ifCond .eq 24, 3) := by decide +kernel
theorem dX10_see_11 : decode cX10_see 11 = .ok (.aload_n 0, 1) := by decide +kernel
theorem dX10_see_12 : decode cX10_see 12 = .ok (.getfield 32, 3) := by decide +kernel
theorem dX10_see_15 : decode cX10_see 15 = .ok (.iload_n 2, 1) := by decide +kernel
theorem dX10_see_16 : decode cX10_see 16 = .ok (.invokevirtual 143, 3) := by decide +kernel
theorem dX10_see_19 : decode cX10_see 19 = .ok (.ifCond .eq 13, 3) := by decide +kernel
theorem dX10_see_22 : decode cX10_see 22 = .ok (.iload_n 3, 1) := by decide +kernel
theorem dX10_see_23 : decode cX10_see 23 = .ok (.iconst 0, 1) := by decide +kernel
theorem dX10_see_24 : decode cX10_see 24 = .ok (.bipush 30, 2) := by decide +kernel
theorem dX10_see_26 : decode cX10_see 26 = .ok (.invokestatic 118, 3) := by decide +kernel
theorem dX10_see_29 : decode cX10_see 29 = .ok (.ifCond .ne 5, 3) := by decide +kernel
theorem dX10_see_32 : decode cX10_see 32 = .ok (.iconst (-1), 1) := by decide +kernel
theorem dX10_see_33 : decode cX10_see 33 = .ok (.ireturn, 1) := by decide +kernel
theorem dX10_see_34 : decode cX10_see 34 = .ok (.aload_n 0, 1) := by decide +kernel
theorem dX10_see_35 : decode cX10_see 35 = .ok (.getfield 91, 3) := by decide +kernel
theorem dX10_see_38 : decode cX10_see 38 = .ok (.iload_n 1, 1) := by decide +kernel
theorem dX10_see_39 : decode cX10_see 39 = .ok (.iload_n 2, 1) := by decide +kernel
theorem dX10_see_40 : decode cX10_see 40 = .ok (.iload_n 3, 1) := by decide +kernel
theorem dX10_see_41 : decode cX10_see 41 = .ok (.iload 4, 2) := by decide +kernel
theorem dX10_see_43 : decode cX10_see 43 = .ok (.invokevirtual 254, 3) := by decide +kernel
theorem dX10_see_46 : decode cX10_see 46 = .ok (.ifCond .eq 13, 3) := by decide +kernel
theorem dX10_see_49 : decode cX10_see 49 = .ok (.aload_n 0, 1) := by decide +kernel
theorem dX10_see_50 : decode cX10_see 50 = .ok (.getfield 91, 3) := by decide +kernel
theorem dX10_see_53 : decode cX10_see 53 = .ok (.invokevirtual 257, 3) := by decide +kernel
theorem dX10_see_56 : decode cX10_see 56 = .ok (.goto 5, 3) := by decide +kernel
theorem dX10_see_59 : decode cX10_see 59 = .ok (.bipush (-3), 2) := by decide +kernel
theorem dX10_see_61 : decode cX10_see 61 = .ok (.ireturn, 1) := by decide +kernel
theorem dX10_forget_0 : decode cX10_forget 0 = .ok (.aload_n 0, 1) := by decide +kernel
theorem dX10_forget_1 : decode cX10_forget 1 = .ok (.getfield 91, 3) := by decide +kernel
theorem dX10_forget_4 : decode cX10_forget 4 = .ok (.invokevirtual 257, 3) := by decide +kernel
theorem dX10_forget_7 : decode cX10_forget 7 = .ok (.istore_n 1, 1) := by decide +kernel
theorem dX10_forget_8 : decode cX10_forget 8 = .ok (.aload_n 0, 1) := by decide +kernel
theorem dX10_forget_9 : decode cX10_forget 9 = .ok (.getfield 91, 3) := by decide +kernel
theorem dX10_forget_12 : decode cX10_forget 12 = .ok (.invokevirtual 258, 3) := by decide +kernel
theorem dX10_forget_15 : decode cX10_forget 15 = .ok (.iload_n 1, 1) := by decide +kernel
theorem dX10_forget_16 : decode cX10_forget 16 = .ok (.ireturn, 1) := by decide +kernel
theorem dX10_began_0 : decode cX10_began 0 = .ok (.aload_n 0, 1) := by decide +kernel
theorem dX10_began_1 : decode cX10_began 1 = .ok (.getfield 32, 3) := by decide +kernel
theorem dX10_began_4 : decode cX10_began 4 = .ok (.iload_n 1, 1) := by decide +kernel
theorem dX10_began_5 : decode cX10_began 5 = .ok (.invokevirtual 143, 3) := by decide +kernel
theorem dX10_began_8 : decode cX10_began 8 = .ok (.ifCond .eq 14, 3) := by decide +kernel
theorem dX10_began_11 : decode cX10_began 11 = .ok (.aload_n 0, 1) := by decide +kernel
theorem dX10_began_12 : decode cX10_began 12 = .ok (.getfield 91, 3) := by decide +kernel
theorem dX10_began_15 : decode cX10_began 15 = .ok (.iload_n 1, 1) := by decide +kernel
theorem dX10_began_16 : decode cX10_began 16 = .ok (.invokevirtual 259, 3) := by decide +kernel
theorem dX10_began_19 : decode cX10_began 19 = .ok (.goto 4, 3) := by decide +kernel
theorem dX10_began_22 : decode cX10_began 22 = .ok (.iconst (-1), 1) := by decide +kernel
theorem dX10_began_23 : decode cX10_began 23 = .ok (.ireturn, 1) := by decide +kernel
theorem dX10_blew_0 : decode cX10_blew 0 = .ok (.aload_n 0, 1) := by decide +kernel
theorem dX10_blew_1 : decode cX10_blew 1 = .ok (.getfield 91, 3) := by decide +kernel
theorem dX10_blew_4 : decode cX10_blew 4 = .ok (.invokevirtual 262, 3) := by decide +kernel
theorem dX10_blew_7 : decode cX10_blew 7 = .ok (.ireturn, 1) := by decide +kernel
theorem dX10_gusts_0 : decode cX10_gusts 0 = .ok (.aload_n 0, 1) := by decide +kernel
theorem dX10_gusts_1 : decode cX10_gusts 1 = .ok (.getfield 32, 3) := by decide +kernel
theorem dX10_gusts_4 : decode cX10_gusts 4 = .ok (.iload_n 1, 1) := by decide +kernel
theorem dX10_gusts_5 : decode cX10_gusts 5 = .ok (.invokevirtual 130, 3) := by decide +kernel
theorem dX10_gusts_8 : decode cX10_gusts 8 = .ok (.ifCond .eq 14, 3) := by decide +kernel
theorem dX10_gusts_11 : decode cX10_gusts 11 = .ok (.aload_n 0, 1) := by decide +kernel
theorem dX10_gusts_12 : decode cX10_gusts 12 = .ok (.getfield 32, 3) := by decide +kernel
theorem dX10_gusts_15 : decode cX10_gusts 15 = .ok (.iload_n 2, 1) := by decide +kernel
theorem dX10_gusts_16 : decode cX10_gusts 16 = .ok (.invokevirtual 143, 3) := by decide +kernel
theorem dX10_gusts_19 : decode cX10_gusts 19 = .ok (.ifCond .ne 5, 3) := by decide +kernel
theorem dX10_gusts_22 : decode cX10_gusts 22 = .ok (.iconst (-1), 1) := by decide +kernel
theorem dX10_gusts_23 : decode cX10_gusts 23 = .ok (.ireturn, 1) := by decide +kernel
theorem dX10_gusts_24 : decode cX10_gusts 24 = .ok (.iload_n 3, 1) := by decide +kernel
theorem dX10_gusts_25 : decode cX10_gusts 25 = .ok (.iconst 0, 1) := by decide +kernel
theorem dX10_gusts_26 : decode cX10_gusts 26 = .ok (.iconst 4, 1) := by decide +kernel
theorem dX10_gusts_27 : decode cX10_gusts 27 = .ok (.invokestatic 118, 3) := by decide +kernel
theorem dX10_gusts_30 : decode cX10_gusts 30 = .ok (.ifCond .eq 13, 3) := by decide +kernel
theorem dX10_gusts_33 : decode cX10_gusts 33 = .ok (.iload 4, 2) := by decide +kernel
theorem dX10_gusts_35 : decode cX10_gusts 35 = .ok (.iconst 0, 1) := by decide +kernel
theorem dX10_gusts_36 : decode cX10_gusts 36 = .ok (.iconst 1, 1) := by decide +kernel
theorem dX10_gusts_37 : decode cX10_gusts 37 = .ok (.invokestatic 118, 3) := by decide +kernel
theorem dX10_gusts_40 : decode cX10_gusts 40 = .ok (.ifCond .ne 5, 3) := by decide +kernel
theorem dX10_gusts_43 : decode cX10_gusts 43 = .ok (.iconst (-1), 1) := by decide +kernel
theorem dX10_gusts_44 : decode cX10_gusts 44 = .ok (.ireturn, 1) := by decide +kernel
theorem dX10_gusts_45 : decode cX10_gusts 45 = .ok (.aload_n 0, 1) := by decide +kernel
theorem dX10_gusts_46 : decode cX10_gusts 46 = .ok (.getfield 84, 3) := by decide +kernel
theorem dX10_gusts_49 : decode cX10_gusts 49 = .ok (.aload_n 0, 1) := by decide +kernel
theorem dX10_gusts_50 : decode cX10_gusts 50 = .ok (.getfield 84, 3) := by decide +kernel
theorem dX10_gusts_53 : decode cX10_gusts 53 = .ok (.iload_n 1, 1) := by decide +kernel
theorem dX10_gusts_54 : decode cX10_gusts 54 = .ok (.iload_n 2, 1) := by decide +kernel
theorem dX10_gusts_55 : decode cX10_gusts 55 = .ok (.iload_n 3, 1) := by decide +kernel
theorem dX10_gusts_56 : decode cX10_gusts 56 = .ok (.invokevirtual 265, 3) := by decide +kernel
theorem dX10_gusts_59 : decode cX10_gusts 59 = .ok (.iload_n 3, 1) := by decide +kernel
theorem dX10_gusts_60 : decode cX10_gusts 60 = .ok (.iload 4, 2) := by decide +kernel
theorem dX10_gusts_62 : decode cX10_gusts 62 = .ok (.invokevirtual 268, 3) := by decide +kernel
theorem dX10_gusts_65 : decode cX10_gusts 65 = .ok (.ireturn, 1) := by decide +kernel
theorem dX10_year_0 : decode cX10_year 0 = .ok (.iload_n 1, 1) := by decide +kernel
theorem dX10_year_1 : decode cX10_year 1 = .ok (.iconst 0, 1) := by decide +kernel
theorem dX10_year_2 : decode cX10_year 2 = .ok (.sipush 9999, 3) := by decide +kernel
theorem dX10_year_5 : decode cX10_year 5 = .ok (.invokestatic 118, 3) := by decide +kernel
theorem dX10_year_8 : decode cX10_year 8 = .ok (.ifCond .eq 22, 3) := by decide +kernel
theorem dX10_year_11 : decode cX10_year 11 = .ok (.iload_n 2, 1) := by decide +kernel
theorem dX10_year_12 : decode cX10_year 12 = .ok (.iconst 1, 1) := by decide +kernel
theorem dX10_year_13 : decode cX10_year 13 = .ok (.bipush 60, 2) := by decide +kernel
theorem dX10_year_15 : decode cX10_year 15 = .ok (.invokestatic 118, 3) := by decide +kernel
theorem dX10_year_18 : decode cX10_year 18 = .ok (.ifCond .eq 12, 3) := by decide +kernel
theorem dX10_year_21 : decode cX10_year 21 = .ok (.iload_n 3, 1) := by decide +kernel
theorem dX10_year_22 : decode cX10_year 22 = .ok (.iconst 0, 1) := by decide +kernel
theorem dX10_year_23 : decode cX10_year 23 = .ok (.iconst 1, 1) := by decide +kernel
theorem dX10_year_24 : decode cX10_year 24 = .ok (.invokestatic 118, 3) := by decide +kernel
theorem dX10_year_27 : decode cX10_year 27 = .ok (.ifCond .ne 5, 3) := by decide +kernel
theorem dX10_year_30 : decode cX10_year 30 = .ok (.iconst (-1), 1) := by decide +kernel
theorem dX10_year_31 : decode cX10_year 31 = .ok (.ireturn, 1) := by decide +kernel
theorem dX10_year_32 : decode cX10_year 32 = .ok (.aload_n 0, 1) := by decide +kernel
theorem dX10_year_33 : decode cX10_year 33 = .ok (.getfield 84, 3) := by decide +kernel
theorem dX10_year_36 : decode cX10_year 36 = .ok (.iload_n 1, 1) := by decide +kernel
theorem dX10_year_37 : decode cX10_year 37 = .ok (.iload_n 2, 1) := by decide +kernel
theorem dX10_year_38 : decode cX10_year 38 = .ok (.invokevirtual 271, 3) := by decide +kernel
theorem dX10_year_41 : decode cX10_year 41 = .ok (.iload_n 3, 1) := by decide +kernel
theorem dX10_year_42 : decode cX10_year 42 = .ok (.ifCond .ne 13, 3) := by decide +kernel
theorem dX10_year_45 : decode cX10_year 45 = .ok (.aload_n 0, 1) := by decide +kernel
theorem dX10_year_46 : decode cX10_year 46 = .ok (.getfield 84, 3) := by decide +kernel
theorem dX10_year_49 : decode cX10_year 49 = .ok (.invokevirtual 274, 3) := by decide +kernel
theorem dX10_year_52 : decode cX10_year 52 = .ok (.goto 10, 3) := by decide +kernel
theorem dX10_year_55 : decode cX10_year 55 = .ok (.aload_n 0, 1) := by decide +kernel
theorem dX10_year_56 : decode cX10_year 56 = .ok (.getfield 84, 3) := by decide +kernel
theorem dX10_year_59 : decode cX10_year 59 = .ok (.invokevirtual 277, 3) := by decide +kernel
theorem dX10_year_62 : decode cX10_year 62 = .ok (.ireturn, 1) := by decide +kernel
theorem dX10_keep_0 : decode cX10_keep 0 = .ok (.aload_n 0, 1) := by decide +kernel
theorem dX10_keep_1 : decode cX10_keep 1 = .ok (.getfield 51, 3) := by decide +kernel
theorem dX10_keep_4 : decode cX10_keep 4 = .ok (.invokevirtual 280, 3) := by decide +kernel
theorem dX10_keep_7 : decode cX10_keep 7 = .ok (.ifCond .eq 6, 3) := by decide +kernel
theorem dX10_keep_10 : decode cX10_keep 10 = .ok (.bipush (-3), 2) := by decide +kernel
theorem dX10_keep_12 : decode cX10_keep 12 = .ok (.ireturn, 1) := by decide +kernel
theorem dX10_keep_13 : decode cX10_keep 13 = .ok (.aload_n 0, 1) := by decide +kernel
theorem dX10_keep_14 : decode cX10_keep 14 = .ok (.getfield 51, 3) := by decide +kernel
theorem dX10_keep_17 : decode cX10_keep 17 = .ok (.aload_n 0, 1) := by decide +kernel
theorem dX10_keep_18 : decode cX10_keep 18 = .ok (.getfield 38, 3) := by decide +kernel
theorem dX10_keep_21 : decode cX10_keep 21 = .ok (.invokevirtual 169, 3) := by decide +kernel
theorem dX10_keep_24 : decode cX10_keep 24 = .ok (.aload_n 0, 1) := by decide +kernel
theorem dX10_keep_25 : decode cX10_keep 25 = .ok (.getfield 51, 3) := by decide +kernel
theorem dX10_keep_28 : decode cX10_keep 28 = .ok (.invokevirtual 209, 3) := by decide +kernel
theorem dX10_keep_31 : decode cX10_keep 31 = .ok (.ireturn, 1) := by decide +kernel
theorem dX10_back_0 : decode cX10_back 0 = .ok (.aload_n 0, 1) := by decide +kernel
theorem dX10_back_1 : decode cX10_back 1 = .ok (.getfield 51, 3) := by decide +kernel
theorem dX10_back_4 : decode cX10_back 4 = .ok (.aload_n 0, 1) := by decide +kernel
theorem dX10_back_5 : decode cX10_back 5 = .ok (.getfield 38, 3) := by decide +kernel
theorem dX10_back_8 : decode cX10_back 8 = .ok (.invokevirtual 205, 3) := by decide +kernel
theorem dX10_back_11 : decode cX10_back 11 = .ok (.ifCond .ne 6, 3) := by decide +kernel
theorem dX10_back_14 : decode cX10_back 14 = .ok (.bipush (-2), 2) := by decide +kernel
theorem dX10_back_16 : decode cX10_back 16 = .ok (.ireturn, 1) := by decide +kernel
theorem dX10_back_17 : decode cX10_back 17 = .ok (.aload_n 0, 1) := by decide +kernel
theorem dX10_back_18 : decode cX10_back 18 = .ok (.getfield 47, 3) := by decide +kernel
theorem dX10_back_21 : decode cX10_back 21 = .ok (.invokevirtual 283, 3) := by decide +kernel
theorem dX10_back_24 : decode cX10_back 24 = .ok (.aload_n 0, 1) := by decide +kernel
theorem dX10_back_25 : decode cX10_back 25 = .ok (.getfield 51, 3) := by decide +kernel
theorem dX10_back_28 : decode cX10_back 28 = .ok (.invokevirtual 209, 3) := by decide +kernel
theorem dX10_back_31 : decode cX10_back 31 = .ok (.ireturn, 1) := by decide +kernel
theorem dX10_count_0 : decode cX10_count 0 = .ok (.iload_n 1, 1) := by decide +kernel
theorem dX10_count_1 : decode cX10_count 1 = .ok (.tableswitch 138 0 9 #[55, 63, 71, 79, 87, 95, 106, 114, 122, 130], 55) := by decide +kernel
theorem dX10_count_56 : decode cX10_count 56 = .ok (.aload_n 0, 1) := by decide +kernel
theorem dX10_count_57 : decode cX10_count 57 = .ok (.getfield 32, 3) := by decide +kernel
theorem dX10_count_60 : decode cX10_count 60 = .ok (.invokevirtual 127, 3) := by decide +kernel
theorem dX10_count_63 : decode cX10_count 63 = .ok (.ireturn, 1) := by decide +kernel
theorem dX10_count_64 : decode cX10_count 64 = .ok (.aload_n 0, 1) := by decide +kernel
theorem dX10_count_65 : decode cX10_count 65 = .ok (.getfield 32, 3) := by decide +kernel
theorem dX10_count_68 : decode cX10_count 68 = .ok (.invokevirtual 284, 3) := by decide +kernel
theorem dX10_count_71 : decode cX10_count 71 = .ok (.ireturn, 1) := by decide +kernel
theorem dX10_count_72 : decode cX10_count 72 = .ok (.aload_n 0, 1) := by decide +kernel
theorem dX10_count_73 : decode cX10_count 73 = .ok (.getfield 32, 3) := by decide +kernel
theorem dX10_count_76 : decode cX10_count 76 = .ok (.invokevirtual 173, 3) := by decide +kernel
theorem dX10_count_79 : decode cX10_count 79 = .ok (.ireturn, 1) := by decide +kernel
theorem dX10_count_80 : decode cX10_count 80 = .ok (.aload_n 0, 1) := by decide +kernel
theorem dX10_count_81 : decode cX10_count 81 = .ok (.getfield 32, 3) := by decide +kernel
theorem dX10_count_84 : decode cX10_count 84 = .ok (.invokevirtual 287, 3) := by decide +kernel
theorem dX10_count_87 : decode cX10_count 87 = .ok (.ireturn, 1) := by decide +kernel
theorem dX10_count_88 : decode cX10_count 88 = .ok (.aload_n 0, 1) := by decide +kernel
theorem dX10_count_89 : decode cX10_count 89 = .ok (.getfield 38, 3) := by decide +kernel
theorem dX10_count_92 : decode cX10_count 92 = .ok (.invokevirtual 163, 3) := by decide +kernel
theorem dX10_count_95 : decode cX10_count 95 = .ok (.ireturn, 1) := by decide +kernel
theorem dX10_count_96 : decode cX10_count 96 = .ok (.aload_n 0, 1) := by decide +kernel
theorem dX10_count_97 : decode cX10_count 97 = .ok (.getfield 38, 3) := by decide +kernel
theorem dX10_count_100 : decode cX10_count 100 = .ok (.invokevirtual 290, 3) := by decide +kernel
theorem dX10_count_103 : decode cX10_count 103 = .ok (.invokestatic 158, 3) := by decide +kernel
theorem dX10_count_106 : decode cX10_count 106 = .ok (.ireturn, 1) := by decide +kernel
theorem dX10_count_107 : decode cX10_count 107 = .ok (.aload_n 0, 1) := by decide +kernel
theorem dX10_count_108 : decode cX10_count 108 = .ok (.getfield 91, 3) := by decide +kernel
theorem dX10_count_111 : decode cX10_count 111 = .ok (.invokevirtual 257, 3) := by decide +kernel
theorem dX10_count_114 : decode cX10_count 114 = .ok (.ireturn, 1) := by decide +kernel
theorem dX10_count_115 : decode cX10_count 115 = .ok (.aload_n 0, 1) := by decide +kernel
theorem dX10_count_116 : decode cX10_count 116 = .ok (.getfield 47, 3) := by decide +kernel
theorem dX10_count_119 : decode cX10_count 119 = .ok (.invokevirtual 209, 3) := by decide +kernel
theorem dX10_count_122 : decode cX10_count 122 = .ok (.ireturn, 1) := by decide +kernel
theorem dX10_count_123 : decode cX10_count 123 = .ok (.aload_n 0, 1) := by decide +kernel
theorem dX10_count_124 : decode cX10_count 124 = .ok (.getfield 51, 3) := by decide +kernel
theorem dX10_count_127 : decode cX10_count 127 = .ok (.invokevirtual 209, 3) := by decide +kernel
theorem dX10_count_130 : decode cX10_count 130 = .ok (.ireturn, 1) := by decide +kernel
theorem dX10_count_131 : decode cX10_count 131 = .ok (.aload_n 0, 1) := by decide +kernel
theorem dX10_count_132 : decode cX10_count 132 = .ok (.getfield 10, 3) := by decide +kernel
theorem dX10_count_135 : decode cX10_count 135 = .ok (.invokevirtual 122, 3) := by decide +kernel
theorem dX10_count_138 : decode cX10_count 138 = .ok (.ireturn, 1) := by decide +kernel
theorem dX10_count_139 : decode cX10_count 139 = .ok (.iconst (-1), 1) := by decide +kernel
theorem dX10_count_140 : decode cX10_count 140 = .ok (.ireturn, 1) := by decide +kernel
theorem dX10_layText_0 : decode cX10_layText 0 = .ok (.aload_n 0, 1) := by decide +kernel
theorem dX10_layText_1 : decode cX10_layText 1 = .ok (.getfield 21, 3) := by decide +kernel
theorem dX10_layText_4 : decode cX10_layText 4 = .ok (.aload_n 0, 1) := by decide +kernel
theorem dX10_layText_5 : decode cX10_layText 5 = .ok (.getfield 28, 3) := by decide +kernel
theorem dX10_layText_8 : decode cX10_layText 8 = .ok (.invokevirtual 123, 3) := by decide +kernel
theorem dX10_layText_11 : decode cX10_layText 11 = .ok (.bipush (-4), 2) := by decide +kernel
theorem dX10_layText_13 : decode cX10_layText 13 = .ok (.if_icmp .ne 13, 3) := by decide +kernel
theorem dX10_layText_16 : decode cX10_layText 16 = .ok (.aload_n 0, 1) := by decide +kernel
theorem dX10_layText_17 : decode cX10_layText 17 = .ok (.getfield 28, 3) := by decide +kernel
theorem dX10_layText_20 : decode cX10_layText 20 = .ok (.invokevirtual 173, 3) := by decide +kernel
theorem dX10_layText_23 : decode cX10_layText 23 = .ok (.ifCond .ne 5, 3) := by decide +kernel
theorem dX10_layText_26 : decode cX10_layText 26 = .ok (.iconst 0, 1) := by decide +kernel
theorem dX10_layText_27 : decode cX10_layText 27 = .ok (.ireturn, 1) := by decide +kernel
theorem dX10_layText_28 : decode cX10_layText 28 = .ok (.aload_n 0, 1) := by decide +kernel
theorem dX10_layText_29 : decode cX10_layText 29 = .ok (.getfield 21, 3) := by decide +kernel
theorem dX10_layText_32 : decode cX10_layText 32 = .ok (.aload_n 0, 1) := by decide +kernel
theorem dX10_layText_33 : decode cX10_layText 33 = .ok (.getfield 32, 3) := by decide +kernel
theorem dX10_layText_36 : decode cX10_layText 36 = .ok (.invokevirtual 123, 3) := by decide +kernel
theorem dX10_layText_39 : decode cX10_layText 39 = .ok (.pop, 1) := by decide +kernel
theorem dX10_layText_40 : decode cX10_layText 40 = .ok (.aload_n 0, 1) := by decide +kernel
theorem dX10_layText_41 : decode cX10_layText 41 = .ok (.getfield 38, 3) := by decide +kernel
theorem dX10_layText_44 : decode cX10_layText 44 = .ok (.aload_n 0, 1) := by decide +kernel
theorem dX10_layText_45 : decode cX10_layText 45 = .ok (.getfield 32, 3) := by decide +kernel
theorem dX10_layText_48 : decode cX10_layText 48 = .ok (.invokevirtual 293, 3) := by decide +kernel
theorem dX10_layText_51 : decode cX10_layText 51 = .ok (.aload_n 0, 1) := by decide +kernel
theorem dX10_layText_52 : decode cX10_layText 52 = .ok (.getfield 47, 3) := by decide +kernel
theorem dX10_layText_55 : decode cX10_layText 55 = .ok (.invokevirtual 283, 3) := by decide +kernel
theorem dX10_layText_58 : decode cX10_layText 58 = .ok (.aload_n 0, 1) := by decide +kernel
theorem dX10_layText_59 : decode cX10_layText 59 = .ok (.getfield 51, 3) := by decide +kernel
theorem dX10_layText_62 : decode cX10_layText 62 = .ok (.invokevirtual 283, 3) := by decide +kernel
theorem dX10_layText_65 : decode cX10_layText 65 = .ok (.aload_n 0, 1) := by decide +kernel
theorem dX10_layText_66 : decode cX10_layText 66 = .ok (.getfield 91, 3) := by decide +kernel
theorem dX10_layText_69 : decode cX10_layText 69 = .ok (.invokevirtual 258, 3) := by decide +kernel
theorem dX10_layText_72 : decode cX10_layText 72 = .ok (.iconst 1, 1) := by decide +kernel
theorem dX10_layText_73 : decode cX10_layText 73 = .ok (.ireturn, 1) := by decide +kernel
theorem dX10_within_0 : decode cX10_within 0 = .ok (.iload_n 0, 1) := by decide +kernel
theorem dX10_within_1 : decode cX10_within 1 = .ok (.iload_n 1, 1) := by decide +kernel
theorem dX10_within_2 : decode cX10_within 2 = .ok (.if_icmp .lt 12, 3) := by decide +kernel
theorem dX10_within_5 : decode cX10_within 5 = .ok (.iload_n 0, 1) := by decide +kernel
theorem dX10_within_6 : decode cX10_within 6 = .ok (.iload_n 2, 1) := by decide +kernel
theorem dX10_within_7 : decode cX10_within 7 = .ok (.if_icmp .gt 7, 3) := by decide +kernel
theorem dX10_within_10 : decode cX10_within 10 = .ok (.iconst 1, 1) := by decide +kernel
theorem dX10_within_11 : decode cX10_within 11 = .ok (.goto 4, 3) := by decide +kernel
theorem dX10_within_14 : decode cX10_within 14 = .ok (.iconst 0, 1) := by decide +kernel
theorem dX10_within_15 : decode cX10_within 15 = .ok (.ireturn, 1) := by decide +kernel
theorem dX10_isWidth_0 : decode cX10_isWidth 0 = .ok (.iload_n 0, 1) := by decide +kernel
theorem dX10_isWidth_1 : decode cX10_isWidth 1 = .ok (.iconst 0, 1) := by decide +kernel
theorem dX10_isWidth_2 : decode cX10_isWidth 2 = .ok (.bipush 6, 2) := by decide +kernel
theorem dX10_isWidth_4 : decode cX10_isWidth 4 = .ok (.invokestatic 118, 3) := by decide +kernel
theorem dX10_isWidth_7 : decode cX10_isWidth 7 = .ok (.ireturn, 1) := by decide +kernel
theorem dX10_bit_0 : decode cX10_bit 0 = .ok (.iload_n 0, 1) := by decide +kernel
theorem dX10_bit_1 : decode cX10_bit 1 = .ok (.ifCond .lt 15, 3) := by decide +kernel
theorem dX10_bit_4 : decode cX10_bit 4 = .ok (.iload_n 0, 1) := by decide +kernel
theorem dX10_bit_5 : decode cX10_bit 5 = .ok (.bipush 16, 2) := by decide +kernel
theorem dX10_bit_7 : decode cX10_bit 7 = .ok (.if_icmp .ge 9, 3) := by decide +kernel
theorem dX10_bit_10 : decode cX10_bit 10 = .ok (.iconst 1, 1) := by decide +kernel
theorem dX10_bit_11 : decode cX10_bit 11 = .ok (.iload_n 0, 1) := by decide +kernel
theorem dX10_bit_12 : decode cX10_bit 12 = .ok (.ishl, 1) := by decide +kernel
theorem dX10_bit_13 : decode cX10_bit 13 = .ok (.goto 4, 3) := by decide +kernel
theorem dX10_bit_16 : decode cX10_bit 16 = .ok (.iconst 0, 1) := by decide +kernel
theorem dX10_bit_17 : decode cX10_bit 17 = .ok (.ireturn, 1) := by decide +kernel
theorem dX10_holds_0 : decode cX10_holds 0 = .ok (.iload_n 0, 1) := by decide +kernel
theorem dX10_holds_1 : decode cX10_holds 1 = .ok (.iload_n 1, 1) := by decide +kernel
theorem dX10_holds_2 : decode cX10_holds 2 = .ok (.invokestatic 202, 3) := by decide +kernel
theorem dX10_holds_5 : decode cX10_holds 5 = .ok (.iand, 1) := by decide +kernel
theorem dX10_holds_6 : decode cX10_holds 6 = .ok (.ifCond .eq 7, 3) := by decide +kernel
theorem dX10_holds_9 : decode cX10_holds 9 = .ok (.iconst 1, 1) := by decide +kernel
theorem dX10_holds_10 : decode cX10_holds 10 = .ok (.goto 4, 3) := by decide +kernel
theorem dX10_holds_13 : decode cX10_holds 13 = .ok (.iconst 0, 1) := by decide +kernel
theorem dX10_holds_14 : decode cX10_holds 14 = .ok (.ireturn, 1) := by decide +kernel
theorem dX10_at_0 : decode cX10_at 0 = .ok (.aload_n 0, 1) := by decide +kernel
theorem dX10_at_1 : decode cX10_at 1 = .ok (.ifnull 19, 3) := by decide +kernel
theorem dX10_at_4 : decode cX10_at 4 = .ok (.iload_n 1, 1) := by decide +kernel
theorem dX10_at_5 : decode cX10_at 5 = .ok (.ifCond .lt 15, 3) := by decide +kernel
theorem dX10_at_8 : decode cX10_at 8 = .ok (.iload_n 1, 1) := by decide +kernel
theorem dX10_at_9 : decode cX10_at 9 = .ok (.aload_n 0, 1) := by decide +kernel
theorem dX10_at_10 : decode cX10_at 10 = .ok (.arraylength, 1) := by decide +kernel
theorem dX10_at_11 : decode cX10_at 11 = .ok (.if_icmp .ge 9, 3) := by decide +kernel
theorem dX10_at_14 : decode cX10_at 14 = .ok (.aload_n 0, 1) := by decide +kernel
theorem dX10_at_15 : decode cX10_at 15 = .ok (.iload_n 1, 1) := by decide +kernel
theorem dX10_at_16 : decode cX10_at 16 = .ok (.iaload, 1) := by decide +kernel
theorem dX10_at_17 : decode cX10_at 17 = .ok (.goto 4, 3) := by decide +kernel
theorem dX10_at_20 : decode cX10_at 20 = .ok (.iconst 0, 1) := by decide +kernel
theorem dX10_at_21 : decode cX10_at 21 = .ok (.ireturn, 1) := by decide +kernel
theorem dX10_put_0 : decode cX10_put 0 = .ok (.aload_n 0, 1) := by decide +kernel
theorem dX10_put_1 : decode cX10_put 1 = .ok (.ifnull 17, 3) := by decide +kernel
theorem dX10_put_4 : decode cX10_put 4 = .ok (.iload_n 1, 1) := by decide +kernel
theorem dX10_put_5 : decode cX10_put 5 = .ok (.ifCond .lt 13, 3) := by decide +kernel
theorem dX10_put_8 : decode cX10_put 8 = .ok (.iload_n 1, 1) := by decide +kernel
theorem dX10_put_9 : decode cX10_put 9 = .ok (.aload_n 0, 1) := by decide +kernel
theorem dX10_put_10 : decode cX10_put 10 = .ok (.arraylength, 1) := by decide +kernel
theorem dX10_put_11 : decode cX10_put 11 = .ok (.if_icmp .ge 7, 3) := by decide +kernel
theorem dX10_put_14 : decode cX10_put 14 = .ok (.aload_n 0, 1) := by decide +kernel
theorem dX10_put_15 : decode cX10_put 15 = .ok (.iload_n 1, 1) := by decide +kernel
theorem dX10_put_16 : decode cX10_put 16 = .ok (.iload_n 2, 1) := by decide +kernel
theorem dX10_put_17 : decode cX10_put 17 = .ok (.iastore, 1) := by decide +kernel
theorem dX10_put_18 : decode cX10_put 18 = .ok (.return_, 1) := by decide +kernel
theorem dX10_fill_0 : decode cX10_fill 0 = .ok (.iconst 0, 1) := by decide +kernel
theorem dX10_fill_1 : decode cX10_fill 1 = .ok (.istore_n 2, 1) := by decide +kernel
theorem dX10_fill_2 : decode cX10_fill 2 = .ok (.aload_n 0, 1) := by decide +kernel
theorem dX10_fill_3 : decode cX10_fill 3 = .ok (.ifnull 19, 3) := by decide +kernel
theorem dX10_fill_6 : decode cX10_fill 6 = .ok (.iload_n 2, 1) := by decide +kernel
theorem dX10_fill_7 : decode cX10_fill 7 = .ok (.aload_n 0, 1) := by decide +kernel
theorem dX10_fill_8 : decode cX10_fill 8 = .ok (.arraylength, 1) := by decide +kernel
theorem dX10_fill_9 : decode cX10_fill 9 = .ok (.if_icmp .ge 13, 3) := by decide +kernel
theorem dX10_fill_12 : decode cX10_fill 12 = .ok (.aload_n 0, 1) := by decide +kernel
theorem dX10_fill_13 : decode cX10_fill 13 = .ok (.iload_n 2, 1) := by decide +kernel
theorem dX10_fill_14 : decode cX10_fill 14 = .ok (.iload_n 1, 1) := by decide +kernel
theorem dX10_fill_15 : decode cX10_fill 15 = .ok (.iastore, 1) := by decide +kernel
theorem dX10_fill_16 : decode cX10_fill 16 = .ok (.iinc 2 1, 3) := by decide +kernel
theorem dX10_fill_19 : decode cX10_fill 19 = .ok (.goto (-17), 3) := by decide +kernel
theorem dX10_fill_22 : decode cX10_fill 22 = .ok (.return_, 1) := by decide +kernel
theorem dX10_copy_0 : decode cX10_copy 0 = .ok (.iconst 0, 1) := by decide +kernel
theorem dX10_copy_1 : decode cX10_copy 1 = .ok (.istore_n 2, 1) := by decide +kernel
theorem dX10_copy_2 : decode cX10_copy 2 = .ok (.aload_n 1, 1) := by decide +kernel
theorem dX10_copy_3 : decode cX10_copy 3 = .ok (.ifnull 23, 3) := by decide +kernel
theorem dX10_copy_6 : decode cX10_copy 6 = .ok (.iload_n 2, 1) := by decide +kernel
theorem dX10_copy_7 : decode cX10_copy 7 = .ok (.aload_n 1, 1) := by decide +kernel
theorem dX10_copy_8 : decode cX10_copy 8 = .ok (.arraylength, 1) := by decide +kernel
theorem dX10_copy_9 : decode cX10_copy 9 = .ok (.if_icmp .ge 17, 3) := by decide +kernel
theorem dX10_copy_12 : decode cX10_copy 12 = .ok (.aload_n 1, 1) := by decide +kernel
theorem dX10_copy_13 : decode cX10_copy 13 = .ok (.iload_n 2, 1) := by decide +kernel
theorem dX10_copy_14 : decode cX10_copy 14 = .ok (.aload_n 0, 1) := by decide +kernel
theorem dX10_copy_15 : decode cX10_copy 15 = .ok (.iload_n 2, 1) := by decide +kernel
theorem dX10_copy_16 : decode cX10_copy 16 = .ok (.invokestatic 297, 3) := by decide +kernel
theorem dX10_copy_19 : decode cX10_copy 19 = .ok (.iastore, 1) := by decide +kernel
theorem dX10_copy_20 : decode cX10_copy 20 = .ok (.iinc 2 1, 3) := by decide +kernel
theorem dX10_copy_23 : decode cX10_copy 23 = .ok (.goto (-21), 3) := by decide +kernel
theorem dX10_copy_26 : decode cX10_copy 26 = .ok (.return_, 1) := by decide +kernel
theorem dX11_init_0 : decode cX11_init 0 = .ok (.aload_n 0, 1) := by decide +kernel
theorem dX11_init_1 : decode cX11_init 1 = .ok (.invokespecial 1, 3) := by decide +kernel
theorem dX11_init_4 : decode cX11_init 4 = .ok (.aload_n 0, 1) := by decide +kernel
theorem dX11_init_5 : decode cX11_init 5 = .ok (.bipush 16, 2) := by decide +kernel
theorem dX11_init_7 : decode cX11_init 7 = .ok (.newarray .int, 2) := by decide +kernel
theorem dX11_init_9 : decode cX11_init 9 = .ok (.putfield 7, 3) := by decide +kernel
theorem dX11_init_12 : decode cX11_init 12 = .ok (.aload_n 0, 1) := by decide +kernel
theorem dX11_init_13 : decode cX11_init 13 = .ok (.bipush 15, 2) := by decide +kernel
theorem dX11_init_15 : decode cX11_init 15 = .ok (.newarray .int, 2) := by decide +kernel
theorem dX11_init_17 : decode cX11_init 17 = .ok (.putfield 13, 3) := by decide +kernel
theorem dX11_init_20 : decode cX11_init 20 = .ok (.aload_n 0, 1) := by decide +kernel
theorem dX11_init_21 : decode cX11_init 21 = .ok (.bipush 8, 2) := by decide +kernel
theorem dX11_init_23 : decode cX11_init 23 = .ok (.newarray .int, 2) := by decide +kernel
theorem dX11_init_25 : decode cX11_init 25 = .ok (.putfield 16, 3) := by decide +kernel
theorem dX11_init_28 : decode cX11_init 28 = .ok (.aload_n 0, 1) := by decide +kernel
theorem dX11_init_29 : decode cX11_init 29 = .ok (.bipush 22, 2) := by decide +kernel
theorem dX11_init_31 : decode cX11_init 31 = .ok (.newarray .int, 2) := by decide +kernel
theorem dX11_init_33 : decode cX11_init 33 = .ok (.putfield 19, 3) := by decide +kernel
theorem dX11_init_36 : decode cX11_init 36 = .ok (.aload_n 0, 1) := by decide +kernel
theorem dX11_init_37 : decode cX11_init 37 = .ok (.sipush 176, 3) := by decide +kernel
theorem dX11_init_40 : decode cX11_init 40 = .ok (.newarray .int, 2) := by decide +kernel
theorem dX11_init_42 : decode cX11_init 42 = .ok (.putfield 22, 3) := by decide +kernel
theorem dX11_init_45 : decode cX11_init 45 = .ok (.aload_n 0, 1) := by decide +kernel
theorem dX11_init_46 : decode cX11_init 46 = .ok (.bipush 44, 2) := by decide +kernel
theorem dX11_init_48 : decode cX11_init 48 = .ok (.newarray .int, 2) := by decide +kernel
theorem dX11_init_50 : decode cX11_init 50 = .ok (.putfield 25, 3) := by decide +kernel
theorem dX11_init_53 : decode cX11_init 53 = .ok (.aload_n 0, 1) := by decide +kernel
theorem dX11_init_54 : decode cX11_init 54 = .ok (.bipush 24, 2) := by decide +kernel
theorem dX11_init_56 : decode cX11_init 56 = .ok (.newarray .int, 2) := by decide +kernel
theorem dX11_init_58 : decode cX11_init 58 = .ok (.putfield 28, 3) := by decide +kernel
theorem dX11_init_61 : decode cX11_init 61 = .ok (.aload_n 0, 1) := by decide +kernel
theorem dX11_init_62 : decode cX11_init 62 = .ok (.sipush 200, 3) := by decide +kernel
theorem dX11_init_65 : decode cX11_init 65 = .ok (.newarray .int, 2) := by decide +kernel
theorem dX11_init_67 : decode cX11_init 67 = .ok (.putfield 31, 3) := by decide +kernel
theorem dX11_init_70 : decode cX11_init 70 = .ok (.aload_n 0, 1) := by decide +kernel
theorem dX11_init_71 : decode cX11_init 71 = .ok (.iconst 3, 1) := by decide +kernel
theorem dX11_init_72 : decode cX11_init 72 = .ok (.newarray .int, 2) := by decide +kernel
theorem dX11_init_74 : decode cX11_init 74 = .ok (.putfield 34, 3) := by decide +kernel
theorem dX11_init_77 : decode cX11_init 77 = .ok (.aload_n 0, 1) := by decide +kernel
theorem dX11_init_78 : decode cX11_init 78 = .ok (.bipush 16, 2) := by decide +kernel
theorem dX11_init_80 : decode cX11_init 80 = .ok (.newarray .int, 2) := by decide +kernel
theorem dX11_init_82 : decode cX11_init 82 = .ok (.putfield 37, 3) := by decide +kernel
theorem dX11_init_85 : decode cX11_init 85 = .ok (.aload_n 0, 1) := by decide +kernel
theorem dX11_init_86 : decode cX11_init 86 = .ok (.bipush 16, 2) := by decide +kernel
theorem dX11_init_88 : decode cX11_init 88 = .ok (.newarray .int, 2) := by decide +kernel
theorem dX11_init_90 : decode cX11_init 90 = .ok (.putfield 40, 3) := by decide +kernel
theorem dX11_init_93 : decode cX11_init 93 = .ok (.aload_n 0, 1) := by decide +kernel
theorem dX11_init_94 : decode cX11_init 94 = .ok (.bipush 15, 2) := by decide +kernel
theorem dX11_init_96 : decode cX11_init 96 = .ok (.newarray .int, 2) := by decide +kernel
theorem dX11_init_98 : decode cX11_init 98 = .ok (.putfield 43, 3) := by decide +kernel
theorem dX11_init_101 : decode cX11_init 101 = .ok (.aload_n 0, 1) := by decide +kernel
theorem dX11_init_102 : decode cX11_init 102 = .ok (.bipush 8, 2) := by decide +kernel
theorem dX11_init_104 : decode cX11_init 104 = .ok (.newarray .int, 2) := by decide +kernel
theorem dX11_init_106 : decode cX11_init 106 = .ok (.putfield 46, 3) := by decide +kernel
theorem dX11_init_109 : decode cX11_init 109 = .ok (.aload_n 0, 1) := by decide +kernel
theorem dX11_init_110 : decode cX11_init 110 = .ok (.bipush 22, 2) := by decide +kernel
theorem dX11_init_112 : decode cX11_init 112 = .ok (.newarray .int, 2) := by decide +kernel
theorem dX11_init_114 : decode cX11_init 114 = .ok (.putfield 49, 3) := by decide +kernel
theorem dX11_init_117 : decode cX11_init 117 = .ok (.aload_n 0, 1) := by decide +kernel
theorem dX11_init_118 : decode cX11_init 118 = .ok (.invokevirtual 52, 3) := by decide +kernel
theorem dX11_init_121 : decode cX11_init 121 = .ok (.aload_n 0, 1) := by decide +kernel
theorem dX11_init_122 : decode cX11_init 122 = .ok (.iconst 1, 1) := by decide +kernel
theorem dX11_init_123 : decode cX11_init 123 = .ok (.iconst 1, 1) := by decide +kernel
theorem dX11_init_124 : decode cX11_init 124 = .ok (.iconst 3, 1) := by decide +kernel
theorem dX11_init_125 : decode cX11_init 125 = .ok (.invokevirtual 55, 3) := by decide +kernel
theorem dX11_init_128 : decode cX11_init 128 = .ok (.aload_n 0, 1) := by decide +kernel
theorem dX11_init_129 : decode cX11_init 129 = .ok (.iconst 4, 1) := by decide +kernel
theorem dX11_init_130 : decode cX11_init 130 = .ok (.iconst 2, 1) := by decide +kernel
theorem dX11_init_131 : decode cX11_init 131 = .ok (.iconst 4, 1) := by decide +kernel
theorem dX11_init_132 : decode cX11_init 132 = .ok (.invokevirtual 55, 3) := by decide +kernel
theorem dX11_init_135 : decode cX11_init 135 = .ok (.aload_n 0, 1) := by decide +kernel
theorem dX11_init_136 : decode cX11_init 136 = .ok (.bipush 6, 2) := by decide +kernel
theorem dX11_init_138 : decode cX11_init 138 = .ok (.iconst 3, 1) := by decide +kernel
theorem dX11_init_139 : decode cX11_init 139 = .ok (.iconst 5, 1) := by decide +kernel
theorem dX11_init_140 : decode cX11_init 140 = .ok (.invokevirtual 55, 3) := by decide +kernel
theorem dX11_init_143 : decode cX11_init 143 = .ok (.aload_n 0, 1) := by decide +kernel
theorem dX11_init_144 : decode cX11_init 144 = .ok (.bipush 9, 2) := by decide +kernel
theorem dX11_init_146 : decode cX11_init 146 = .ok (.iconst 4, 1) := by decide +kernel
theorem dX11_init_147 : decode cX11_init 147 = .ok (.iconst 2, 1) := by decide +kernel
theorem dX11_init_148 : decode cX11_init 148 = .ok (.invokevirtual 55, 3) := by decide +kernel
theorem dX11_init_151 : decode cX11_init 151 = .ok (.aload_n 0, 1) := by decide +kernel
theorem dX11_init_152 : decode cX11_init 152 = .ok (.bipush 10, 2) := by decide +kernel
theorem dX11_init_154 : decode cX11_init 154 = .ok (.iconst 0, 1) := by decide +kernel
theorem dX11_init_155 : decode cX11_init 155 = .ok (.iconst 0, 1) := by decide +kernel
theorem dX11_init_156 : decode cX11_init 156 = .ok (.invokevirtual 55, 3) := by decide +kernel
theorem dX11_init_159 : decode cX11_init 159 = .ok (.aload_n 0, 1) := by decide +kernel
theorem dX11_init_160 : decode cX11_init 160 = .ok (.bipush 11, 2) := by decide +kernel
theorem dX11_init_162 : decode cX11_init 162 = .ok (.iconst 1, 1) := by decide +kernel
theorem dX11_init_163 : decode cX11_init 163 = .ok (.iconst 1, 1) := by decide +kernel
theorem dX11_init_164 : decode cX11_init 164 = .ok (.invokevirtual 55, 3) := by decide +kernel
theorem dX11_init_167 : decode cX11_init 167 = .ok (.aload_n 0, 1) := by decide +kernel
theorem dX11_init_168 : decode cX11_init 168 = .ok (.iconst 0, 1) := by decide +kernel
theorem dX11_init_169 : decode cX11_init 169 = .ok (.iconst 1, 1) := by decide +kernel
theorem dX11_init_170 : decode cX11_init 170 = .ok (.iconst 0, 1) := by decide +kernel
theorem dX11_init_171 : decode cX11_init 171 = .ok (.invokevirtual 59, 3) := by decide +kernel
theorem dX11_init_174 : decode cX11_init 174 = .ok (.aload_n 0, 1) := by decide +kernel
theorem dX11_init_175 : decode cX11_init 175 = .ok (.iconst 1, 1) := by decide +kernel
theorem dX11_init_176 : decode cX11_init 176 = .ok (.iconst 2, 1) := by decide +kernel
theorem dX11_init_177 : decode cX11_init 177 = .ok (.iconst 5, 1) := by decide +kernel
theorem dX11_init_178 : decode cX11_init 178 = .ok (.invokevirtual 59, 3) := by decide +kernel
theorem dX11_init_181 : decode cX11_init 181 = .ok (.aload_n 0, 1) := by decide +kernel
theorem dX11_init_182 : decode cX11_init 182 = .ok (.iconst 2, 1) := by decide +kernel
theorem dX11_init_183 : decode cX11_init 183 = .ok (.iconst 3, 1) := by decide +kernel
theorem dX11_init_184 : decode cX11_init 184 = .ok (.bipush 8, 2) := by decide +kernel
theorem dX11_init_186 : decode cX11_init 186 = .ok (.invokevirtual 59, 3) := by decide +kernel
theorem dX11_init_189 : decode cX11_init 189 = .ok (.aload_n 0, 1) := by decide +kernel
theorem dX11_init_190 : decode cX11_init 190 = .ok (.getfield 46, 3) := by decide +kernel
theorem dX11_init_193 : decode cX11_init 193 = .ok (.iconst 0, 1) := by decide +kernel
theorem dX11_init_194 : decode cX11_init 194 = .ok (.iconst 2, 1) := by decide +kernel
theorem dX11_init_195 : decode cX11_init 195 = .ok (.iastore, 1) := by decide +kernel
theorem dX11_init_196 : decode cX11_init 196 = .ok (.aload_n 0, 1) := by decide +kernel
theorem dX11_init_197 : decode cX11_init 197 = .ok (.getfield 46, 3) := by decide +kernel
theorem dX11_init_200 : decode cX11_init 200 = .ok (.iconst 1, 1) := by decide +kernel
theorem dX11_init_201 : decode cX11_init 201 = .ok (.iconst 3, 1) := by decide +kernel
theorem dX11_init_202 : decode cX11_init 202 = .ok (.iastore, 1) := by decide +kernel
theorem dX11_init_203 : decode cX11_init 203 = .ok (.aload_n 0, 1) := by decide +kernel
theorem dX11_init_204 : decode cX11_init 204 = .ok (.getfield 46, 3) := by decide +kernel
theorem dX11_init_207 : decode cX11_init 207 = .ok (.iconst 2, 1) := by decide +kernel
theorem dX11_init_208 : decode cX11_init 208 = .ok (.iconst 0, 1) := by decide +kernel
theorem dX11_init_209 : decode cX11_init 209 = .ok (.iastore, 1) := by decide +kernel
theorem dX11_init_210 : decode cX11_init 210 = .ok (.aload_n 0, 1) := by decide +kernel
theorem dX11_init_211 : decode cX11_init 211 = .ok (.getfield 46, 3) := by decide +kernel
theorem dX11_init_214 : decode cX11_init 214 = .ok (.iconst 3, 1) := by decide +kernel
theorem dX11_init_215 : decode cX11_init 215 = .ok (.iconst 1, 1) := by decide +kernel
theorem dX11_init_216 : decode cX11_init 216 = .ok (.iastore, 1) := by decide +kernel
theorem dX11_init_217 : decode cX11_init 217 = .ok (.aload_n 0, 1) := by decide +kernel
theorem dX11_init_218 : decode cX11_init 218 = .ok (.iconst 4, 1) := by decide +kernel
theorem dX11_init_219 : decode cX11_init 219 = .ok (.putfield 62, 3) := by decide +kernel
theorem dX11_init_222 : decode cX11_init 222 = .ok (.aload_n 0, 1) := by decide +kernel
theorem dX11_init_223 : decode cX11_init 223 = .ok (.invokevirtual 66, 3) := by decide +kernel
theorem dX11_init_226 : decode cX11_init 226 = .ok (.return_, 1) := by decide +kernel
theorem dX11_tellsHouse_0 : decode cX11_tellsHouse 0 = .ok (.aload_n 0, 1) := by decide +kernel
theorem dX11_tellsHouse_1 : decode cX11_tellsHouse 1 = .ok (.getfield 37, 3) := by decide +kernel
theorem dX11_tellsHouse_4 : decode cX11_tellsHouse 4 = .ok (.iload_n 1, 1) := by decide +kernel
theorem dX11_tellsHouse_5 : decode cX11_tellsHouse 5 = .ok (.iload_n 2, 1) := by decide +kernel
theorem dX11_tellsHouse_6 : decode cX11_tellsHouse 6 = .ok (.iastore, 1) := by decide +kernel
theorem dX11_tellsHouse_7 : decode cX11_tellsHouse 7 = .ok (.aload_n 0, 1) := by decide +kernel
theorem dX11_tellsHouse_8 : decode cX11_tellsHouse 8 = .ok (.getfield 40, 3) := by decide +kernel
theorem dX11_tellsHouse_11 : decode cX11_tellsHouse 11 = .ok (.iload_n 1, 1) := by decide +kernel
theorem dX11_tellsHouse_12 : decode cX11_tellsHouse 12 = .ok (.iload_n 3, 1) := by decide +kernel
theorem dX11_tellsHouse_13 : decode cX11_tellsHouse 13 = .ok (.iastore, 1) := by decide +kernel
theorem dX11_tellsHouse_14 : decode cX11_tellsHouse 14 = .ok (.return_, 1) := by decide +kernel
theorem dX11_tellsNews_0 : decode cX11_tellsNews 0 = .ok (.aload_n 0, 1) := by decide +kernel
theorem dX11_tellsNews_1 : decode cX11_tellsNews 1 = .ok (.getfield 43, 3) := by decide +kernel
theorem dX11_tellsNews_4 : decode cX11_tellsNews 4 = .ok (.iconst 3, 1) := by decide +kernel
theorem dX11_tellsNews_5 : decode cX11_tellsNews 5 = .ok (.aload_n 0, 1) := by decide +kernel
theorem dX11_tellsNews_6 : decode cX11_tellsNews 6 = .ok (.getfield 69, 3) := by decide +kernel
theorem dX11_tellsNews_9 : decode cX11_tellsNews 9 = .ok (.imul, 1) := by decide +kernel
theorem dX11_tellsNews_10 : decode cX11_tellsNews 10 = .ok (.iload_n 1, 1) := by decide +kernel
theorem dX11_tellsNews_11 : decode cX11_tellsNews 11 = .ok (.iastore, 1) := by decide +kernel
theorem dX11_tellsNews_12 : decode cX11_tellsNews 12 = .ok (.aload_n 0, 1) := by decide +kernel
theorem dX11_tellsNews_13 : decode cX11_tellsNews 13 = .ok (.getfield 43, 3) := by decide +kernel
theorem dX11_tellsNews_16 : decode cX11_tellsNews 16 = .ok (.iconst 3, 1) := by decide +kernel
theorem dX11_tellsNews_17 : decode cX11_tellsNews 17 = .ok (.aload_n 0, 1) := by decide +kernel
theorem dX11_tellsNews_18 : decode cX11_tellsNews 18 = .ok (.getfield 69, 3) := by decide +kernel
theorem dX11_tellsNews_21 : decode cX11_tellsNews 21 = .ok (.imul, 1) := by decide +kernel
theorem dX11_tellsNews_22 : decode cX11_tellsNews 22 = .ok (.iconst 1, 1) := by decide +kernel
theorem dX11_tellsNews_23 : decode cX11_tellsNews 23 = .ok (.iadd, 1) := by decide +kernel
theorem dX11_tellsNews_24 : decode cX11_tellsNews 24 = .ok (.iload_n 2, 1) := by decide +kernel
theorem dX11_tellsNews_25 : decode cX11_tellsNews 25 = .ok (.iastore, 1) := by decide +kernel
theorem dX11_tellsNews_26 : decode cX11_tellsNews 26 = .ok (.aload_n 0, 1) := by decide +kernel
theorem dX11_tellsNews_27 : decode cX11_tellsNews 27 = .ok (.getfield 43, 3) := by decide +kernel
theorem dX11_tellsNews_30 : decode cX11_tellsNews 30 = .ok (.iconst 3, 1) := by decide +kernel
theorem dX11_tellsNews_31 : decode cX11_tellsNews 31 = .ok (.aload_n 0, 1) := by decide +kernel
theorem dX11_tellsNews_32 : decode cX11_tellsNews 32 = .ok (.getfield 69, 3) := by decide +kernel
theorem dX11_tellsNews_35 : decode cX11_tellsNews 35 = .ok (.imul, 1) := by decide +kernel
theorem dX11_tellsNews_36 : decode cX11_tellsNews 36 = .ok (.iconst 2, 1) := by decide +kernel
theorem dX11_tellsNews_37 : decode cX11_tellsNews 37 = .ok (.iadd, 1) := by decide +kernel
theorem dX11_tellsNews_38 : decode cX11_tellsNews 38 = .ok (.iload_n 3, 1) := by decide +kernel
theorem dX11_tellsNews_39 : decode cX11_tellsNews 39 = .ok (.iastore, 1) := by decide +kernel
theorem dX11_tellsNews_40 : decode cX11_tellsNews 40 = .ok (.aload_n 0, 1) := by decide +kernel
theorem dX11_tellsNews_41 : decode cX11_tellsNews 41 = .ok (.dup, 1) := by decide +kernel
theorem dX11_tellsNews_42 : decode cX11_tellsNews 42 = .ok (.getfield 69, 3) := by decide +kernel
theorem dX11_tellsNews_45 : decode cX11_tellsNews 45 = .ok (.iconst 1, 1) := by decide +kernel
theorem dX11_tellsNews_46 : decode cX11_tellsNews 46 = .ok (.iadd, 1) := by decide +kernel
theorem dX11_tellsNews_47 : decode cX11_tellsNews 47 = .ok (.putfield 69, 3) := by decide +kernel
theorem dX11_tellsNews_50 : decode cX11_tellsNews 50 = .ok (.return_, 1) := by decide +kernel
theorem dX11_in_0 : decode cX11_in 0 = .ok (.iload_n 0, 1) := by decide +kernel
theorem dX11_in_1 : decode cX11_in 1 = .ok (.iload_n 1, 1) := by decide +kernel
theorem dX11_in_2 : decode cX11_in 2 = .ok (.if_icmp .lt 12, 3) := by decide +kernel
theorem dX11_in_5 : decode cX11_in 5 = .ok (.iload_n 0, 1) := by decide +kernel
theorem dX11_in_6 : decode cX11_in 6 = .ok (.iload_n 2, 1) := by decide +kernel
theorem dX11_in_7 : decode cX11_in 7 = .ok (.if_icmp .gt 7, 3) := by decide +kernel
theorem dX11_in_10 : decode cX11_in 10 = .ok (.iconst 1, 1) := by decide +kernel
theorem dX11_in_11 : decode cX11_in 11 = .ok (.goto 4, 3) := by decide +kernel
theorem dX11_in_14 : decode cX11_in 14 = .ok (.iconst 0, 1) := by decide +kernel
theorem dX11_in_15 : decode cX11_in 15 = .ok (.ireturn, 1) := by decide +kernel
theorem dX11_has_0 : decode cX11_has 0 = .ok (.iload_n 0, 1) := by decide +kernel
theorem dX11_has_1 : decode cX11_has 1 = .ok (.iload_n 1, 1) := by decide +kernel
theorem dX11_has_2 : decode cX11_has 2 = .ok (.ishr, 1) := by decide +kernel
theorem dX11_has_3 : decode cX11_has 3 = .ok (.iconst 1, 1) := by decide +kernel
theorem dX11_has_4 : decode cX11_has 4 = .ok (.iand, 1) := by decide +kernel
theorem dX11_has_5 : decode cX11_has 5 = .ok (.iconst 1, 1) := by decide +kernel
theorem dX11_has_6 : decode cX11_has 6 = .ok (.if_icmp .ne 7, 3) := by decide +kernel
theorem dX11_has_9 : decode cX11_has 9 = .ok (.iconst 1, 1) := by decide +kernel
theorem dX11_has_10 : decode cX11_has 10 = .ok (.goto 4, 3) := by decide +kernel
theorem dX11_has_13 : decode cX11_has 13 = .ok (.iconst 0, 1) := by decide +kernel
theorem dX11_has_14 : decode cX11_has 14 = .ok (.ireturn, 1) := by decide +kernel
theorem dX11_bits_0 : decode cX11_bits 0 = .ok (.iconst 0, 1) := by decide +kernel
theorem dX11_bits_1 : decode cX11_bits 1 = .ok (.istore_n 1, 1) := by decide +kernel
theorem dX11_bits_2 : decode cX11_bits 2 = .ok (.iconst 0, 1) := by decide +kernel
theorem dX11_bits_3 : decode cX11_bits 3 = .ok (.istore_n 2, 1) := by decide +kernel
theorem dX11_bits_4 : decode cX11_bits 4 = .ok (.iload_n 2, 1) := by decide +kernel
theorem dX11_bits_5 : decode cX11_bits 5 = .ok (.bipush 16, 2) := by decide +kernel
theorem dX11_bits_7 : decode cX11_bits 7 = .ok (.if_icmp .ge 17, 3) := by decide +kernel
theorem dX11_bits_10 : decode cX11_bits 10 = .ok (.iload_n 1, 1) := by decide +kernel
theorem dX11_bits_11 : decode cX11_bits 11 = .ok (.iload_n 0, 1) := by decide +kernel
theorem dX11_bits_12 : decode cX11_bits 12 = .ok (.iload_n 2, 1) := by decide +kernel
theorem dX11_bits_13 : decode cX11_bits 13 = .ok (.ishr, 1) := by decide +kernel
theorem dX11_bits_14 : decode cX11_bits 14 = .ok (.iconst 1, 1) := by decide +kernel
theorem dX11_bits_15 : decode cX11_bits 15 = .ok (.iand, 1) := by decide +kernel
theorem dX11_bits_16 : decode cX11_bits 16 = .ok (.iadd, 1) := by decide +kernel
theorem dX11_bits_17 : decode cX11_bits 17 = .ok (.istore_n 1, 1) := by decide +kernel
theorem dX11_bits_18 : decode cX11_bits 18 = .ok (.iinc 2 1, 3) := by decide +kernel
theorem dX11_bits_21 : decode cX11_bits 21 = .ok (.goto (-17), 3) := by decide +kernel
theorem dX11_bits_24 : decode cX11_bits 24 = .ok (.iload_n 1, 1) := by decide +kernel
theorem dX11_bits_25 : decode cX11_bits 25 = .ok (.ireturn, 1) := by decide +kernel
theorem dX11_isHouse_0 : decode cX11_isHouse 0 = .ok (.iload_n 1, 1) := by decide +kernel
theorem dX11_isHouse_1 : decode cX11_isHouse 1 = .ok (.iconst 0, 1) := by decide +kernel
theorem dX11_isHouse_2 : decode cX11_isHouse 2 = .ok (.aload_n 0, 1) := by decide +kernel
theorem dX11_isHouse_3 : decode cX11_isHouse 3 = .ok (.getfield 72, 3) := by decide +kernel
theorem dX11_isHouse_6 : decode cX11_isHouse 6 = .ok (.iconst 1, 1) := by decide +kernel
theorem dX11_isHouse_7 : decode cX11_isHouse 7 = .ok (.isub, 1) := by decide +kernel
theorem dX11_isHouse_8 : decode cX11_isHouse 8 = .ok (.invokestatic 75, 3) := by decide +kernel
theorem dX11_isHouse_11 : decode cX11_isHouse 11 = .ok (.ireturn, 1) := by decide +kernel
theorem dX11_isNews_0 : decode cX11_isNews 0 = .ok (.iload_n 1, 1) := by decide +kernel
theorem dX11_isNews_1 : decode cX11_isNews 1 = .ok (.iconst 0, 1) := by decide +kernel
theorem dX11_isNews_2 : decode cX11_isNews 2 = .ok (.aload_n 0, 1) := by decide +kernel
theorem dX11_isNews_3 : decode cX11_isNews 3 = .ok (.getfield 79, 3) := by decide +kernel
theorem dX11_isNews_6 : decode cX11_isNews 6 = .ok (.iconst 1, 1) := by decide +kernel
theorem dX11_isNews_7 : decode cX11_isNews 7 = .ok (.isub, 1) := by decide +kernel
theorem dX11_isNews_8 : decode cX11_isNews 8 = .ok (.invokestatic 75, 3) := by decide +kernel
theorem dX11_isNews_11 : decode cX11_isNews 11 = .ok (.ireturn, 1) := by decide +kernel
theorem dX11_write_0 : decode cX11_write 0 = .ok (.iload_n 1, 1) := by decide +kernel
theorem dX11_write_1 : decode cX11_write 1 = .ok (.bipush 32, 2) := by decide +kernel
theorem dX11_write_3 : decode cX11_write 3 = .ok (.bipush 126, 2) := by decide +kernel
theorem dX11_write_5 : decode cX11_write 5 = .ok (.invokestatic 75, 3) := by decide +kernel
theorem dX11_write_8 : decode cX11_write 8 = .ok (.ifCond .ne 5, 3) := by decide +kernel
theorem dX11_write_11 : decode cX11_write 11 = .ok (.iconst (-1), 1) := by decide +kernel
theorem dX11_write_12 : decode cX11_write 12 = .ok (.ireturn, 1) := by decide +kernel
theorem dX11_write_13 : decode cX11_write 13 = .ok (.aload_n 0, 1) := by decide +kernel
theorem dX11_write_14 : decode cX11_write 14 = .ok (.getfield 82, 3) := by decide +kernel
theorem dX11_write_17 : decode cX11_write 17 = .ok (.sipush 200, 3) := by decide +kernel
theorem dX11_write_20 : decode cX11_write 20 = .ok (.if_icmp .ne 6, 3) := by decide +kernel
theorem dX11_write_23 : decode cX11_write 23 = .ok (.bipush (-3), 2) := by decide +kernel
theorem dX11_write_25 : decode cX11_write 25 = .ok (.ireturn, 1) := by decide +kernel
theorem dX11_write_26 : decode cX11_write 26 = .ok (.aload_n 0, 1) := by decide +kernel
theorem dX11_write_27 : decode cX11_write 27 = .ok (.getfield 31, 3) := by decide +kernel
theorem dX11_write_30 : decode cX11_write 30 = .ok (.aload_n 0, 1) := by decide +kernel
theorem dX11_write_31 : decode cX11_write 31 = .ok (.getfield 82, 3) := by decide +kernel
theorem dX11_write_34 : decode cX11_write 34 = .ok (.iload_n 1, 1) := by decide +kernel
theorem dX11_write_35 : decode cX11_write 35 = .ok (.iastore, 1) := by decide +kernel
theorem dX11_write_36 : decode cX11_write 36 = .ok (.aload_n 0, 1) := by decide +kernel
theorem dX11_write_37 : decode cX11_write 37 = .ok (.dup, 1) := by decide +kernel
theorem dX11_write_38 : decode cX11_write 38 = .ok (.getfield 82, 3) := by decide +kernel
theorem dX11_write_41 : decode cX11_write 41 = .ok (.iconst 1, 1) := by decide +kernel
theorem dX11_write_42 : decode cX11_write 42 = .ok (.iadd, 1) := by decide +kernel
theorem dX11_write_43 : decode cX11_write 43 = .ok (.putfield 82, 3) := by decide +kernel
theorem dX11_write_46 : decode cX11_write 46 = .ok (.aload_n 0, 1) := by decide +kernel
theorem dX11_write_47 : decode cX11_write 47 = .ok (.getfield 82, 3) := by decide +kernel
theorem dX11_write_50 : decode cX11_write 50 = .ok (.ireturn, 1) := by decide +kernel
theorem dX11_wipe_0 : decode cX11_wipe 0 = .ok (.aload_n 0, 1) := by decide +kernel
theorem dX11_wipe_1 : decode cX11_wipe 1 = .ok (.getfield 82, 3) := by decide +kernel
theorem dX11_wipe_4 : decode cX11_wipe 4 = .ok (.istore_n 1, 1) := by decide +kernel
theorem dX11_wipe_5 : decode cX11_wipe 5 = .ok (.aload_n 0, 1) := by decide +kernel
theorem dX11_wipe_6 : decode cX11_wipe 6 = .ok (.iconst 0, 1) := by decide +kernel
theorem dX11_wipe_7 : decode cX11_wipe 7 = .ok (.putfield 82, 3) := by decide +kernel
theorem dX11_wipe_10 : decode cX11_wipe 10 = .ok (.iload_n 1, 1) := by decide +kernel
theorem dX11_wipe_11 : decode cX11_wipe 11 = .ok (.ireturn, 1) := by decide +kernel
theorem dX11_letterAt_0 : decode cX11_letterAt 0 = .ok (.iload_n 1, 1) := by decide +kernel
theorem dX11_letterAt_1 : decode cX11_letterAt 1 = .ok (.aload_n 0, 1) := by decide +kernel
theorem dX11_letterAt_2 : decode cX11_letterAt 2 = .ok (.getfield 82, 3) := by decide +kernel
theorem dX11_letterAt_5 : decode cX11_letterAt 5 = .ok (.if_icmp .ge 12, 3) := by decide +kernel
theorem dX11_letterAt_8 : decode cX11_letterAt 8 = .ok (.aload_n 0, 1) := by decide +kernel
theorem dX11_letterAt_9 : decode cX11_letterAt 9 = .ok (.getfield 31, 3) := by decide +kernel
theorem dX11_letterAt_12 : decode cX11_letterAt 12 = .ok (.iload_n 1, 1) := by decide +kernel
theorem dX11_letterAt_13 : decode cX11_letterAt 13 = .ok (.iaload, 1) := by decide +kernel
theorem dX11_letterAt_14 : decode cX11_letterAt 14 = .ok (.goto 4, 3) := by decide +kernel
theorem dX11_letterAt_17 : decode cX11_letterAt 17 = .ok (.iconst (-1), 1) := by decide +kernel
theorem dX11_letterAt_18 : decode cX11_letterAt 18 = .ok (.ireturn, 1) := by decide +kernel
theorem dX11_isFigure_0 : decode cX11_isFigure 0 = .ok (.iload_n 0, 1) := by decide +kernel
theorem dX11_isFigure_1 : decode cX11_isFigure 1 = .ok (.bipush 48, 2) := by decide +kernel
theorem dX11_isFigure_3 : decode cX11_isFigure 3 = .ok (.bipush 57, 2) := by decide +kernel
theorem dX11_isFigure_5 : decode cX11_isFigure 5 = .ok (.invokestatic 75, 3) := by decide +kernel
theorem dX11_isFigure_8 : decode cX11_isFigure 8 = .ok (.ireturn, 1) := by decide +kernel
theorem dX11_readNumbers_0 : decode cX11_readNumbers 0 = .ok (.iconst 0, 1) := by decide +kernel
theorem dX11_readNumbers_1 : decode cX11_readNumbers 1 = .ok (.istore_n 2, 1) := by decide +kernel
theorem dX11_readNumbers_2 : decode cX11_readNumbers 2 = .ok (.iload_n 2, 1) := by decide +kernel
theorem dX11_readNumbers_3 : decode cX11_readNumbers 3 = .ok (.iload_n 1, 1) := by decide +kernel
theorem dX11_readNumbers_4 : decode cX11_readNumbers 4 = .ok (.if_icmp .ge 140, 3) := by decide +kernel
theorem dX11_readNumbers_7 : decode cX11_readNumbers 7 = .ok (.aload_n 0, 1) := by decide +kernel
theorem dX11_readNumbers_8 : decode cX11_readNumbers 8 = .ok (.aload_n 0, 1) := by decide +kernel
theorem dX11_readNumbers_9 : decode cX11_readNumbers 9 = .ok (.getfield 85, 3) := by decide +kernel
theorem dX11_readNumbers_12 : decode cX11_readNumbers 12 = .ok (.invokevirtual 88, 3) := by decide +kernel
theorem dX11_readNumbers_15 : decode cX11_readNumbers 15 = .ok (.invokestatic 92, 3) := by decide +kernel
theorem dX11_readNumbers_18 : decode cX11_readNumbers 18 = .ok (.ifCond .ne 5, 3) := by decide +kernel
theorem dX11_readNumbers_21 : decode cX11_readNumbers 21 = .ok (.iconst 0, 1) := by decide +kernel
theorem dX11_readNumbers_22 : decode cX11_readNumbers 22 = .ok (.ireturn, 1) := by decide +kernel
theorem dX11_readNumbers_23 : decode cX11_readNumbers 23 = .ok (.aload_n 0, 1) := by decide +kernel
theorem dX11_readNumbers_24 : decode cX11_readNumbers 24 = .ok (.getfield 34, 3) := by decide +kernel
theorem dX11_readNumbers_27 : decode cX11_readNumbers 27 = .ok (.iload_n 2, 1) := by decide +kernel
theorem dX11_readNumbers_28 : decode cX11_readNumbers 28 = .ok (.aload_n 0, 1) := by decide +kernel
theorem dX11_readNumbers_29 : decode cX11_readNumbers 29 = .ok (.aload_n 0, 1) := by decide +kernel
theorem dX11_readNumbers_30 : decode cX11_readNumbers 30 = .ok (.getfield 85, 3) := by decide +kernel
theorem dX11_readNumbers_33 : decode cX11_readNumbers 33 = .ok (.invokevirtual 88, 3) := by decide +kernel
theorem dX11_readNumbers_36 : decode cX11_readNumbers 36 = .ok (.bipush 48, 2) := by decide +kernel
theorem dX11_readNumbers_38 : decode cX11_readNumbers 38 = .ok (.isub, 1) := by decide +kernel
theorem dX11_readNumbers_39 : decode cX11_readNumbers 39 = .ok (.iastore, 1) := by decide +kernel
theorem dX11_readNumbers_40 : decode cX11_readNumbers 40 = .ok (.aload_n 0, 1) := by decide +kernel
theorem dX11_readNumbers_41 : decode cX11_readNumbers 41 = .ok (.dup, 1) := by decide +kernel
theorem dX11_readNumbers_42 : decode cX11_readNumbers 42 = .ok (.getfield 85, 3) := by decide +kernel
theorem dX11_readNumbers_45 : decode cX11_readNumbers 45 = .ok (.iconst 1, 1) := by decide +kernel
theorem dX11_readNumbers_46 : decode cX11_readNumbers 46 = .ok (.iadd, 1) := by decide +kernel
theorem dX11_readNumbers_47 : decode cX11_readNumbers 47 = .ok (.putfield 85, 3) := by decide +kernel
theorem dX11_readNumbers_50 : decode cX11_readNumbers 50 = .ok (.aload_n 0, 1) := by decide +kernel
theorem dX11_readNumbers_51 : decode cX11_readNumbers 51 = .ok (.aload_n 0, 1) := by decide +kernel
theorem dX11_readNumbers_52 : decode cX11_readNumbers 52 = .ok (.getfield 85, 3) := by decide +kernel
theorem dX11_readNumbers_55 : decode cX11_readNumbers 55 = .ok (.invokevirtual 88, 3) := by decide +kernel
theorem dX11_readNumbers_58 : decode cX11_readNumbers 58 = .ok (.invokestatic 92, 3) := by decide +kernel
theorem dX11_readNumbers_61 : decode cX11_readNumbers 61 = .ok (.ifCond .eq 40, 3) := by decide +kernel
theorem dX11_readNumbers_64 : decode cX11_readNumbers 64 = .ok (.aload_n 0, 1) := by decide +kernel
theorem dX11_readNumbers_65 : decode cX11_readNumbers 65 = .ok (.getfield 34, 3) := by decide +kernel
theorem dX11_readNumbers_68 : decode cX11_readNumbers 68 = .ok (.iload_n 2, 1) := by decide +kernel
theorem dX11_readNumbers_69 : decode cX11_readNumbers 69 = .ok (.bipush 10, 2) := by decide +kernel
theorem dX11_readNumbers_71 : decode cX11_readNumbers 71 = .ok (.aload_n 0, 1) := by decide +kernel
theorem dX11_readNumbers_72 : decode cX11_readNumbers 72 = .ok (.getfield 34, 3) := by decide +kernel
theorem dX11_readNumbers_75 : decode cX11_readNumbers 75 = .ok (.iload_n 2, 1) := by decide +kernel
theorem dX11_readNumbers_76 : decode cX11_readNumbers 76 = .ok (.iaload, 1) := by decide +kernel
theorem dX11_readNumbers_77 : decode cX11_readNumbers 77 = .ok (.imul, 1) := by decide +kernel
theorem dX11_readNumbers_78 : decode cX11_readNumbers 78 = .ok (.aload_n 0, 1) := by decide +kernel
theorem dX11_readNumbers_79 : decode cX11_readNumbers 79 = .ok (.aload_n 0, 1) := by decide +kernel
theorem dX11_readNumbers_80 : decode cX11_readNumbers 80 = .ok (.getfield 85, 3) := by decide +kernel
theorem dX11_readNumbers_83 : decode cX11_readNumbers 83 = .ok (.invokevirtual 88, 3) := by decide +kernel
theorem dX11_readNumbers_86 : decode cX11_readNumbers 86 = .ok (.iadd, 1) := by decide +kernel
theorem dX11_readNumbers_87 : decode cX11_readNumbers 87 = .ok (.bipush 48, 2) := by decide +kernel
theorem dX11_readNumbers_89 : decode cX11_readNumbers 89 = .ok (.isub, 1) := by decide +kernel
theorem dX11_readNumbers_90 : decode cX11_readNumbers 90 = .ok (.iastore, 1) := by decide +kernel
theorem dX11_readNumbers_91 : decode cX11_readNumbers 91 = .ok (.aload_n 0, 1) := by decide +kernel
theorem dX11_readNumbers_92 : decode cX11_readNumbers 92 = .ok (.dup, 1) := by decide +kernel
theorem dX11_readNumbers_93 : decode cX11_readNumbers 93 = .ok (.getfield 85, 3) := by decide +kernel
theorem dX11_readNumbers_96 : decode cX11_readNumbers 96 = .ok (.iconst 1, 1) := by decide +kernel
theorem dX11_readNumbers_97 : decode cX11_readNumbers 97 = .ok (.iadd, 1) := by decide +kernel
theorem dX11_readNumbers_98 : decode cX11_readNumbers 98 = .ok (.putfield 85, 3) := by decide +kernel
theorem dX11_readNumbers_101 : decode cX11_readNumbers 101 = .ok (.aload_n 0, 1) := by decide +kernel
theorem dX11_readNumbers_102 : decode cX11_readNumbers 102 = .ok (.aload_n 0, 1) := by decide +kernel
theorem dX11_readNumbers_103 : decode cX11_readNumbers 103 = .ok (.getfield 85, 3) := by decide +kernel
theorem dX11_readNumbers_106 : decode cX11_readNumbers 106 = .ok (.invokevirtual 88, 3) := by decide +kernel
theorem dX11_readNumbers_109 : decode cX11_readNumbers 109 = .ok (.iload_n 2, 1) := by decide +kernel
theorem dX11_readNumbers_110 : decode cX11_readNumbers 110 = .ok (.iload_n 1, 1) := by decide +kernel
theorem dX11_readNumbers_111 : decode cX11_readNumbers 111 = .ok (.iconst 1, 1) := by decide +kernel
theorem dX11_readNumbers_112 : decode cX11_readNumbers 112 = .ok (.isub, 1) := by decide +kernel
theorem dX11_readNumbers_113 : decode cX11_readNumbers 113 = .ok (.if_icmp .ge 8, 3) := by decide +kernel
theorem dX11_readNumbers_116 : decode cX11_readNumbers 116 = .ok (.bipush 44, 2) := by decide +kernel
theorem dX11_readNumbers_118 : decode cX11_readNumbers 118 = .ok (.goto 5, 3) := by decide +kernel
theorem dX11_readNumbers_121 : decode cX11_readNumbers 121 = .ok (.bipush 59, 2) := by decide +kernel
theorem dX11_readNumbers_123 : decode cX11_readNumbers 123 = .ok (.if_icmp .eq 5, 3) := by decide +kernel
theorem dX11_readNumbers_126 : decode cX11_readNumbers 126 = .ok (.iconst 0, 1) := by decide +kernel
theorem dX11_readNumbers_127 : decode cX11_readNumbers 127 = .ok (.ireturn, 1) := by decide +kernel
theorem dX11_readNumbers_128 : decode cX11_readNumbers 128 = .ok (.aload_n 0, 1) := by decide +kernel
theorem dX11_readNumbers_129 : decode cX11_readNumbers 129 = .ok (.dup, 1) := by decide +kernel
theorem dX11_readNumbers_130 : decode cX11_readNumbers 130 = .ok (.getfield 85, 3) := by decide +kernel
theorem dX11_readNumbers_133 : decode cX11_readNumbers 133 = .ok (.iconst 1, 1) := by decide +kernel
theorem dX11_readNumbers_134 : decode cX11_readNumbers 134 = .ok (.iadd, 1) := by decide +kernel
theorem dX11_readNumbers_135 : decode cX11_readNumbers 135 = .ok (.putfield 85, 3) := by decide +kernel
theorem dX11_readNumbers_138 : decode cX11_readNumbers 138 = .ok (.iinc 2 1, 3) := by decide +kernel
theorem dX11_readNumbers_141 : decode cX11_readNumbers 141 = .ok (.goto (-139), 3) := by decide +kernel
theorem dX11_readNumbers_144 : decode cX11_readNumbers 144 = .ok (.iconst 1, 1) := by decide +kernel
theorem dX11_readNumbers_145 : decode cX11_readNumbers 145 = .ok (.ireturn, 1) := by decide +kernel
theorem dX11_isTold_0 : decode cX11_isTold 0 = .ok (.aload_n 0, 1) := by decide +kernel
theorem dX11_isTold_1 : decode cX11_isTold 1 = .ok (.getfield 34, 3) := by decide +kernel
theorem dX11_isTold_4 : decode cX11_isTold 4 = .ok (.iload_n 1, 1) := by decide +kernel
theorem dX11_isTold_5 : decode cX11_isTold 5 = .ok (.iaload, 1) := by decide +kernel
theorem dX11_isTold_6 : decode cX11_isTold 6 = .ok (.iload_n 2, 1) := by decide +kernel
theorem dX11_isTold_7 : decode cX11_isTold 7 = .ok (.iload_n 3, 1) := by decide +kernel
theorem dX11_isTold_8 : decode cX11_isTold 8 = .ok (.invokestatic 75, 3) := by decide +kernel
theorem dX11_isTold_11 : decode cX11_isTold 11 = .ok (.ireturn, 1) := by decide +kernel
theorem dX11_clearTold_0 : decode cX11_clearTold 0 = .ok (.aload_n 0, 1) := by decide +kernel
theorem dX11_clearTold_1 : decode cX11_clearTold 1 = .ok (.iconst 0, 1) := by decide +kernel
theorem dX11_clearTold_2 : decode cX11_clearTold 2 = .ok (.putfield 96, 3) := by decide +kernel
theorem dX11_clearTold_5 : decode cX11_clearTold 5 = .ok (.aload_n 0, 1) := by decide +kernel
theorem dX11_clearTold_6 : decode cX11_clearTold 6 = .ok (.iconst 3, 1) := by decide +kernel
theorem dX11_clearTold_7 : decode cX11_clearTold 7 = .ok (.putfield 100, 3) := by decide +kernel
theorem dX11_clearTold_10 : decode cX11_clearTold 10 = .ok (.aload_n 0, 1) := by decide +kernel
theorem dX11_clearTold_11 : decode cX11_clearTold 11 = .ok (.iconst 4, 1) := by decide +kernel
theorem dX11_clearTold_12 : decode cX11_clearTold 12 = .ok (.putfield 103, 3) := by decide +kernel
theorem dX11_clearTold_15 : decode cX11_clearTold 15 = .ok (.iconst 0, 1) := by decide +kernel
theorem dX11_clearTold_16 : decode cX11_clearTold 16 = .ok (.istore_n 1, 1) := by decide +kernel
theorem dX11_clearTold_17 : decode cX11_clearTold 17 = .ok (.iload_n 1, 1) := by decide +kernel
theorem dX11_clearTold_18 : decode cX11_clearTold 18 = .ok (.bipush 16, 2) := by decide +kernel
theorem dX11_clearTold_20 : decode cX11_clearTold 20 = .ok (.if_icmp .ge 23, 3) := by decide +kernel
theorem dX11_clearTold_23 : decode cX11_clearTold 23 = .ok (.aload_n 0, 1) := by decide +kernel
theorem dX11_clearTold_24 : decode cX11_clearTold 24 = .ok (.getfield 37, 3) := by decide +kernel
theorem dX11_clearTold_27 : decode cX11_clearTold 27 = .ok (.iload_n 1, 1) := by decide +kernel
theorem dX11_clearTold_28 : decode cX11_clearTold 28 = .ok (.iconst 0, 1) := by decide +kernel
theorem dX11_clearTold_29 : decode cX11_clearTold 29 = .ok (.iastore, 1) := by decide +kernel
theorem dX11_clearTold_30 : decode cX11_clearTold 30 = .ok (.aload_n 0, 1) := by decide +kernel
theorem dX11_clearTold_31 : decode cX11_clearTold 31 = .ok (.getfield 40, 3) := by decide +kernel
theorem dX11_clearTold_34 : decode cX11_clearTold 34 = .ok (.iload_n 1, 1) := by decide +kernel
theorem dX11_clearTold_35 : decode cX11_clearTold 35 = .ok (.iconst 2, 1) := by decide +kernel
theorem dX11_clearTold_36 : decode cX11_clearTold 36 = .ok (.iastore, 1) := by decide +kernel
theorem dX11_clearTold_37 : decode cX11_clearTold 37 = .ok (.iinc 1 1, 3) := by decide +kernel
theorem dX11_clearTold_40 : decode cX11_clearTold 40 = .ok (.goto (-23), 3) := by decide +kernel
theorem dX11_clearTold_43 : decode cX11_clearTold 43 = .ok (.aload_n 0, 1) := by decide +kernel
theorem dX11_clearTold_44 : decode cX11_clearTold 44 = .ok (.iconst 0, 1) := by decide +kernel
theorem dX11_clearTold_45 : decode cX11_clearTold 45 = .ok (.putfield 69, 3) := by decide +kernel
theorem dX11_clearTold_48 : decode cX11_clearTold 48 = .ok (.aload_n 0, 1) := by decide +kernel
theorem dX11_clearTold_49 : decode cX11_clearTold 49 = .ok (.iconst 0, 1) := by decide +kernel
theorem dX11_clearTold_50 : decode cX11_clearTold 50 = .ok (.putfield 62, 3) := by decide +kernel
theorem dX11_clearTold_53 : decode cX11_clearTold 53 = .ok (.return_, 1) := by decide +kernel
theorem dX11_lastTold_0 : decode cX11_lastTold 0 = .ok (.aload_n 0, 1) := by decide +kernel
theorem dX11_lastTold_1 : decode cX11_lastTold 1 = .ok (.getfield 100, 3) := by decide +kernel
theorem dX11_lastTold_4 : decode cX11_lastTold 4 = .ok (.aload_n 0, 1) := by decide +kernel
theorem dX11_lastTold_5 : decode cX11_lastTold 5 = .ok (.getfield 103, 3) := by decide +kernel
theorem dX11_lastTold_8 : decode cX11_lastTold 8 = .ok (.imul, 1) := by decide +kernel
theorem dX11_lastTold_9 : decode cX11_lastTold 9 = .ok (.iconst 1, 1) := by decide +kernel
theorem dX11_lastTold_10 : decode cX11_lastTold 10 = .ok (.isub, 1) := by decide +kernel
theorem dX11_lastTold_11 : decode cX11_lastTold 11 = .ok (.ireturn, 1) := by decide +kernel
theorem dX11_readGridOf_0 : decode cX11_readGridOf 0 = .ok (.aload_n 0, 1) := by decide +kernel
theorem dX11_readGridOf_1 : decode cX11_readGridOf 1 = .ok (.getfield 96, 3) := by decide +kernel
theorem dX11_readGridOf_4 : decode cX11_readGridOf 4 = .ok (.ifCond .ne 31, 3) := by decide +kernel
theorem dX11_readGridOf_7 : decode cX11_readGridOf 7 = .ok (.aload_n 0, 1) := by decide +kernel
theorem dX11_readGridOf_8 : decode cX11_readGridOf 8 = .ok (.iconst 2, 1) := by decide +kernel
theorem dX11_readGridOf_9 : decode cX11_readGridOf 9 = .ok (.invokevirtual 106, 3) := by decide +kernel
theorem dX11_readGridOf_12 : decode cX11_readGridOf 12 = .ok (.ifCond .eq 23, 3) := by decide +kernel
theorem dX11_readGridOf_15 : decode cX11_readGridOf 15 = .ok (.aload_n 0, 1) := by decide +kernel
theorem dX11_readGridOf_16 : decode cX11_readGridOf 16 = .ok (.iconst 0, 1) := by decide +kernel
theorem dX11_readGridOf_17 : decode cX11_readGridOf 17 = .ok (.iconst 1, 1) := by decide +kernel
theorem dX11_readGridOf_18 : decode cX11_readGridOf 18 = .ok (.iconst 4, 1) := by decide +kernel
theorem dX11_readGridOf_19 : decode cX11_readGridOf 19 = .ok (.invokevirtual 109, 3) := by decide +kernel
theorem dX11_readGridOf_22 : decode cX11_readGridOf 22 = .ok (.ifCond .eq 13, 3) := by decide +kernel
theorem dX11_readGridOf_25 : decode cX11_readGridOf 25 = .ok (.aload_n 0, 1) := by decide +kernel
theorem dX11_readGridOf_26 : decode cX11_readGridOf 26 = .ok (.iconst 1, 1) := by decide +kernel
theorem dX11_readGridOf_27 : decode cX11_readGridOf 27 = .ok (.iconst 1, 1) := by decide +kernel
theorem dX11_readGridOf_28 : decode cX11_readGridOf 28 = .ok (.iconst 4, 1) := by decide +kernel
theorem dX11_readGridOf_29 : decode cX11_readGridOf 29 = .ok (.invokevirtual 109, 3) := by decide +kernel
theorem dX11_readGridOf_32 : decode cX11_readGridOf 32 = .ok (.ifCond .ne 5, 3) := by decide +kernel
theorem dX11_readGridOf_35 : decode cX11_readGridOf 35 = .ok (.iconst 0, 1) := by decide +kernel
theorem dX11_readGridOf_36 : decode cX11_readGridOf 36 = .ok (.ireturn, 1) := by decide +kernel
theorem dX11_readGridOf_37 : decode cX11_readGridOf 37 = .ok (.aload_n 0, 1) := by decide +kernel
theorem dX11_readGridOf_38 : decode cX11_readGridOf 38 = .ok (.aload_n 0, 1) := by decide +kernel
theorem dX11_readGridOf_39 : decode cX11_readGridOf 39 = .ok (.getfield 34, 3) := by decide +kernel
theorem dX11_readGridOf_42 : decode cX11_readGridOf 42 = .ok (.iconst 0, 1) := by decide +kernel
theorem dX11_readGridOf_43 : decode cX11_readGridOf 43 = .ok (.iaload, 1) := by decide +kernel
theorem dX11_readGridOf_44 : decode cX11_readGridOf 44 = .ok (.putfield 100, 3) := by decide +kernel
theorem dX11_readGridOf_47 : decode cX11_readGridOf 47 = .ok (.aload_n 0, 1) := by decide +kernel
theorem dX11_readGridOf_48 : decode cX11_readGridOf 48 = .ok (.aload_n 0, 1) := by decide +kernel
theorem dX11_readGridOf_49 : decode cX11_readGridOf 49 = .ok (.getfield 34, 3) := by decide +kernel
theorem dX11_readGridOf_52 : decode cX11_readGridOf 52 = .ok (.iconst 1, 1) := by decide +kernel
theorem dX11_readGridOf_53 : decode cX11_readGridOf 53 = .ok (.iaload, 1) := by decide +kernel
theorem dX11_readGridOf_54 : decode cX11_readGridOf 54 = .ok (.putfield 103, 3) := by decide +kernel
theorem dX11_readGridOf_57 : decode cX11_readGridOf 57 = .ok (.iconst 1, 1) := by decide +kernel
theorem dX11_readGridOf_58 : decode cX11_readGridOf 58 = .ok (.ireturn, 1) := by decide +kernel
theorem dX11_readHouseOf_0 : decode cX11_readHouseOf 0 = .ok (.aload_n 0, 1) := by decide +kernel
theorem dX11_readHouseOf_1 : decode cX11_readHouseOf 1 = .ok (.iconst 3, 1) := by decide +kernel
theorem dX11_readHouseOf_2 : decode cX11_readHouseOf 2 = .ok (.invokevirtual 106, 3) := by decide +kernel
theorem dX11_readHouseOf_5 : decode cX11_readHouseOf 5 = .ok (.ifCond .eq 37, 3) := by decide +kernel
theorem dX11_readHouseOf_8 : decode cX11_readHouseOf 8 = .ok (.aload_n 0, 1) := by decide +kernel
theorem dX11_readHouseOf_9 : decode cX11_readHouseOf 9 = .ok (.iconst 0, 1) := by decide +kernel
theorem dX11_readHouseOf_10 : decode cX11_readHouseOf 10 = .ok (.iconst 0, 1) := by decide +kernel
theorem dX11_readHouseOf_11 : decode cX11_readHouseOf 11 = .ok (.aload_n 0, 1) := by decide +kernel
theorem dX11_readHouseOf_12 : decode cX11_readHouseOf 12 = .ok (.invokevirtual 112, 3) := by decide +kernel
theorem dX11_readHouseOf_15 : decode cX11_readHouseOf 15 = .ok (.invokevirtual 109, 3) := by decide +kernel
theorem dX11_readHouseOf_18 : decode cX11_readHouseOf 18 = .ok (.ifCond .eq 24, 3) := by decide +kernel
theorem dX11_readHouseOf_21 : decode cX11_readHouseOf 21 = .ok (.aload_n 0, 1) := by decide +kernel
theorem dX11_readHouseOf_22 : decode cX11_readHouseOf 22 = .ok (.iconst 1, 1) := by decide +kernel
theorem dX11_readHouseOf_23 : decode cX11_readHouseOf 23 = .ok (.iconst 0, 1) := by decide +kernel
theorem dX11_readHouseOf_24 : decode cX11_readHouseOf 24 = .ok (.iconst 4, 1) := by decide +kernel
theorem dX11_readHouseOf_25 : decode cX11_readHouseOf 25 = .ok (.invokevirtual 109, 3) := by decide +kernel
theorem dX11_readHouseOf_28 : decode cX11_readHouseOf 28 = .ok (.ifCond .eq 14, 3) := by decide +kernel
theorem dX11_readHouseOf_31 : decode cX11_readHouseOf 31 = .ok (.aload_n 0, 1) := by decide +kernel
theorem dX11_readHouseOf_32 : decode cX11_readHouseOf 32 = .ok (.iconst 2, 1) := by decide +kernel
theorem dX11_readHouseOf_33 : decode cX11_readHouseOf 33 = .ok (.iconst 0, 1) := by decide +kernel
theorem dX11_readHouseOf_34 : decode cX11_readHouseOf 34 = .ok (.bipush 6, 2) := by decide +kernel
theorem dX11_readHouseOf_36 : decode cX11_readHouseOf 36 = .ok (.invokevirtual 109, 3) := by decide +kernel
theorem dX11_readHouseOf_39 : decode cX11_readHouseOf 39 = .ok (.ifCond .ne 5, 3) := by decide +kernel
theorem dX11_readHouseOf_42 : decode cX11_readHouseOf 42 = .ok (.iconst 0, 1) := by decide +kernel
theorem dX11_readHouseOf_43 : decode cX11_readHouseOf 43 = .ok (.ireturn, 1) := by decide +kernel
theorem dX11_readHouseOf_44 : decode cX11_readHouseOf 44 = .ok (.aload_n 0, 1) := by decide +kernel
theorem dX11_readHouseOf_45 : decode cX11_readHouseOf 45 = .ok (.aload_n 0, 1) := by decide +kernel
theorem dX11_readHouseOf_46 : decode cX11_readHouseOf 46 = .ok (.getfield 34, 3) := by decide +kernel
theorem dX11_readHouseOf_49 : decode cX11_readHouseOf 49 = .ok (.iconst 0, 1) := by decide +kernel
theorem dX11_readHouseOf_50 : decode cX11_readHouseOf 50 = .ok (.iaload, 1) := by decide +kernel
theorem dX11_readHouseOf_51 : decode cX11_readHouseOf 51 = .ok (.aload_n 0, 1) := by decide +kernel
theorem dX11_readHouseOf_52 : decode cX11_readHouseOf 52 = .ok (.getfield 34, 3) := by decide +kernel
theorem dX11_readHouseOf_55 : decode cX11_readHouseOf 55 = .ok (.iconst 1, 1) := by decide +kernel
theorem dX11_readHouseOf_56 : decode cX11_readHouseOf 56 = .ok (.iaload, 1) := by decide +kernel
theorem dX11_readHouseOf_57 : decode cX11_readHouseOf 57 = .ok (.aload_n 0, 1) := by decide +kernel
theorem dX11_readHouseOf_58 : decode cX11_readHouseOf 58 = .ok (.getfield 34, 3) := by decide +kernel
theorem dX11_readHouseOf_61 : decode cX11_readHouseOf 61 = .ok (.iconst 2, 1) := by decide +kernel
theorem dX11_readHouseOf_62 : decode cX11_readHouseOf 62 = .ok (.iaload, 1) := by decide +kernel
theorem dX11_readHouseOf_63 : decode cX11_readHouseOf 63 = .ok (.invokevirtual 55, 3) := by decide +kernel
theorem dX11_readHouseOf_66 : decode cX11_readHouseOf 66 = .ok (.iconst 1, 1) := by decide +kernel
theorem dX11_readHouseOf_67 : decode cX11_readHouseOf 67 = .ok (.ireturn, 1) := by decide +kernel
theorem dX11_readNewsOf_0 : decode cX11_readNewsOf 0 = .ok (.aload_n 0, 1) := by decide +kernel
theorem dX11_readNewsOf_1 : decode cX11_readNewsOf 1 = .ok (.getfield 69, 3) := by decide +kernel
theorem dX11_readNewsOf_4 : decode cX11_readNewsOf 4 = .ok (.iconst 5, 1) := by decide +kernel
theorem dX11_readNewsOf_5 : decode cX11_readNewsOf 5 = .ok (.if_icmp .eq 44, 3) := by decide +kernel
theorem dX11_readNewsOf_8 : decode cX11_readNewsOf 8 = .ok (.aload_n 0, 1) := by decide +kernel
theorem dX11_readNewsOf_9 : decode cX11_readNewsOf 9 = .ok (.iconst 3, 1) := by decide +kernel
theorem dX11_readNewsOf_10 : decode cX11_readNewsOf 10 = .ok (.invokevirtual 106, 3) := by decide +kernel
theorem dX11_readNewsOf_13 : decode cX11_readNewsOf 13 = .ok (.ifCond .eq 36, 3) := by decide +kernel
theorem dX11_readNewsOf_16 : decode cX11_readNewsOf 16 = .ok (.aload_n 0, 1) := by decide +kernel
theorem dX11_readNewsOf_17 : decode cX11_readNewsOf 17 = .ok (.iconst 0, 1) := by decide +kernel
theorem dX11_readNewsOf_18 : decode cX11_readNewsOf 18 = .ok (.iconst 0, 1) := by decide +kernel
theorem dX11_readNewsOf_19 : decode cX11_readNewsOf 19 = .ok (.iconst 2, 1) := by decide +kernel
theorem dX11_readNewsOf_20 : decode cX11_readNewsOf 20 = .ok (.invokevirtual 109, 3) := by decide +kernel
theorem dX11_readNewsOf_23 : decode cX11_readNewsOf 23 = .ok (.ifCond .eq 26, 3) := by decide +kernel
theorem dX11_readNewsOf_26 : decode cX11_readNewsOf 26 = .ok (.aload_n 0, 1) := by decide +kernel
theorem dX11_readNewsOf_27 : decode cX11_readNewsOf 27 = .ok (.iconst 1, 1) := by decide +kernel
theorem dX11_readNewsOf_28 : decode cX11_readNewsOf 28 = .ok (.iconst 1, 1) := by decide +kernel
theorem dX11_readNewsOf_29 : decode cX11_readNewsOf 29 = .ok (.iconst 4, 1) := by decide +kernel
theorem dX11_readNewsOf_30 : decode cX11_readNewsOf 30 = .ok (.invokevirtual 109, 3) := by decide +kernel
theorem dX11_readNewsOf_33 : decode cX11_readNewsOf 33 = .ok (.ifCond .eq 16, 3) := by decide +kernel
theorem dX11_readNewsOf_36 : decode cX11_readNewsOf 36 = .ok (.aload_n 0, 1) := by decide +kernel
theorem dX11_readNewsOf_37 : decode cX11_readNewsOf 37 = .ok (.iconst 2, 1) := by decide +kernel
theorem dX11_readNewsOf_38 : decode cX11_readNewsOf 38 = .ok (.iconst 0, 1) := by decide +kernel
theorem dX11_readNewsOf_39 : decode cX11_readNewsOf 39 = .ok (.aload_n 0, 1) := by decide +kernel
theorem dX11_readNewsOf_40 : decode cX11_readNewsOf 40 = .ok (.invokevirtual 112, 3) := by decide +kernel
theorem dX11_readNewsOf_43 : decode cX11_readNewsOf 43 = .ok (.invokevirtual 109, 3) := by decide +kernel
theorem dX11_readNewsOf_46 : decode cX11_readNewsOf 46 = .ok (.ifCond .ne 5, 3) := by decide +kernel
theorem dX11_readNewsOf_49 : decode cX11_readNewsOf 49 = .ok (.iconst 0, 1) := by decide +kernel
theorem dX11_readNewsOf_50 : decode cX11_readNewsOf 50 = .ok (.ireturn, 1) := by decide +kernel
theorem dX11_readNewsOf_51 : decode cX11_readNewsOf 51 = .ok (.aload_n 0, 1) := by decide +kernel
theorem dX11_readNewsOf_52 : decode cX11_readNewsOf 52 = .ok (.aload_n 0, 1) := by decide +kernel
theorem dX11_readNewsOf_53 : decode cX11_readNewsOf 53 = .ok (.getfield 34, 3) := by decide +kernel
theorem dX11_readNewsOf_56 : decode cX11_readNewsOf 56 = .ok (.iconst 0, 1) := by decide +kernel
theorem dX11_readNewsOf_57 : decode cX11_readNewsOf 57 = .ok (.iaload, 1) := by decide +kernel
theorem dX11_readNewsOf_58 : decode cX11_readNewsOf 58 = .ok (.aload_n 0, 1) := by decide +kernel
theorem dX11_readNewsOf_59 : decode cX11_readNewsOf 59 = .ok (.getfield 34, 3) := by decide +kernel
theorem dX11_readNewsOf_62 : decode cX11_readNewsOf 62 = .ok (.iconst 1, 1) := by decide +kernel
theorem dX11_readNewsOf_63 : decode cX11_readNewsOf 63 = .ok (.iaload, 1) := by decide +kernel
theorem dX11_readNewsOf_64 : decode cX11_readNewsOf 64 = .ok (.aload_n 0, 1) := by decide +kernel
theorem dX11_readNewsOf_65 : decode cX11_readNewsOf 65 = .ok (.getfield 34, 3) := by decide +kernel
theorem dX11_readNewsOf_68 : decode cX11_readNewsOf 68 = .ok (.iconst 2, 1) := by decide +kernel
theorem dX11_readNewsOf_69 : decode cX11_readNewsOf 69 = .ok (.iaload, 1) := by decide +kernel
theorem dX11_readNewsOf_70 : decode cX11_readNewsOf 70 = .ok (.invokevirtual 59, 3) := by decide +kernel
theorem dX11_readNewsOf_73 : decode cX11_readNewsOf 73 = .ok (.iconst 1, 1) := by decide +kernel
theorem dX11_readNewsOf_74 : decode cX11_readNewsOf 74 = .ok (.ireturn, 1) := by decide +kernel
theorem dX11_readWindOf_0 : decode cX11_readWindOf 0 = .ok (.aload_n 0, 1) := by decide +kernel
theorem dX11_readWindOf_1 : decode cX11_readWindOf 1 = .ok (.getfield 62, 3) := by decide +kernel
theorem dX11_readWindOf_4 : decode cX11_readWindOf 4 = .ok (.bipush 8, 2) := by decide +kernel
theorem dX11_readWindOf_6 : decode cX11_readWindOf 6 = .ok (.if_icmp .eq 21, 3) := by decide +kernel
theorem dX11_readWindOf_9 : decode cX11_readWindOf 9 = .ok (.aload_n 0, 1) := by decide +kernel
theorem dX11_readWindOf_10 : decode cX11_readWindOf 10 = .ok (.iconst 1, 1) := by decide +kernel
theorem dX11_readWindOf_11 : decode cX11_readWindOf 11 = .ok (.invokevirtual 106, 3) := by decide +kernel
theorem dX11_readWindOf_14 : decode cX11_readWindOf 14 = .ok (.ifCond .eq 13, 3) := by decide +kernel
theorem dX11_readWindOf_17 : decode cX11_readWindOf 17 = .ok (.aload_n 0, 1) := by decide +kernel
theorem dX11_readWindOf_18 : decode cX11_readWindOf 18 = .ok (.iconst 0, 1) := by decide +kernel
theorem dX11_readWindOf_19 : decode cX11_readWindOf 19 = .ok (.iconst 0, 1) := by decide +kernel
theorem dX11_readWindOf_20 : decode cX11_readWindOf 20 = .ok (.iconst 4, 1) := by decide +kernel
theorem dX11_readWindOf_21 : decode cX11_readWindOf 21 = .ok (.invokevirtual 109, 3) := by decide +kernel
theorem dX11_readWindOf_24 : decode cX11_readWindOf 24 = .ok (.ifCond .ne 5, 3) := by decide +kernel
theorem dX11_readWindOf_27 : decode cX11_readWindOf 27 = .ok (.iconst 0, 1) := by decide +kernel
theorem dX11_readWindOf_28 : decode cX11_readWindOf 28 = .ok (.ireturn, 1) := by decide +kernel
theorem dX11_readWindOf_29 : decode cX11_readWindOf 29 = .ok (.aload_n 0, 1) := by decide +kernel
theorem dX11_readWindOf_30 : decode cX11_readWindOf 30 = .ok (.getfield 46, 3) := by decide +kernel
theorem dX11_readWindOf_33 : decode cX11_readWindOf 33 = .ok (.aload_n 0, 1) := by decide +kernel
theorem dX11_readWindOf_34 : decode cX11_readWindOf 34 = .ok (.getfield 62, 3) := by decide +kernel
theorem dX11_readWindOf_37 : decode cX11_readWindOf 37 = .ok (.aload_n 0, 1) := by decide +kernel
theorem dX11_readWindOf_38 : decode cX11_readWindOf 38 = .ok (.getfield 34, 3) := by decide +kernel
theorem dX11_readWindOf_41 : decode cX11_readWindOf 41 = .ok (.iconst 0, 1) := by decide +kernel
theorem dX11_readWindOf_42 : decode cX11_readWindOf 42 = .ok (.iaload, 1) := by decide +kernel
theorem dX11_readWindOf_43 : decode cX11_readWindOf 43 = .ok (.iastore, 1) := by decide +kernel
theorem dX11_readWindOf_44 : decode cX11_readWindOf 44 = .ok (.aload_n 0, 1) := by decide +kernel
theorem dX11_readWindOf_45 : decode cX11_readWindOf 45 = .ok (.dup, 1) := by decide +kernel
theorem dX11_readWindOf_46 : decode cX11_readWindOf 46 = .ok (.getfield 62, 3) := by decide +kernel
theorem dX11_readWindOf_49 : decode cX11_readWindOf 49 = .ok (.iconst 1, 1) := by decide +kernel
theorem dX11_readWindOf_50 : decode cX11_readWindOf 50 = .ok (.iadd, 1) := by decide +kernel
theorem dX11_readWindOf_51 : decode cX11_readWindOf 51 = .ok (.putfield 62, 3) := by decide +kernel
theorem dX11_readWindOf_54 : decode cX11_readWindOf 54 = .ok (.iconst 1, 1) := by decide +kernel
theorem dX11_readWindOf_55 : decode cX11_readWindOf 55 = .ok (.ireturn, 1) := by decide +kernel
theorem dX11_readItem_0 : decode cX11_readItem 0 = .ok (.aload_n 0, 1) := by decide +kernel
theorem dX11_readItem_1 : decode cX11_readItem 1 = .ok (.aload_n 0, 1) := by decide +kernel
theorem dX11_readItem_2 : decode cX11_readItem 2 = .ok (.getfield 85, 3) := by decide +kernel
theorem dX11_readItem_5 : decode cX11_readItem 5 = .ok (.invokevirtual 88, 3) := by decide +kernel
theorem dX11_readItem_8 : decode cX11_readItem 8 = .ok (.istore_n 1, 1) := by decide +kernel
theorem dX11_readItem_9 : decode cX11_readItem 9 = .ok (.aload_n 0, 1) := by decide +kernel
theorem dX11_readItem_10 : decode cX11_readItem 10 = .ok (.dup, 1) := by decide +kernel
theorem dX11_readItem_11 : decode cX11_readItem 11 = .ok (.getfield 85, 3) := by decide +kernel
theorem dX11_readItem_14 : decode cX11_readItem 14 = .ok (.iconst 1, 1) := by decide +kernel
theorem dX11_readItem_15 : decode cX11_readItem 15 = .ok (.iadd, 1) := by decide +kernel
theorem dX11_readItem_16 : decode cX11_readItem 16 = .ok (.putfield 85, 3) := by decide +kernel
theorem dX11_readItem_19 : decode cX11_readItem 19 = .ok (.iload_n 1, 1) := by decide +kernel
theorem dX11_readItem_20 : decode cX11_readItem 20 = .ok (.bipush 103, 2) := by decide +kernel
theorem dX11_readItem_22 : decode cX11_readItem 22 = .ok (.if_icmp .ne 8, 3) := by decide +kernel
theorem dX11_readItem_25 : decode cX11_readItem 25 = .ok (.aload_n 0, 1) := by decide +kernel
theorem dX11_readItem_26 : decode cX11_readItem 26 = .ok (.invokevirtual 116, 3) := by decide +kernel
theorem dX11_readItem_29 : decode cX11_readItem 29 = .ok (.ireturn, 1) := by decide +kernel
theorem dX11_readItem_30 : decode cX11_readItem 30 = .ok (.aload_n 0, 1) := by decide +kernel
theorem dX11_readItem_31 : decode cX11_readItem 31 = .ok (.iconst 1, 1) := by decide +kernel
theorem dX11_readItem_32 : decode cX11_readItem 32 = .ok (.putfield 96, 3) := by decide +kernel
theorem dX11_readItem_35 : decode cX11_readItem 35 = .ok (.iload_n 1, 1) := by decide +kernel
theorem dX11_readItem_36 : decode cX11_readItem 36 = .ok (.lookupswitch 51 #[(104, 36), (110, 41), (119, 46)], 36) := by decide +kernel
theorem dX11_readItem_72 : decode cX11_readItem 72 = .ok (.aload_n 0, 1) := by decide +kernel
theorem dX11_readItem_73 : decode cX11_readItem 73 = .ok (.invokevirtual 120, 3) := by decide +kernel
theorem dX11_readItem_76 : decode cX11_readItem 76 = .ok (.ireturn, 1) := by decide +kernel
theorem dX11_readItem_77 : decode cX11_readItem 77 = .ok (.aload_n 0, 1) := by decide +kernel
theorem dX11_readItem_78 : decode cX11_readItem 78 = .ok (.invokevirtual 123, 3) := by decide +kernel
theorem dX11_readItem_81 : decode cX11_readItem 81 = .ok (.ireturn, 1) := by decide +kernel
theorem dX11_readItem_82 : decode cX11_readItem 82 = .ok (.aload_n 0, 1) := by decide +kernel
theorem dX11_readItem_83 : decode cX11_readItem 83 = .ok (.invokevirtual 126, 3) := by decide +kernel
theorem dX11_readItem_86 : decode cX11_readItem 86 = .ok (.ireturn, 1) := by decide +kernel
theorem dX11_readItem_87 : decode cX11_readItem 87 = .ok (.iconst 0, 1) := by decide +kernel
theorem dX11_readItem_88 : decode cX11_readItem 88 = .ok (.ireturn, 1) := by decide +kernel
theorem dX11_fault_0 : decode cX11_fault 0 = .ok (.aload_n 0, 1) := by decide +kernel
theorem dX11_fault_1 : decode cX11_fault 1 = .ok (.iconst 0, 1) := by decide +kernel
theorem dX11_fault_2 : decode cX11_fault 2 = .ok (.putfield 85, 3) := by decide +kernel
theorem dX11_fault_5 : decode cX11_fault 5 = .ok (.aload_n 0, 1) := by decide +kernel
theorem dX11_fault_6 : decode cX11_fault 6 = .ok (.invokevirtual 52, 3) := by decide +kernel
theorem dX11_fault_9 : decode cX11_fault 9 = .ok (.aload_n 0, 1) := by decide +kernel
theorem dX11_fault_10 : decode cX11_fault 10 = .ok (.getfield 85, 3) := by decide +kernel
theorem dX11_fault_13 : decode cX11_fault 13 = .ok (.aload_n 0, 1) := by decide +kernel
theorem dX11_fault_14 : decode cX11_fault 14 = .ok (.getfield 82, 3) := by decide +kernel
theorem dX11_fault_17 : decode cX11_fault 17 = .ok (.if_icmp .ge 20, 3) := by decide +kernel
theorem dX11_fault_20 : decode cX11_fault 20 = .ok (.aload_n 0, 1) := by decide +kernel
theorem dX11_fault_21 : decode cX11_fault 21 = .ok (.getfield 85, 3) := by decide +kernel
theorem dX11_fault_24 : decode cX11_fault 24 = .ok (.istore_n 1, 1) := by decide +kernel
theorem dX11_fault_25 : decode cX11_fault 25 = .ok (.aload_n 0, 1) := by decide +kernel
theorem dX11_fault_26 : decode cX11_fault 26 = .ok (.invokevirtual 129, 3) := by decide +kernel
theorem dX11_fault_29 : decode cX11_fault 29 = .ok (.ifCond .ne 5, 3) := by decide +kernel
theorem dX11_fault_32 : decode cX11_fault 32 = .ok (.iload_n 1, 1) := by decide +kernel
theorem dX11_fault_33 : decode cX11_fault 33 = .ok (.ireturn, 1) := by decide +kernel
theorem dX11_fault_34 : decode cX11_fault 34 = .ok (.goto (-25), 3) := by decide +kernel
theorem dX11_fault_37 : decode cX11_fault 37 = .ok (.bipush (-4), 2) := by decide +kernel
theorem dX11_fault_39 : decode cX11_fault 39 = .ok (.ireturn, 1) := by decide +kernel
theorem dX11_lay_0 : decode cX11_lay 0 = .ok (.aload_n 0, 1) := by decide +kernel
theorem dX11_lay_1 : decode cX11_lay 1 = .ok (.invokevirtual 132, 3) := by decide +kernel
theorem dX11_lay_4 : decode cX11_lay 4 = .ok (.bipush (-4), 2) := by decide +kernel
theorem dX11_lay_6 : decode cX11_lay 6 = .ok (.if_icmp .ne 10, 3) := by decide +kernel
theorem dX11_lay_9 : decode cX11_lay 9 = .ok (.aload_n 0, 1) := by decide +kernel
theorem dX11_lay_10 : decode cX11_lay 10 = .ok (.getfield 69, 3) := by decide +kernel
theorem dX11_lay_13 : decode cX11_lay 13 = .ok (.ifCond .ne 6, 3) := by decide +kernel
theorem dX11_lay_16 : decode cX11_lay 16 = .ok (.bipush (-2), 2) := by decide +kernel
theorem dX11_lay_18 : decode cX11_lay 18 = .ok (.ireturn, 1) := by decide +kernel
theorem dX11_lay_19 : decode cX11_lay 19 = .ok (.aload_n 0, 1) := by decide +kernel
theorem dX11_lay_20 : decode cX11_lay 20 = .ok (.invokevirtual 66, 3) := by decide +kernel
theorem dX11_lay_23 : decode cX11_lay 23 = .ok (.aload_n 0, 1) := by decide +kernel
theorem dX11_lay_24 : decode cX11_lay 24 = .ok (.getfield 72, 3) := by decide +kernel
theorem dX11_lay_27 : decode cX11_lay 27 = .ok (.ireturn, 1) := by decide +kernel
theorem dX11_copies_0 : decode cX11_copies 0 = .ok (.iconst 0, 1) := by decide +kernel
theorem dX11_copies_1 : decode cX11_copies 1 = .ok (.istore 5, 2) := by decide +kernel
theorem dX11_copies_3 : decode cX11_copies 3 = .ok (.iload 5, 2) := by decide +kernel
theorem dX11_copies_5 : decode cX11_copies 5 = .ok (.iload 4, 2) := by decide +kernel
theorem dX11_copies_7 : decode cX11_copies 7 = .ok (.if_icmp .ge 21, 3) := by decide +kernel
theorem dX11_copies_10 : decode cX11_copies 10 = .ok (.aload_n 0, 1) := by decide +kernel
theorem dX11_copies_11 : decode cX11_copies 11 = .ok (.iload_n 1, 1) := by decide +kernel
theorem dX11_copies_12 : decode cX11_copies 12 = .ok (.iload 5, 2) := by decide +kernel
theorem dX11_copies_14 : decode cX11_copies 14 = .ok (.iadd, 1) := by decide +kernel
theorem dX11_copies_15 : decode cX11_copies 15 = .ok (.aload_n 2, 1) := by decide +kernel
theorem dX11_copies_16 : decode cX11_copies 16 = .ok (.iload_n 3, 1) := by decide +kernel
theorem dX11_copies_17 : decode cX11_copies 17 = .ok (.iload 5, 2) := by decide +kernel
theorem dX11_copies_19 : decode cX11_copies 19 = .ok (.iadd, 1) := by decide +kernel
theorem dX11_copies_20 : decode cX11_copies 20 = .ok (.iaload, 1) := by decide +kernel
theorem dX11_copies_21 : decode cX11_copies 21 = .ok (.iastore, 1) := by decide +kernel
theorem dX11_copies_22 : decode cX11_copies 22 = .ok (.iinc 5 1, 3) := by decide +kernel
theorem dX11_copies_25 : decode cX11_copies 25 = .ok (.goto (-22), 3) := by decide +kernel
theorem dX11_copies_28 : decode cX11_copies 28 = .ok (.return_, 1) := by decide +kernel
theorem dX11_settles_0 : decode cX11_settles 0 = .ok (.aload_n 0, 1) := by decide +kernel
theorem dX11_settles_1 : decode cX11_settles 1 = .ok (.aload_n 0, 1) := by decide +kernel
theorem dX11_settles_2 : decode cX11_settles 2 = .ok (.getfield 100, 3) := by decide +kernel
theorem dX11_settles_5 : decode cX11_settles 5 = .ok (.putfield 135, 3) := by decide +kernel
theorem dX11_settles_8 : decode cX11_settles 8 = .ok (.aload_n 0, 1) := by decide +kernel
theorem dX11_settles_9 : decode cX11_settles 9 = .ok (.aload_n 0, 1) := by decide +kernel
theorem dX11_settles_10 : decode cX11_settles 10 = .ok (.getfield 103, 3) := by decide +kernel
theorem dX11_settles_13 : decode cX11_settles 13 = .ok (.putfield 138, 3) := by decide +kernel
theorem dX11_settles_16 : decode cX11_settles 16 = .ok (.aload_n 0, 1) := by decide +kernel
theorem dX11_settles_17 : decode cX11_settles 17 = .ok (.aload_n 0, 1) := by decide +kernel
theorem dX11_settles_18 : decode cX11_settles 18 = .ok (.getfield 135, 3) := by decide +kernel
theorem dX11_settles_21 : decode cX11_settles 21 = .ok (.aload_n 0, 1) := by decide +kernel
theorem dX11_settles_22 : decode cX11_settles 22 = .ok (.getfield 138, 3) := by decide +kernel
theorem dX11_settles_25 : decode cX11_settles 25 = .ok (.imul, 1) := by decide +kernel
theorem dX11_settles_26 : decode cX11_settles 26 = .ok (.putfield 72, 3) := by decide +kernel
theorem dX11_settles_29 : decode cX11_settles 29 = .ok (.aload_n 0, 1) := by decide +kernel
theorem dX11_settles_30 : decode cX11_settles 30 = .ok (.getfield 7, 3) := by decide +kernel
theorem dX11_settles_33 : decode cX11_settles 33 = .ok (.iconst 0, 1) := by decide +kernel
theorem dX11_settles_34 : decode cX11_settles 34 = .ok (.aload_n 0, 1) := by decide +kernel
theorem dX11_settles_35 : decode cX11_settles 35 = .ok (.getfield 37, 3) := by decide +kernel
theorem dX11_settles_38 : decode cX11_settles 38 = .ok (.iconst 0, 1) := by decide +kernel
theorem dX11_settles_39 : decode cX11_settles 39 = .ok (.bipush 16, 2) := by decide +kernel
theorem dX11_settles_41 : decode cX11_settles 41 = .ok (.invokestatic 141, 3) := by decide +kernel
theorem dX11_settles_44 : decode cX11_settles 44 = .ok (.aload_n 0, 1) := by decide +kernel
theorem dX11_settles_45 : decode cX11_settles 45 = .ok (.aload_n 0, 1) := by decide +kernel
theorem dX11_settles_46 : decode cX11_settles 46 = .ok (.getfield 69, 3) := by decide +kernel
theorem dX11_settles_49 : decode cX11_settles 49 = .ok (.putfield 79, 3) := by decide +kernel
theorem dX11_settles_52 : decode cX11_settles 52 = .ok (.aload_n 0, 1) := by decide +kernel
theorem dX11_settles_53 : decode cX11_settles 53 = .ok (.getfield 13, 3) := by decide +kernel
theorem dX11_settles_56 : decode cX11_settles 56 = .ok (.iconst 0, 1) := by decide +kernel
theorem dX11_settles_57 : decode cX11_settles 57 = .ok (.aload_n 0, 1) := by decide +kernel
theorem dX11_settles_58 : decode cX11_settles 58 = .ok (.getfield 43, 3) := by decide +kernel
theorem dX11_settles_61 : decode cX11_settles 61 = .ok (.iconst 0, 1) := by decide +kernel
theorem dX11_settles_62 : decode cX11_settles 62 = .ok (.bipush 15, 2) := by decide +kernel
theorem dX11_settles_64 : decode cX11_settles 64 = .ok (.invokestatic 141, 3) := by decide +kernel
theorem dX11_settles_67 : decode cX11_settles 67 = .ok (.aload_n 0, 1) := by decide +kernel
theorem dX11_settles_68 : decode cX11_settles 68 = .ok (.aload_n 0, 1) := by decide +kernel
theorem dX11_settles_69 : decode cX11_settles 69 = .ok (.getfield 62, 3) := by decide +kernel
theorem dX11_settles_72 : decode cX11_settles 72 = .ok (.ifCond .ne 7, 3) := by decide +kernel
theorem dX11_settles_75 : decode cX11_settles 75 = .ok (.iconst 1, 1) := by decide +kernel
theorem dX11_settles_76 : decode cX11_settles 76 = .ok (.goto 7, 3) := by decide +kernel
theorem dX11_settles_79 : decode cX11_settles 79 = .ok (.aload_n 0, 1) := by decide +kernel
theorem dX11_settles_80 : decode cX11_settles 80 = .ok (.getfield 62, 3) := by decide +kernel
theorem dX11_settles_83 : decode cX11_settles 83 = .ok (.putfield 145, 3) := by decide +kernel
theorem dX11_settles_86 : decode cX11_settles 86 = .ok (.aload_n 0, 1) := by decide +kernel
theorem dX11_settles_87 : decode cX11_settles 87 = .ok (.getfield 16, 3) := by decide +kernel
theorem dX11_settles_90 : decode cX11_settles 90 = .ok (.iconst 0, 1) := by decide +kernel
theorem dX11_settles_91 : decode cX11_settles 91 = .ok (.iconst 0, 1) := by decide +kernel
theorem dX11_settles_92 : decode cX11_settles 92 = .ok (.iastore, 1) := by decide +kernel
theorem dX11_settles_93 : decode cX11_settles 93 = .ok (.aload_n 0, 1) := by decide +kernel
theorem dX11_settles_94 : decode cX11_settles 94 = .ok (.getfield 16, 3) := by decide +kernel
theorem dX11_settles_97 : decode cX11_settles 97 = .ok (.iconst 0, 1) := by decide +kernel
theorem dX11_settles_98 : decode cX11_settles 98 = .ok (.aload_n 0, 1) := by decide +kernel
theorem dX11_settles_99 : decode cX11_settles 99 = .ok (.getfield 46, 3) := by decide +kernel
theorem dX11_settles_102 : decode cX11_settles 102 = .ok (.iconst 0, 1) := by decide +kernel
theorem dX11_settles_103 : decode cX11_settles 103 = .ok (.aload_n 0, 1) := by decide +kernel
theorem dX11_settles_104 : decode cX11_settles 104 = .ok (.getfield 62, 3) := by decide +kernel
theorem dX11_settles_107 : decode cX11_settles 107 = .ok (.invokestatic 141, 3) := by decide +kernel
theorem dX11_settles_110 : decode cX11_settles 110 = .ok (.iconst 0, 1) := by decide +kernel
theorem dX11_settles_111 : decode cX11_settles 111 = .ok (.istore_n 1, 1) := by decide +kernel
theorem dX11_settles_112 : decode cX11_settles 112 = .ok (.iload_n 1, 1) := by decide +kernel
theorem dX11_settles_113 : decode cX11_settles 113 = .ok (.bipush 22, 2) := by decide +kernel
theorem dX11_settles_115 : decode cX11_settles 115 = .ok (.if_icmp .ge 16, 3) := by decide +kernel
theorem dX11_settles_118 : decode cX11_settles 118 = .ok (.aload_n 0, 1) := by decide +kernel
theorem dX11_settles_119 : decode cX11_settles 119 = .ok (.getfield 19, 3) := by decide +kernel
theorem dX11_settles_122 : decode cX11_settles 122 = .ok (.iload_n 1, 1) := by decide +kernel
theorem dX11_settles_123 : decode cX11_settles 123 = .ok (.iconst 0, 1) := by decide +kernel
theorem dX11_settles_124 : decode cX11_settles 124 = .ok (.iastore, 1) := by decide +kernel
theorem dX11_settles_125 : decode cX11_settles 125 = .ok (.iinc 1 1, 3) := by decide +kernel
theorem dX11_settles_128 : decode cX11_settles 128 = .ok (.goto (-16), 3) := by decide +kernel
theorem dX11_settles_131 : decode cX11_settles 131 = .ok (.aload_n 0, 1) := by decide +kernel
theorem dX11_settles_132 : decode cX11_settles 132 = .ok (.getfield 19, 3) := by decide +kernel
theorem dX11_settles_135 : decode cX11_settles 135 = .ok (.iconst 1, 1) := by decide +kernel
theorem dX11_settles_136 : decode cX11_settles 136 = .ok (.aload_n 0, 1) := by decide +kernel
theorem dX11_settles_137 : decode cX11_settles 137 = .ok (.getfield 40, 3) := by decide +kernel
theorem dX11_settles_140 : decode cX11_settles 140 = .ok (.iconst 0, 1) := by decide +kernel
theorem dX11_settles_141 : decode cX11_settles 141 = .ok (.bipush 16, 2) := by decide +kernel
theorem dX11_settles_143 : decode cX11_settles 143 = .ok (.invokestatic 141, 3) := by decide +kernel
theorem dX11_settles_146 : decode cX11_settles 146 = .ok (.iconst 0, 1) := by decide +kernel
theorem dX11_settles_147 : decode cX11_settles 147 = .ok (.istore_n 1, 1) := by decide +kernel
theorem dX11_settles_148 : decode cX11_settles 148 = .ok (.iload_n 1, 1) := by decide +kernel
theorem dX11_settles_149 : decode cX11_settles 149 = .ok (.aload_n 0, 1) := by decide +kernel
theorem dX11_settles_150 : decode cX11_settles 150 = .ok (.getfield 79, 3) := by decide +kernel
theorem dX11_settles_153 : decode cX11_settles 153 = .ok (.if_icmp .ge 30, 3) := by decide +kernel
theorem dX11_settles_156 : decode cX11_settles 156 = .ok (.aload_n 0, 1) := by decide +kernel
theorem dX11_settles_157 : decode cX11_settles 157 = .ok (.getfield 19, 3) := by decide +kernel
theorem dX11_settles_160 : decode cX11_settles 160 = .ok (.bipush 17, 2) := by decide +kernel
theorem dX11_settles_162 : decode cX11_settles 162 = .ok (.iload_n 1, 1) := by decide +kernel
theorem dX11_settles_163 : decode cX11_settles 163 = .ok (.iadd, 1) := by decide +kernel
theorem dX11_settles_164 : decode cX11_settles 164 = .ok (.iconst 1, 1) := by decide +kernel
theorem dX11_settles_165 : decode cX11_settles 165 = .ok (.aload_n 0, 1) := by decide +kernel
theorem dX11_settles_166 : decode cX11_settles 166 = .ok (.getfield 13, 3) := by decide +kernel
theorem dX11_settles_169 : decode cX11_settles 169 = .ok (.iconst 3, 1) := by decide +kernel
theorem dX11_settles_170 : decode cX11_settles 170 = .ok (.iload_n 1, 1) := by decide +kernel
theorem dX11_settles_171 : decode cX11_settles 171 = .ok (.imul, 1) := by decide +kernel
theorem dX11_settles_172 : decode cX11_settles 172 = .ok (.iconst 2, 1) := by decide +kernel
theorem dX11_settles_173 : decode cX11_settles 173 = .ok (.iadd, 1) := by decide +kernel
theorem dX11_settles_174 : decode cX11_settles 174 = .ok (.iaload, 1) := by decide +kernel
theorem dX11_settles_175 : decode cX11_settles 175 = .ok (.ishl, 1) := by decide +kernel
theorem dX11_settles_176 : decode cX11_settles 176 = .ok (.iastore, 1) := by decide +kernel
theorem dX11_settles_177 : decode cX11_settles 177 = .ok (.iinc 1 1, 3) := by decide +kernel
theorem dX11_settles_180 : decode cX11_settles 180 = .ok (.goto (-32), 3) := by decide +kernel
theorem dX11_settles_183 : decode cX11_settles 183 = .ok (.aload_n 0, 1) := by decide +kernel
theorem dX11_settles_184 : decode cX11_settles 184 = .ok (.iconst 0, 1) := by decide +kernel
theorem dX11_settles_185 : decode cX11_settles 185 = .ok (.putfield 148, 3) := by decide +kernel
theorem dX11_settles_188 : decode cX11_settles 188 = .ok (.aload_n 0, 1) := by decide +kernel
theorem dX11_settles_189 : decode cX11_settles 189 = .ok (.iconst 0, 1) := by decide +kernel
theorem dX11_settles_190 : decode cX11_settles 190 = .ok (.putfield 151, 3) := by decide +kernel
theorem dX11_settles_193 : decode cX11_settles 193 = .ok (.aload_n 0, 1) := by decide +kernel
theorem dX11_settles_194 : decode cX11_settles 194 = .ok (.iconst 0, 1) := by decide +kernel
theorem dX11_settles_195 : decode cX11_settles 195 = .ok (.putfield 154, 3) := by decide +kernel
theorem dX11_settles_198 : decode cX11_settles 198 = .ok (.return_, 1) := by decide +kernel
theorem dX11_asItIs_0 : decode cX11_asItIs 0 = .ok (.aload_n 0, 1) := by decide +kernel
theorem dX11_asItIs_1 : decode cX11_asItIs 1 = .ok (.getfield 49, 3) := by decide +kernel
theorem dX11_asItIs_4 : decode cX11_asItIs 4 = .ok (.iconst 0, 1) := by decide +kernel
theorem dX11_asItIs_5 : decode cX11_asItIs 5 = .ok (.aload_n 0, 1) := by decide +kernel
theorem dX11_asItIs_6 : decode cX11_asItIs 6 = .ok (.getfield 19, 3) := by decide +kernel
theorem dX11_asItIs_9 : decode cX11_asItIs 9 = .ok (.iconst 0, 1) := by decide +kernel
theorem dX11_asItIs_10 : decode cX11_asItIs 10 = .ok (.bipush 22, 2) := by decide +kernel
theorem dX11_asItIs_12 : decode cX11_asItIs 12 = .ok (.invokestatic 141, 3) := by decide +kernel
theorem dX11_asItIs_15 : decode cX11_asItIs 15 = .ok (.aload_n 0, 1) := by decide +kernel
theorem dX11_asItIs_16 : decode cX11_asItIs 16 = .ok (.bipush (-4), 2) := by decide +kernel
theorem dX11_asItIs_18 : decode cX11_asItIs 18 = .ok (.putfield 157, 3) := by decide +kernel
theorem dX11_asItIs_21 : decode cX11_asItIs 21 = .ok (.return_, 1) := by decide +kernel
theorem dX11_asItIsOf_0 : decode cX11_asItIsOf 0 = .ok (.aload_n 0, 1) := by decide +kernel
theorem dX11_asItIsOf_1 : decode cX11_asItIsOf 1 = .ok (.invokevirtual 160, 3) := by decide +kernel
theorem dX11_asItIsOf_4 : decode cX11_asItIsOf 4 = .ok (.aload_n 0, 1) := by decide +kernel
theorem dX11_asItIsOf_5 : decode cX11_asItIsOf 5 = .ok (.iload_n 1, 1) := by decide +kernel
theorem dX11_asItIsOf_6 : decode cX11_asItIsOf 6 = .ok (.putfield 157, 3) := by decide +kernel
theorem dX11_asItIsOf_9 : decode cX11_asItIsOf 9 = .ok (.return_, 1) := by decide +kernel
theorem dX11_windOf_0 : decode cX11_windOf 0 = .ok (.aload_n 0, 1) := by decide +kernel
theorem dX11_windOf_1 : decode cX11_windOf 1 = .ok (.getfield 16, 3) := by decide +kernel
theorem dX11_windOf_4 : decode cX11_windOf 4 = .ok (.iload_n 1, 1) := by decide +kernel
theorem dX11_windOf_5 : decode cX11_windOf 5 = .ok (.aload_n 0, 1) := by decide +kernel
theorem dX11_windOf_6 : decode cX11_windOf 6 = .ok (.getfield 145, 3) := by decide +kernel
theorem dX11_windOf_9 : decode cX11_windOf 9 = .ok (.irem, 1) := by decide +kernel
theorem dX11_windOf_10 : decode cX11_windOf 10 = .ok (.iaload, 1) := by decide +kernel
theorem dX11_windOf_11 : decode cX11_windOf 11 = .ok (.ireturn, 1) := by decide +kernel
theorem dX11_beside_0 : decode cX11_beside 0 = .ok (.iload_n 1, 1) := by decide +kernel
theorem dX11_beside_1 : decode cX11_beside 1 = .ok (.aload_n 0, 1) := by decide +kernel
theorem dX11_beside_2 : decode cX11_beside 2 = .ok (.getfield 138, 3) := by decide +kernel
theorem dX11_beside_5 : decode cX11_beside 5 = .ok (.idiv, 1) := by decide +kernel
theorem dX11_beside_6 : decode cX11_beside 6 = .ok (.iload_n 2, 1) := by decide +kernel
theorem dX11_beside_7 : decode cX11_beside 7 = .ok (.iconst 3, 1) := by decide +kernel
theorem dX11_beside_8 : decode cX11_beside 8 = .ok (.if_icmp .ne 7, 3) := by decide +kernel
theorem dX11_beside_11 : decode cX11_beside 11 = .ok (.iconst 1, 1) := by decide +kernel
theorem dX11_beside_12 : decode cX11_beside 12 = .ok (.goto 13, 3) := by decide +kernel
theorem dX11_beside_15 : decode cX11_beside 15 = .ok (.iload_n 2, 1) := by decide +kernel
theorem dX11_beside_16 : decode cX11_beside 16 = .ok (.iconst 1, 1) := by decide +kernel
theorem dX11_beside_17 : decode cX11_beside 17 = .ok (.if_icmp .ne 7, 3) := by decide +kernel
theorem dX11_beside_20 : decode cX11_beside 20 = .ok (.iconst (-1), 1) := by decide +kernel
theorem dX11_beside_21 : decode cX11_beside 21 = .ok (.goto 4, 3) := by decide +kernel
theorem dX11_beside_24 : decode cX11_beside 24 = .ok (.iconst 0, 1) := by decide +kernel
theorem dX11_beside_25 : decode cX11_beside 25 = .ok (.iadd, 1) := by decide +kernel
theorem dX11_beside_26 : decode cX11_beside 26 = .ok (.istore_n 3, 1) := by decide +kernel
theorem dX11_beside_27 : decode cX11_beside 27 = .ok (.iload_n 1, 1) := by decide +kernel
theorem dX11_beside_28 : decode cX11_beside 28 = .ok (.aload_n 0, 1) := by decide +kernel
theorem dX11_beside_29 : decode cX11_beside 29 = .ok (.getfield 138, 3) := by decide +kernel
theorem dX11_beside_32 : decode cX11_beside 32 = .ok (.irem, 1) := by decide +kernel
theorem dX11_beside_33 : decode cX11_beside 33 = .ok (.iload_n 2, 1) := by decide +kernel
theorem dX11_beside_34 : decode cX11_beside 34 = .ok (.iconst 2, 1) := by decide +kernel
theorem dX11_beside_35 : decode cX11_beside 35 = .ok (.if_icmp .ne 7, 3) := by decide +kernel
theorem dX11_beside_38 : decode cX11_beside 38 = .ok (.iconst 1, 1) := by decide +kernel
theorem dX11_beside_39 : decode cX11_beside 39 = .ok (.goto 13, 3) := by decide +kernel
theorem dX11_beside_42 : decode cX11_beside 42 = .ok (.iload_n 2, 1) := by decide +kernel
theorem dX11_beside_43 : decode cX11_beside 43 = .ok (.iconst 4, 1) := by decide +kernel
theorem dX11_beside_44 : decode cX11_beside 44 = .ok (.if_icmp .ne 7, 3) := by decide +kernel
theorem dX11_beside_47 : decode cX11_beside 47 = .ok (.iconst (-1), 1) := by decide +kernel
theorem dX11_beside_48 : decode cX11_beside 48 = .ok (.goto 4, 3) := by decide +kernel
theorem dX11_beside_51 : decode cX11_beside 51 = .ok (.iconst 0, 1) := by decide +kernel
theorem dX11_beside_52 : decode cX11_beside 52 = .ok (.iadd, 1) := by decide +kernel
theorem dX11_beside_53 : decode cX11_beside 53 = .ok (.istore 4, 2) := by decide +kernel
theorem dX11_beside_55 : decode cX11_beside 55 = .ok (.iload_n 3, 1) := by decide +kernel
theorem dX11_beside_56 : decode cX11_beside 56 = .ok (.iconst 0, 1) := by decide +kernel
theorem dX11_beside_57 : decode cX11_beside 57 = .ok (.aload_n 0, 1) := by decide +kernel
theorem dX11_beside_58 : decode cX11_beside 58 = .ok (.getfield 135, 3) := by decide +kernel
theorem dX11_beside_61 : decode cX11_beside 61 = .ok (.iconst 1, 1) := by decide +kernel
theorem dX11_beside_62 : decode cX11_beside 62 = .ok (.isub, 1) := by decide +kernel
theorem dX11_beside_63 : decode cX11_beside 63 = .ok (.invokestatic 75, 3) := by decide +kernel
theorem dX11_beside_66 : decode cX11_beside 66 = .ok (.ifCond .eq 30, 3) := by decide +kernel
theorem dX11_beside_69 : decode cX11_beside 69 = .ok (.iload 4, 2) := by decide +kernel
theorem dX11_beside_71 : decode cX11_beside 71 = .ok (.iconst 0, 1) := by decide +kernel
theorem dX11_beside_72 : decode cX11_beside 72 = .ok (.aload_n 0, 1) := by decide +kernel
theorem dX11_beside_73 : decode cX11_beside 73 = .ok (.getfield 138, 3) := by decide +kernel
theorem dX11_beside_76 : decode cX11_beside 76 = .ok (.iconst 1, 1) := by decide +kernel
theorem dX11_beside_77 : decode cX11_beside 77 = .ok (.isub, 1) := by decide +kernel
theorem dX11_beside_78 : decode cX11_beside 78 = .ok (.invokestatic 75, 3) := by decide +kernel
theorem dX11_beside_81 : decode cX11_beside 81 = .ok (.ifCond .eq 15, 3) := by decide +kernel
theorem dX11_beside_84 : decode cX11_beside 84 = .ok (.iload_n 3, 1) := by decide +kernel
theorem dX11_beside_85 : decode cX11_beside 85 = .ok (.aload_n 0, 1) := by decide +kernel
theorem dX11_beside_86 : decode cX11_beside 86 = .ok (.getfield 138, 3) := by decide +kernel
theorem dX11_beside_89 : decode cX11_beside 89 = .ok (.imul, 1) := by decide +kernel
theorem dX11_beside_90 : decode cX11_beside 90 = .ok (.iload 4, 2) := by decide +kernel
theorem dX11_beside_92 : decode cX11_beside 92 = .ok (.iadd, 1) := by decide +kernel
theorem dX11_beside_93 : decode cX11_beside 93 = .ok (.goto 5, 3) := by decide +kernel
theorem dX11_beside_96 : decode cX11_beside 96 = .ok (.bipush (-4), 2) := by decide +kernel
theorem dX11_beside_98 : decode cX11_beside 98 = .ok (.ireturn, 1) := by decide +kernel
theorem dX11_letsOut_0 : decode cX11_letsOut 0 = .ok (.aload_n 0, 1) := by decide +kernel
theorem dX11_letsOut_1 : decode cX11_letsOut 1 = .ok (.getfield 7, 3) := by decide +kernel
theorem dX11_letsOut_4 : decode cX11_letsOut 4 = .ok (.iload_n 1, 1) := by decide +kernel
theorem dX11_letsOut_5 : decode cX11_letsOut 5 = .ok (.iaload, 1) := by decide +kernel
theorem dX11_letsOut_6 : decode cX11_letsOut 6 = .ok (.iconst 3, 1) := by decide +kernel
theorem dX11_letsOut_7 : decode cX11_letsOut 7 = .ok (.if_icmp .eq 29, 3) := by decide +kernel
theorem dX11_letsOut_10 : decode cX11_letsOut 10 = .ok (.aload_n 0, 1) := by decide +kernel
theorem dX11_letsOut_11 : decode cX11_letsOut 11 = .ok (.getfield 7, 3) := by decide +kernel
theorem dX11_letsOut_14 : decode cX11_letsOut 14 = .ok (.iload_n 1, 1) := by decide +kernel
theorem dX11_letsOut_15 : decode cX11_letsOut 15 = .ok (.iaload, 1) := by decide +kernel
theorem dX11_letsOut_16 : decode cX11_letsOut 16 = .ok (.iconst 4, 1) := by decide +kernel
theorem dX11_letsOut_17 : decode cX11_letsOut 17 = .ok (.if_icmp .ne 15, 3) := by decide +kernel
theorem dX11_letsOut_20 : decode cX11_letsOut 20 = .ok (.aload_n 0, 1) := by decide +kernel
theorem dX11_letsOut_21 : decode cX11_letsOut 21 = .ok (.getfield 13, 3) := by decide +kernel
theorem dX11_letsOut_24 : decode cX11_letsOut 24 = .ok (.iconst 3, 1) := by decide +kernel
theorem dX11_letsOut_25 : decode cX11_letsOut 25 = .ok (.iload_n 2, 1) := by decide +kernel
theorem dX11_letsOut_26 : decode cX11_letsOut 26 = .ok (.imul, 1) := by decide +kernel
theorem dX11_letsOut_27 : decode cX11_letsOut 27 = .ok (.iaload, 1) := by decide +kernel
theorem dX11_letsOut_28 : decode cX11_letsOut 28 = .ok (.iconst 2, 1) := by decide +kernel
theorem dX11_letsOut_29 : decode cX11_letsOut 29 = .ok (.if_icmp .eq 7, 3) := by decide +kernel
theorem dX11_letsOut_32 : decode cX11_letsOut 32 = .ok (.iconst 1, 1) := by decide +kernel
theorem dX11_letsOut_33 : decode cX11_letsOut 33 = .ok (.goto 4, 3) := by decide +kernel
theorem dX11_letsOut_36 : decode cX11_letsOut 36 = .ok (.iconst 0, 1) := by decide +kernel
theorem dX11_letsOut_37 : decode cX11_letsOut 37 = .ok (.ireturn, 1) := by decide +kernel
theorem dX11_letsIn_0 : decode cX11_letsIn 0 = .ok (.aload_n 0, 1) := by decide +kernel
theorem dX11_letsIn_1 : decode cX11_letsIn 1 = .ok (.getfield 13, 3) := by decide +kernel
theorem dX11_letsIn_4 : decode cX11_letsIn 4 = .ok (.iconst 3, 1) := by decide +kernel
theorem dX11_letsIn_5 : decode cX11_letsIn 5 = .ok (.iload_n 3, 1) := by decide +kernel
theorem dX11_letsIn_6 : decode cX11_letsIn 6 = .ok (.imul, 1) := by decide +kernel
theorem dX11_letsIn_7 : decode cX11_letsIn 7 = .ok (.iconst 1, 1) := by decide +kernel
theorem dX11_letsIn_8 : decode cX11_letsIn 8 = .ok (.iadd, 1) := by decide +kernel
theorem dX11_letsIn_9 : decode cX11_letsIn 9 = .ok (.iaload, 1) := by decide +kernel
theorem dX11_letsIn_10 : decode cX11_letsIn 10 = .ok (.aload_n 0, 1) := by decide +kernel
theorem dX11_letsIn_11 : decode cX11_letsIn 11 = .ok (.getfield 7, 3) := by decide +kernel
theorem dX11_letsIn_14 : decode cX11_letsIn 14 = .ok (.iload_n 1, 1) := by decide +kernel
theorem dX11_letsIn_15 : decode cX11_letsIn 15 = .ok (.iaload, 1) := by decide +kernel
theorem dX11_letsIn_16 : decode cX11_letsIn 16 = .ok (.iconst 1, 1) := by decide +kernel
theorem dX11_letsIn_17 : decode cX11_letsIn 17 = .ok (.if_icmp .ne 7, 3) := by decide +kernel
theorem dX11_letsIn_20 : decode cX11_letsIn 20 = .ok (.iconst 1, 1) := by decide +kernel
theorem dX11_letsIn_21 : decode cX11_letsIn 21 = .ok (.goto 4, 3) := by decide +kernel
theorem dX11_letsIn_24 : decode cX11_letsIn 24 = .ok (.iconst 0, 1) := by decide +kernel
theorem dX11_letsIn_25 : decode cX11_letsIn 25 = .ok (.isub, 1) := by decide +kernel
theorem dX11_letsIn_26 : decode cX11_letsIn 26 = .ok (.aload_n 0, 1) := by decide +kernel
theorem dX11_letsIn_27 : decode cX11_letsIn 27 = .ok (.getfield 7, 3) := by decide +kernel
theorem dX11_letsIn_30 : decode cX11_letsIn 30 = .ok (.iload_n 2, 1) := by decide +kernel
theorem dX11_letsIn_31 : decode cX11_letsIn 31 = .ok (.iaload, 1) := by decide +kernel
theorem dX11_letsIn_32 : decode cX11_letsIn 32 = .ok (.iconst 2, 1) := by decide +kernel
theorem dX11_letsIn_33 : decode cX11_letsIn 33 = .ok (.if_icmp .ne 7, 3) := by decide +kernel
theorem dX11_letsIn_36 : decode cX11_letsIn 36 = .ok (.iconst 1, 1) := by decide +kernel
theorem dX11_letsIn_37 : decode cX11_letsIn 37 = .ok (.goto 4, 3) := by decide +kernel
theorem dX11_letsIn_40 : decode cX11_letsIn 40 = .ok (.iconst 0, 1) := by decide +kernel
theorem dX11_letsIn_41 : decode cX11_letsIn 41 = .ok (.iadd, 1) := by decide +kernel
theorem dX11_letsIn_42 : decode cX11_letsIn 42 = .ok (.istore 4, 2) := by decide +kernel
theorem dX11_letsIn_44 : decode cX11_letsIn 44 = .ok (.aload_n 0, 1) := by decide +kernel
theorem dX11_letsIn_45 : decode cX11_letsIn 45 = .ok (.getfield 49, 3) := by decide +kernel
theorem dX11_letsIn_48 : decode cX11_letsIn 48 = .ok (.iconst 1, 1) := by decide +kernel
theorem dX11_letsIn_49 : decode cX11_letsIn 49 = .ok (.iload_n 2, 1) := by decide +kernel
theorem dX11_letsIn_50 : decode cX11_letsIn 50 = .ok (.iadd, 1) := by decide +kernel
theorem dX11_letsIn_51 : decode cX11_letsIn 51 = .ok (.iaload, 1) := by decide +kernel
theorem dX11_letsIn_52 : decode cX11_letsIn 52 = .ok (.ifCond .le 20, 3) := by decide +kernel
theorem dX11_letsIn_55 : decode cX11_letsIn 55 = .ok (.aload_n 0, 1) := by decide +kernel
theorem dX11_letsIn_56 : decode cX11_letsIn 56 = .ok (.getfield 49, 3) := by decide +kernel
theorem dX11_letsIn_59 : decode cX11_letsIn 59 = .ok (.iconst 1, 1) := by decide +kernel
theorem dX11_letsIn_60 : decode cX11_letsIn 60 = .ok (.iload_n 2, 1) := by decide +kernel
theorem dX11_letsIn_61 : decode cX11_letsIn 61 = .ok (.iadd, 1) := by decide +kernel
theorem dX11_letsIn_62 : decode cX11_letsIn 62 = .ok (.iaload, 1) := by decide +kernel
theorem dX11_letsIn_63 : decode cX11_letsIn 63 = .ok (.iload 4, 2) := by decide +kernel
theorem dX11_letsIn_65 : decode cX11_letsIn 65 = .ok (.if_icmp .lt 7, 3) := by decide +kernel
theorem dX11_letsIn_68 : decode cX11_letsIn 68 = .ok (.iconst 1, 1) := by decide +kernel
theorem dX11_letsIn_69 : decode cX11_letsIn 69 = .ok (.goto 4, 3) := by decide +kernel
theorem dX11_letsIn_72 : decode cX11_letsIn 72 = .ok (.iconst 0, 1) := by decide +kernel
theorem dX11_letsIn_73 : decode cX11_letsIn 73 = .ok (.ireturn, 1) := by decide +kernel
theorem dX11_blowsFrom_0 : decode cX11_blowsFrom 0 = .ok (.aload_n 0, 1) := by decide +kernel
theorem dX11_blowsFrom_1 : decode cX11_blowsFrom 1 = .ok (.iload_n 1, 1) := by decide +kernel
theorem dX11_blowsFrom_2 : decode cX11_blowsFrom 2 = .ok (.iload_n 3, 1) := by decide +kernel
theorem dX11_blowsFrom_3 : decode cX11_blowsFrom 3 = .ok (.invokevirtual 163, 3) := by decide +kernel
theorem dX11_blowsFrom_6 : decode cX11_blowsFrom 6 = .ok (.istore 5, 2) := by decide +kernel
theorem dX11_blowsFrom_8 : decode cX11_blowsFrom 8 = .ok (.iload 5, 2) := by decide +kernel
theorem dX11_blowsFrom_10 : decode cX11_blowsFrom 10 = .ok (.ifCond .lt 40, 3) := by decide +kernel
theorem dX11_blowsFrom_13 : decode cX11_blowsFrom 13 = .ok (.iload 4, 2) := by decide +kernel
theorem dX11_blowsFrom_15 : decode cX11_blowsFrom 15 = .ok (.iload 5, 2) := by decide +kernel
theorem dX11_blowsFrom_17 : decode cX11_blowsFrom 17 = .ok (.invokestatic 167, 3) := by decide +kernel
theorem dX11_blowsFrom_20 : decode cX11_blowsFrom 20 = .ok (.ifCond .ne 30, 3) := by decide +kernel
theorem dX11_blowsFrom_23 : decode cX11_blowsFrom 23 = .ok (.aload_n 0, 1) := by decide +kernel
theorem dX11_blowsFrom_24 : decode cX11_blowsFrom 24 = .ok (.iload_n 1, 1) := by decide +kernel
theorem dX11_blowsFrom_25 : decode cX11_blowsFrom 25 = .ok (.iload 5, 2) := by decide +kernel
theorem dX11_blowsFrom_27 : decode cX11_blowsFrom 27 = .ok (.iload_n 2, 1) := by decide +kernel
theorem dX11_blowsFrom_28 : decode cX11_blowsFrom 28 = .ok (.invokevirtual 171, 3) := by decide +kernel
theorem dX11_blowsFrom_31 : decode cX11_blowsFrom 31 = .ok (.ifCond .eq 19, 3) := by decide +kernel
theorem dX11_blowsFrom_34 : decode cX11_blowsFrom 34 = .ok (.aload_n 0, 1) := by decide +kernel
theorem dX11_blowsFrom_35 : decode cX11_blowsFrom 35 = .ok (.getfield 49, 3) := by decide +kernel
theorem dX11_blowsFrom_38 : decode cX11_blowsFrom 38 = .ok (.bipush 17, 2) := by decide +kernel
theorem dX11_blowsFrom_40 : decode cX11_blowsFrom 40 = .ok (.iload_n 2, 1) := by decide +kernel
theorem dX11_blowsFrom_41 : decode cX11_blowsFrom 41 = .ok (.iadd, 1) := by decide +kernel
theorem dX11_blowsFrom_42 : decode cX11_blowsFrom 42 = .ok (.dup2, 1) := by decide +kernel
theorem dX11_blowsFrom_43 : decode cX11_blowsFrom 43 = .ok (.iaload, 1) := by decide +kernel
theorem dX11_blowsFrom_44 : decode cX11_blowsFrom 44 = .ok (.iconst 1, 1) := by decide +kernel
theorem dX11_blowsFrom_45 : decode cX11_blowsFrom 45 = .ok (.iload 5, 2) := by decide +kernel
theorem dX11_blowsFrom_47 : decode cX11_blowsFrom 47 = .ok (.ishl, 1) := by decide +kernel
theorem dX11_blowsFrom_48 : decode cX11_blowsFrom 48 = .ok (.ior, 1) := by decide +kernel
theorem dX11_blowsFrom_49 : decode cX11_blowsFrom 49 = .ok (.iastore, 1) := by decide +kernel
theorem dX11_blowsFrom_50 : decode cX11_blowsFrom 50 = .ok (.return_, 1) := by decide +kernel
theorem dX11_goesBy_0 : decode cX11_goesBy 0 = .ok (.iconst 0, 1) := by decide +kernel
theorem dX11_goesBy_1 : decode cX11_goesBy 1 = .ok (.istore_n 2, 1) := by decide +kernel
theorem dX11_goesBy_2 : decode cX11_goesBy 2 = .ok (.iload_n 2, 1) := by decide +kernel
theorem dX11_goesBy_3 : decode cX11_goesBy 3 = .ok (.aload_n 0, 1) := by decide +kernel
theorem dX11_goesBy_4 : decode cX11_goesBy 4 = .ok (.getfield 79, 3) := by decide +kernel
theorem dX11_goesBy_7 : decode cX11_goesBy 7 = .ok (.if_icmp .ge 114, 3) := by decide +kernel
theorem dX11_goesBy_10 : decode cX11_goesBy 10 = .ok (.aload_n 0, 1) := by decide +kernel
theorem dX11_goesBy_11 : decode cX11_goesBy 11 = .ok (.getfield 157, 3) := by decide +kernel
theorem dX11_goesBy_14 : decode cX11_goesBy 14 = .ok (.ifCond .lt 11, 3) := by decide +kernel
theorem dX11_goesBy_17 : decode cX11_goesBy 17 = .ok (.aload_n 0, 1) := by decide +kernel
theorem dX11_goesBy_18 : decode cX11_goesBy 18 = .ok (.getfield 157, 3) := by decide +kernel
theorem dX11_goesBy_21 : decode cX11_goesBy 21 = .ok (.iload_n 2, 1) := by decide +kernel
theorem dX11_goesBy_22 : decode cX11_goesBy 22 = .ok (.if_icmp .ne 15, 3) := by decide +kernel
theorem dX11_goesBy_25 : decode cX11_goesBy 25 = .ok (.aload_n 0, 1) := by decide +kernel
theorem dX11_goesBy_26 : decode cX11_goesBy 26 = .ok (.getfield 49, 3) := by decide +kernel
theorem dX11_goesBy_29 : decode cX11_goesBy 29 = .ok (.bipush 17, 2) := by decide +kernel
theorem dX11_goesBy_31 : decode cX11_goesBy 31 = .ok (.iload_n 2, 1) := by decide +kernel
theorem dX11_goesBy_32 : decode cX11_goesBy 32 = .ok (.iadd, 1) := by decide +kernel
theorem dX11_goesBy_33 : decode cX11_goesBy 33 = .ok (.iaload, 1) := by decide +kernel
theorem dX11_goesBy_34 : decode cX11_goesBy 34 = .ok (.goto 4, 3) := by decide +kernel
theorem dX11_goesBy_37 : decode cX11_goesBy 37 = .ok (.iconst 0, 1) := by decide +kernel
theorem dX11_goesBy_38 : decode cX11_goesBy 38 = .ok (.istore_n 3, 1) := by decide +kernel
theorem dX11_goesBy_39 : decode cX11_goesBy 39 = .ok (.iconst 0, 1) := by decide +kernel
theorem dX11_goesBy_40 : decode cX11_goesBy 40 = .ok (.istore 4, 2) := by decide +kernel
theorem dX11_goesBy_42 : decode cX11_goesBy 42 = .ok (.iload 4, 2) := by decide +kernel
theorem dX11_goesBy_44 : decode cX11_goesBy 44 = .ok (.aload_n 0, 1) := by decide +kernel
theorem dX11_goesBy_45 : decode cX11_goesBy 45 = .ok (.getfield 72, 3) := by decide +kernel
theorem dX11_goesBy_48 : decode cX11_goesBy 48 = .ok (.if_icmp .ge 67, 3) := by decide +kernel
theorem dX11_goesBy_51 : decode cX11_goesBy 51 = .ok (.iload_n 3, 1) := by decide +kernel
theorem dX11_goesBy_52 : decode cX11_goesBy 52 = .ok (.ifCond .le 63, 3) := by decide +kernel
theorem dX11_goesBy_55 : decode cX11_goesBy 55 = .ok (.iload_n 3, 1) := by decide +kernel
theorem dX11_goesBy_56 : decode cX11_goesBy 56 = .ok (.iload 4, 2) := by decide +kernel
theorem dX11_goesBy_58 : decode cX11_goesBy 58 = .ok (.invokestatic 167, 3) := by decide +kernel
theorem dX11_goesBy_61 : decode cX11_goesBy 61 = .ok (.ifCond .eq 48, 3) := by decide +kernel
theorem dX11_goesBy_64 : decode cX11_goesBy 64 = .ok (.aload_n 0, 1) := by decide +kernel
theorem dX11_goesBy_65 : decode cX11_goesBy 65 = .ok (.iload 4, 2) := by decide +kernel
theorem dX11_goesBy_67 : decode cX11_goesBy 67 = .ok (.iload_n 2, 1) := by decide +kernel
theorem dX11_goesBy_68 : decode cX11_goesBy 68 = .ok (.invokevirtual 174, 3) := by decide +kernel
theorem dX11_goesBy_71 : decode cX11_goesBy 71 = .ok (.ifCond .eq 38, 3) := by decide +kernel
theorem dX11_goesBy_74 : decode cX11_goesBy 74 = .ok (.iconst 1, 1) := by decide +kernel
theorem dX11_goesBy_75 : decode cX11_goesBy 75 = .ok (.istore 5, 2) := by decide +kernel
theorem dX11_goesBy_77 : decode cX11_goesBy 77 = .ok (.iload 5, 2) := by decide +kernel
theorem dX11_goesBy_79 : decode cX11_goesBy 79 = .ok (.iconst 4, 1) := by decide +kernel
theorem dX11_goesBy_80 : decode cX11_goesBy 80 = .ok (.if_icmp .gt 29, 3) := by decide +kernel
theorem dX11_goesBy_83 : decode cX11_goesBy 83 = .ok (.iload_n 1, 1) := by decide +kernel
theorem dX11_goesBy_84 : decode cX11_goesBy 84 = .ok (.ifCond .eq 9, 3) := by decide +kernel
theorem dX11_goesBy_87 : decode cX11_goesBy 87 = .ok (.iload_n 1, 1) := by decide +kernel
theorem dX11_goesBy_88 : decode cX11_goesBy 88 = .ok (.iload 5, 2) := by decide +kernel
theorem dX11_goesBy_90 : decode cX11_goesBy 90 = .ok (.if_icmp .ne 13, 3) := by decide +kernel
theorem dX11_goesBy_93 : decode cX11_goesBy 93 = .ok (.aload_n 0, 1) := by decide +kernel
theorem dX11_goesBy_94 : decode cX11_goesBy 94 = .ok (.iload 4, 2) := by decide +kernel
theorem dX11_goesBy_96 : decode cX11_goesBy 96 = .ok (.iload_n 2, 1) := by decide +kernel
theorem dX11_goesBy_97 : decode cX11_goesBy 97 = .ok (.iload 5, 2) := by decide +kernel
theorem dX11_goesBy_99 : decode cX11_goesBy 99 = .ok (.iload_n 3, 1) := by decide +kernel
theorem dX11_goesBy_100 : decode cX11_goesBy 100 = .ok (.invokevirtual 177, 3) := by decide +kernel
theorem dX11_goesBy_103 : decode cX11_goesBy 103 = .ok (.iinc 5 1, 3) := by decide +kernel
theorem dX11_goesBy_106 : decode cX11_goesBy 106 = .ok (.goto (-29), 3) := by decide +kernel
theorem dX11_goesBy_109 : decode cX11_goesBy 109 = .ok (.iinc 4 1, 3) := by decide +kernel
theorem dX11_goesBy_112 : decode cX11_goesBy 112 = .ok (.goto (-70), 3) := by decide +kernel
theorem dX11_goesBy_115 : decode cX11_goesBy 115 = .ok (.iinc 2 1, 3) := by decide +kernel
theorem dX11_goesBy_118 : decode cX11_goesBy 118 = .ok (.goto (-116), 3) := by decide +kernel
theorem dX11_goesBy_121 : decode cX11_goesBy 121 = .ok (.aload_n 0, 1) := by decide +kernel
theorem dX11_goesBy_122 : decode cX11_goesBy 122 = .ok (.getfield 49, 3) := by decide +kernel
theorem dX11_goesBy_125 : decode cX11_goesBy 125 = .ok (.iconst 0, 1) := by decide +kernel
theorem dX11_goesBy_126 : decode cX11_goesBy 126 = .ok (.dup2, 1) := by decide +kernel
theorem dX11_goesBy_127 : decode cX11_goesBy 127 = .ok (.iaload, 1) := by decide +kernel
theorem dX11_goesBy_128 : decode cX11_goesBy 128 = .ok (.iconst 1, 1) := by decide +kernel
theorem dX11_goesBy_129 : decode cX11_goesBy 129 = .ok (.iadd, 1) := by decide +kernel
theorem dX11_goesBy_130 : decode cX11_goesBy 130 = .ok (.iastore, 1) := by decide +kernel
theorem dX11_goesBy_131 : decode cX11_goesBy 131 = .ok (.return_, 1) := by decide +kernel
theorem dX11_goes_0 : decode cX11_goes 0 = .ok (.iconst 0, 1) := by decide +kernel
theorem dX11_goes_1 : decode cX11_goes 1 = .ok (.istore_n 2, 1) := by decide +kernel
theorem dX11_goes_2 : decode cX11_goes 2 = .ok (.iload_n 2, 1) := by decide +kernel
theorem dX11_goes_3 : decode cX11_goes 3 = .ok (.iload_n 1, 1) := by decide +kernel
theorem dX11_goes_4 : decode cX11_goes 4 = .ok (.if_icmp .ge 23, 3) := by decide +kernel
theorem dX11_goes_7 : decode cX11_goes 7 = .ok (.aload_n 0, 1) := by decide +kernel
theorem dX11_goes_8 : decode cX11_goes 8 = .ok (.aload_n 0, 1) := by decide +kernel
theorem dX11_goes_9 : decode cX11_goes 9 = .ok (.aload_n 0, 1) := by decide +kernel
theorem dX11_goes_10 : decode cX11_goes 10 = .ok (.getfield 49, 3) := by decide +kernel
theorem dX11_goes_13 : decode cX11_goes 13 = .ok (.iconst 0, 1) := by decide +kernel
theorem dX11_goes_14 : decode cX11_goes 14 = .ok (.iaload, 1) := by decide +kernel
theorem dX11_goes_15 : decode cX11_goes 15 = .ok (.invokevirtual 181, 3) := by decide +kernel
theorem dX11_goes_18 : decode cX11_goes 18 = .ok (.invokevirtual 184, 3) := by decide +kernel
theorem dX11_goes_21 : decode cX11_goes 21 = .ok (.iinc 2 1, 3) := by decide +kernel
theorem dX11_goes_24 : decode cX11_goes 24 = .ok (.goto (-22), 3) := by decide +kernel
theorem dX11_goes_27 : decode cX11_goes 27 = .ok (.return_, 1) := by decide +kernel
theorem dX11_known_0 : decode cX11_known 0 = .ok (.iconst 0, 1) := by decide +kernel
theorem dX11_known_1 : decode cX11_known 1 = .ok (.istore_n 2, 1) := by decide +kernel
theorem dX11_known_2 : decode cX11_known 2 = .ok (.iconst 0, 1) := by decide +kernel
theorem dX11_known_3 : decode cX11_known 3 = .ok (.istore_n 3, 1) := by decide +kernel
theorem dX11_known_4 : decode cX11_known 4 = .ok (.iload_n 3, 1) := by decide +kernel
theorem dX11_known_5 : decode cX11_known 5 = .ok (.aload_n 0, 1) := by decide +kernel
theorem dX11_known_6 : decode cX11_known 6 = .ok (.getfield 79, 3) := by decide +kernel
theorem dX11_known_9 : decode cX11_known 9 = .ok (.if_icmp .ge 35, 3) := by decide +kernel
theorem dX11_known_12 : decode cX11_known 12 = .ok (.iload_n 2, 1) := by decide +kernel
theorem dX11_known_13 : decode cX11_known 13 = .ok (.aload_n 0, 1) := by decide +kernel
theorem dX11_known_14 : decode cX11_known 14 = .ok (.getfield 49, 3) := by decide +kernel
theorem dX11_known_17 : decode cX11_known 17 = .ok (.bipush 17, 2) := by decide +kernel
theorem dX11_known_19 : decode cX11_known 19 = .ok (.iload_n 3, 1) := by decide +kernel
theorem dX11_known_20 : decode cX11_known 20 = .ok (.iadd, 1) := by decide +kernel
theorem dX11_known_21 : decode cX11_known 21 = .ok (.iaload, 1) := by decide +kernel
theorem dX11_known_22 : decode cX11_known 22 = .ok (.iload_n 1, 1) := by decide +kernel
theorem dX11_known_23 : decode cX11_known 23 = .ok (.invokestatic 167, 3) := by decide +kernel
theorem dX11_known_26 : decode cX11_known 26 = .ok (.ifCond .eq 9, 3) := by decide +kernel
theorem dX11_known_29 : decode cX11_known 29 = .ok (.iconst 1, 1) := by decide +kernel
theorem dX11_known_30 : decode cX11_known 30 = .ok (.iload_n 3, 1) := by decide +kernel
theorem dX11_known_31 : decode cX11_known 31 = .ok (.ishl, 1) := by decide +kernel
theorem dX11_known_32 : decode cX11_known 32 = .ok (.goto 4, 3) := by decide +kernel
theorem dX11_known_35 : decode cX11_known 35 = .ok (.iconst 0, 1) := by decide +kernel
theorem dX11_known_36 : decode cX11_known 36 = .ok (.ior, 1) := by decide +kernel
theorem dX11_known_37 : decode cX11_known 37 = .ok (.istore_n 2, 1) := by decide +kernel
theorem dX11_known_38 : decode cX11_known 38 = .ok (.iinc 3 1, 3) := by decide +kernel
theorem dX11_known_41 : decode cX11_known 41 = .ok (.goto (-37), 3) := by decide +kernel
theorem dX11_known_44 : decode cX11_known 44 = .ok (.iload_n 2, 1) := by decide +kernel
theorem dX11_known_45 : decode cX11_known 45 = .ok (.ireturn, 1) := by decide +kernel
theorem dX11_house_0 : decode cX11_house 0 = .ok (.aload_n 0, 1) := by decide +kernel
theorem dX11_house_1 : decode cX11_house 1 = .ok (.iload_n 1, 1) := by decide +kernel
theorem dX11_house_2 : decode cX11_house 2 = .ok (.invokevirtual 188, 3) := by decide +kernel
theorem dX11_house_5 : decode cX11_house 5 = .ok (.ifCond .ne 5, 3) := by decide +kernel
theorem dX11_house_8 : decode cX11_house 8 = .ok (.iconst (-1), 1) := by decide +kernel
theorem dX11_house_9 : decode cX11_house 9 = .ok (.ireturn, 1) := by decide +kernel
theorem dX11_house_10 : decode cX11_house 10 = .ok (.aload_n 0, 1) := by decide +kernel
theorem dX11_house_11 : decode cX11_house 11 = .ok (.invokevirtual 160, 3) := by decide +kernel
theorem dX11_house_14 : decode cX11_house 14 = .ok (.iload_n 2, 1) := by decide +kernel
theorem dX11_house_15 : decode cX11_house 15 = .ok (.tableswitch 47 0 2 #[25, 32, 41], 25) := by decide +kernel
theorem dX11_house_40 : decode cX11_house 40 = .ok (.aload_n 0, 1) := by decide +kernel
theorem dX11_house_41 : decode cX11_house 41 = .ok (.getfield 7, 3) := by decide +kernel
theorem dX11_house_44 : decode cX11_house 44 = .ok (.iload_n 1, 1) := by decide +kernel
theorem dX11_house_45 : decode cX11_house 45 = .ok (.iaload, 1) := by decide +kernel
theorem dX11_house_46 : decode cX11_house 46 = .ok (.ireturn, 1) := by decide +kernel
theorem dX11_house_47 : decode cX11_house 47 = .ok (.aload_n 0, 1) := by decide +kernel
theorem dX11_house_48 : decode cX11_house 48 = .ok (.getfield 19, 3) := by decide +kernel
theorem dX11_house_51 : decode cX11_house 51 = .ok (.iconst 1, 1) := by decide +kernel
theorem dX11_house_52 : decode cX11_house 52 = .ok (.iload_n 1, 1) := by decide +kernel
theorem dX11_house_53 : decode cX11_house 53 = .ok (.iadd, 1) := by decide +kernel
theorem dX11_house_54 : decode cX11_house 54 = .ok (.iaload, 1) := by decide +kernel
theorem dX11_house_55 : decode cX11_house 55 = .ok (.ireturn, 1) := by decide +kernel
theorem dX11_house_56 : decode cX11_house 56 = .ok (.aload_n 0, 1) := by decide +kernel
theorem dX11_house_57 : decode cX11_house 57 = .ok (.iload_n 1, 1) := by decide +kernel
theorem dX11_house_58 : decode cX11_house 58 = .ok (.invokevirtual 191, 3) := by decide +kernel
theorem dX11_house_61 : decode cX11_house 61 = .ok (.ireturn, 1) := by decide +kernel
theorem dX11_house_62 : decode cX11_house 62 = .ok (.iconst (-1), 1) := by decide +kernel
theorem dX11_house_63 : decode cX11_house 63 = .ok (.ireturn, 1) := by decide +kernel
theorem dX11_news_0 : decode cX11_news 0 = .ok (.aload_n 0, 1) := by decide +kernel
theorem dX11_news_1 : decode cX11_news 1 = .ok (.iload_n 1, 1) := by decide +kernel
theorem dX11_news_2 : decode cX11_news 2 = .ok (.invokevirtual 194, 3) := by decide +kernel
theorem dX11_news_5 : decode cX11_news 5 = .ok (.ifCond .eq 12, 3) := by decide +kernel
theorem dX11_news_8 : decode cX11_news 8 = .ok (.iload_n 2, 1) := by decide +kernel
theorem dX11_news_9 : decode cX11_news 9 = .ok (.iconst 0, 1) := by decide +kernel
theorem dX11_news_10 : decode cX11_news 10 = .ok (.iconst 3, 1) := by decide +kernel
theorem dX11_news_11 : decode cX11_news 11 = .ok (.invokestatic 75, 3) := by decide +kernel
theorem dX11_news_14 : decode cX11_news 14 = .ok (.ifCond .ne 5, 3) := by decide +kernel
theorem dX11_news_17 : decode cX11_news 17 = .ok (.iconst (-1), 1) := by decide +kernel
theorem dX11_news_18 : decode cX11_news 18 = .ok (.ireturn, 1) := by decide +kernel
theorem dX11_news_19 : decode cX11_news 19 = .ok (.iload_n 2, 1) := by decide +kernel
theorem dX11_news_20 : decode cX11_news 20 = .ok (.iconst 3, 1) := by decide +kernel
theorem dX11_news_21 : decode cX11_news 21 = .ok (.if_icmp .ge 16, 3) := by decide +kernel
theorem dX11_news_24 : decode cX11_news 24 = .ok (.aload_n 0, 1) := by decide +kernel
theorem dX11_news_25 : decode cX11_news 25 = .ok (.getfield 13, 3) := by decide +kernel
theorem dX11_news_28 : decode cX11_news 28 = .ok (.iconst 3, 1) := by decide +kernel
theorem dX11_news_29 : decode cX11_news 29 = .ok (.iload_n 1, 1) := by decide +kernel
theorem dX11_news_30 : decode cX11_news 30 = .ok (.imul, 1) := by decide +kernel
theorem dX11_news_31 : decode cX11_news 31 = .ok (.iload_n 2, 1) := by decide +kernel
theorem dX11_news_32 : decode cX11_news 32 = .ok (.iadd, 1) := by decide +kernel
theorem dX11_news_33 : decode cX11_news 33 = .ok (.iaload, 1) := by decide +kernel
theorem dX11_news_34 : decode cX11_news 34 = .ok (.goto 15, 3) := by decide +kernel
theorem dX11_news_37 : decode cX11_news 37 = .ok (.aload_n 0, 1) := by decide +kernel
theorem dX11_news_38 : decode cX11_news 38 = .ok (.getfield 19, 3) := by decide +kernel
theorem dX11_news_41 : decode cX11_news 41 = .ok (.bipush 17, 2) := by decide +kernel
theorem dX11_news_43 : decode cX11_news 43 = .ok (.iload_n 1, 1) := by decide +kernel
theorem dX11_news_44 : decode cX11_news 44 = .ok (.iadd, 1) := by decide +kernel
theorem dX11_news_45 : decode cX11_news 45 = .ok (.iaload, 1) := by decide +kernel
theorem dX11_news_46 : decode cX11_news 46 = .ok (.invokestatic 197, 3) := by decide +kernel
theorem dX11_news_49 : decode cX11_news 49 = .ok (.ireturn, 1) := by decide +kernel
theorem dX11_wind_0 : decode cX11_wind 0 = .ok (.iload_n 1, 1) := by decide +kernel
theorem dX11_wind_1 : decode cX11_wind 1 = .ok (.iconst 0, 1) := by decide +kernel
theorem dX11_wind_2 : decode cX11_wind 2 = .ok (.bipush 99, 2) := by decide +kernel
theorem dX11_wind_4 : decode cX11_wind 4 = .ok (.invokestatic 75, 3) := by decide +kernel
theorem dX11_wind_7 : decode cX11_wind 7 = .ok (.ifCond .eq 18, 3) := by decide +kernel
theorem dX11_wind_10 : decode cX11_wind 10 = .ok (.aload_n 0, 1) := by decide +kernel
theorem dX11_wind_11 : decode cX11_wind 11 = .ok (.aload_n 0, 1) := by decide +kernel
theorem dX11_wind_12 : decode cX11_wind 12 = .ok (.getfield 19, 3) := by decide +kernel
theorem dX11_wind_15 : decode cX11_wind 15 = .ok (.iconst 0, 1) := by decide +kernel
theorem dX11_wind_16 : decode cX11_wind 16 = .ok (.iaload, 1) := by decide +kernel
theorem dX11_wind_17 : decode cX11_wind 17 = .ok (.iload_n 1, 1) := by decide +kernel
theorem dX11_wind_18 : decode cX11_wind 18 = .ok (.iadd, 1) := by decide +kernel
theorem dX11_wind_19 : decode cX11_wind 19 = .ok (.invokevirtual 181, 3) := by decide +kernel
theorem dX11_wind_22 : decode cX11_wind 22 = .ok (.goto 4, 3) := by decide +kernel
theorem dX11_wind_25 : decode cX11_wind 25 = .ok (.iconst (-1), 1) := by decide +kernel
theorem dX11_wind_26 : decode cX11_wind 26 = .ok (.ireturn, 1) := by decide +kernel
theorem dX11_remembers_0 : decode cX11_remembers 0 = .ok (.aload_n 0, 1) := by decide +kernel
theorem dX11_remembers_1 : decode cX11_remembers 1 = .ok (.getfield 148, 3) := by decide +kernel
theorem dX11_remembers_4 : decode cX11_remembers 4 = .ok (.bipush 8, 2) := by decide +kernel
theorem dX11_remembers_6 : decode cX11_remembers 6 = .ok (.if_icmp .ne 43, 3) := by decide +kernel
theorem dX11_remembers_9 : decode cX11_remembers 9 = .ok (.iconst 0, 1) := by decide +kernel
theorem dX11_remembers_10 : decode cX11_remembers 10 = .ok (.istore_n 1, 1) := by decide +kernel
theorem dX11_remembers_11 : decode cX11_remembers 11 = .ok (.iload_n 1, 1) := by decide +kernel
theorem dX11_remembers_12 : decode cX11_remembers 12 = .ok (.sipush 154, 3) := by decide +kernel
theorem dX11_remembers_15 : decode cX11_remembers 15 = .ok (.if_icmp .ge 24, 3) := by decide +kernel
theorem dX11_remembers_18 : decode cX11_remembers 18 = .ok (.aload_n 0, 1) := by decide +kernel
theorem dX11_remembers_19 : decode cX11_remembers 19 = .ok (.getfield 22, 3) := by decide +kernel
theorem dX11_remembers_22 : decode cX11_remembers 22 = .ok (.iload_n 1, 1) := by decide +kernel
theorem dX11_remembers_23 : decode cX11_remembers 23 = .ok (.aload_n 0, 1) := by decide +kernel
theorem dX11_remembers_24 : decode cX11_remembers 24 = .ok (.getfield 22, 3) := by decide +kernel
theorem dX11_remembers_27 : decode cX11_remembers 27 = .ok (.iload_n 1, 1) := by decide +kernel
theorem dX11_remembers_28 : decode cX11_remembers 28 = .ok (.bipush 22, 2) := by decide +kernel
theorem dX11_remembers_30 : decode cX11_remembers 30 = .ok (.iadd, 1) := by decide +kernel
theorem dX11_remembers_31 : decode cX11_remembers 31 = .ok (.iaload, 1) := by decide +kernel
theorem dX11_remembers_32 : decode cX11_remembers 32 = .ok (.iastore, 1) := by decide +kernel
theorem dX11_remembers_33 : decode cX11_remembers 33 = .ok (.iinc 1 1, 3) := by decide +kernel
theorem dX11_remembers_36 : decode cX11_remembers 36 = .ok (.goto (-25), 3) := by decide +kernel
theorem dX11_remembers_39 : decode cX11_remembers 39 = .ok (.aload_n 0, 1) := by decide +kernel
theorem dX11_remembers_40 : decode cX11_remembers 40 = .ok (.dup, 1) := by decide +kernel
theorem dX11_remembers_41 : decode cX11_remembers 41 = .ok (.getfield 148, 3) := by decide +kernel
theorem dX11_remembers_44 : decode cX11_remembers 44 = .ok (.iconst 1, 1) := by decide +kernel
theorem dX11_remembers_45 : decode cX11_remembers 45 = .ok (.isub, 1) := by decide +kernel
theorem dX11_remembers_46 : decode cX11_remembers 46 = .ok (.putfield 148, 3) := by decide +kernel
theorem dX11_remembers_49 : decode cX11_remembers 49 = .ok (.aload_n 0, 1) := by decide +kernel
theorem dX11_remembers_50 : decode cX11_remembers 50 = .ok (.getfield 22, 3) := by decide +kernel
theorem dX11_remembers_53 : decode cX11_remembers 53 = .ok (.bipush 22, 2) := by decide +kernel
theorem dX11_remembers_55 : decode cX11_remembers 55 = .ok (.aload_n 0, 1) := by decide +kernel
theorem dX11_remembers_56 : decode cX11_remembers 56 = .ok (.getfield 148, 3) := by decide +kernel
theorem dX11_remembers_59 : decode cX11_remembers 59 = .ok (.imul, 1) := by decide +kernel
theorem dX11_remembers_60 : decode cX11_remembers 60 = .ok (.aload_n 0, 1) := by decide +kernel
theorem dX11_remembers_61 : decode cX11_remembers 61 = .ok (.getfield 19, 3) := by decide +kernel
theorem dX11_remembers_64 : decode cX11_remembers 64 = .ok (.iconst 0, 1) := by decide +kernel
theorem dX11_remembers_65 : decode cX11_remembers 65 = .ok (.bipush 22, 2) := by decide +kernel
theorem dX11_remembers_67 : decode cX11_remembers 67 = .ok (.invokestatic 141, 3) := by decide +kernel
theorem dX11_remembers_70 : decode cX11_remembers 70 = .ok (.aload_n 0, 1) := by decide +kernel
theorem dX11_remembers_71 : decode cX11_remembers 71 = .ok (.dup, 1) := by decide +kernel
theorem dX11_remembers_72 : decode cX11_remembers 72 = .ok (.getfield 148, 3) := by decide +kernel
theorem dX11_remembers_75 : decode cX11_remembers 75 = .ok (.iconst 1, 1) := by decide +kernel
theorem dX11_remembers_76 : decode cX11_remembers 76 = .ok (.iadd, 1) := by decide +kernel
theorem dX11_remembers_77 : decode cX11_remembers 77 = .ok (.putfield 148, 3) := by decide +kernel
theorem dX11_remembers_80 : decode cX11_remembers 80 = .ok (.return_, 1) := by decide +kernel
theorem dX11_step_0 : decode cX11_step 0 = .ok (.iload_n 1, 1) := by decide +kernel
theorem dX11_step_1 : decode cX11_step 1 = .ok (.iconst 1, 1) := by decide +kernel
theorem dX11_step_2 : decode cX11_step 2 = .ok (.bipush 24, 2) := by decide +kernel
theorem dX11_step_4 : decode cX11_step 4 = .ok (.invokestatic 75, 3) := by decide +kernel
theorem dX11_step_7 : decode cX11_step 7 = .ok (.ifCond .ne 5, 3) := by decide +kernel
theorem dX11_step_10 : decode cX11_step 10 = .ok (.iconst (-1), 1) := by decide +kernel
theorem dX11_step_11 : decode cX11_step 11 = .ok (.ireturn, 1) := by decide +kernel
theorem dX11_step_12 : decode cX11_step 12 = .ok (.aload_n 0, 1) := by decide +kernel
theorem dX11_step_13 : decode cX11_step 13 = .ok (.invokevirtual 200, 3) := by decide +kernel
theorem dX11_step_16 : decode cX11_step 16 = .ok (.aload_n 0, 1) := by decide +kernel
theorem dX11_step_17 : decode cX11_step 17 = .ok (.invokevirtual 160, 3) := by decide +kernel
theorem dX11_step_20 : decode cX11_step 20 = .ok (.aload_n 0, 1) := by decide +kernel
theorem dX11_step_21 : decode cX11_step 21 = .ok (.iload_n 1, 1) := by decide +kernel
theorem dX11_step_22 : decode cX11_step 22 = .ok (.invokevirtual 203, 3) := by decide +kernel
theorem dX11_step_25 : decode cX11_step 25 = .ok (.aload_n 0, 1) := by decide +kernel
theorem dX11_step_26 : decode cX11_step 26 = .ok (.getfield 19, 3) := by decide +kernel
theorem dX11_step_29 : decode cX11_step 29 = .ok (.iconst 0, 1) := by decide +kernel
theorem dX11_step_30 : decode cX11_step 30 = .ok (.aload_n 0, 1) := by decide +kernel
theorem dX11_step_31 : decode cX11_step 31 = .ok (.getfield 49, 3) := by decide +kernel
theorem dX11_step_34 : decode cX11_step 34 = .ok (.iconst 0, 1) := by decide +kernel
theorem dX11_step_35 : decode cX11_step 35 = .ok (.bipush 22, 2) := by decide +kernel
theorem dX11_step_37 : decode cX11_step 37 = .ok (.invokestatic 141, 3) := by decide +kernel
theorem dX11_step_40 : decode cX11_step 40 = .ok (.aload_n 0, 1) := by decide +kernel
theorem dX11_step_41 : decode cX11_step 41 = .ok (.getfield 19, 3) := by decide +kernel
theorem dX11_step_44 : decode cX11_step 44 = .ok (.iconst 0, 1) := by decide +kernel
theorem dX11_step_45 : decode cX11_step 45 = .ok (.iaload, 1) := by decide +kernel
theorem dX11_step_46 : decode cX11_step 46 = .ok (.ireturn, 1) := by decide +kernel
theorem dX11_open_0 : decode cX11_open 0 = .ok (.aload_n 0, 1) := by decide +kernel
theorem dX11_open_1 : decode cX11_open 1 = .ok (.iload_n 1, 1) := by decide +kernel
theorem dX11_open_2 : decode cX11_open 2 = .ok (.invokevirtual 188, 3) := by decide +kernel
theorem dX11_open_5 : decode cX11_open 5 = .ok (.ifCond .eq 13, 3) := by decide +kernel
theorem dX11_open_8 : decode cX11_open 8 = .ok (.iload_n 2, 1) := by decide +kernel
theorem dX11_open_9 : decode cX11_open 9 = .ok (.iconst 0, 1) := by decide +kernel
theorem dX11_open_10 : decode cX11_open 10 = .ok (.bipush 6, 2) := by decide +kernel
theorem dX11_open_12 : decode cX11_open 12 = .ok (.invokestatic 75, 3) := by decide +kernel
theorem dX11_open_15 : decode cX11_open 15 = .ok (.ifCond .ne 5, 3) := by decide +kernel
theorem dX11_open_18 : decode cX11_open 18 = .ok (.iconst (-1), 1) := by decide +kernel
theorem dX11_open_19 : decode cX11_open 19 = .ok (.ireturn, 1) := by decide +kernel
theorem dX11_open_20 : decode cX11_open 20 = .ok (.aload_n 0, 1) := by decide +kernel
theorem dX11_open_21 : decode cX11_open 21 = .ok (.invokevirtual 200, 3) := by decide +kernel
theorem dX11_open_24 : decode cX11_open 24 = .ok (.aload_n 0, 1) := by decide +kernel
theorem dX11_open_25 : decode cX11_open 25 = .ok (.getfield 19, 3) := by decide +kernel
theorem dX11_open_28 : decode cX11_open 28 = .ok (.iconst 1, 1) := by decide +kernel
theorem dX11_open_29 : decode cX11_open 29 = .ok (.iload_n 1, 1) := by decide +kernel
theorem dX11_open_30 : decode cX11_open 30 = .ok (.iadd, 1) := by decide +kernel
theorem dX11_open_31 : decode cX11_open 31 = .ok (.iaload, 1) := by decide +kernel
theorem dX11_open_32 : decode cX11_open 32 = .ok (.istore_n 3, 1) := by decide +kernel
theorem dX11_open_33 : decode cX11_open 33 = .ok (.aload_n 0, 1) := by decide +kernel
theorem dX11_open_34 : decode cX11_open 34 = .ok (.getfield 19, 3) := by decide +kernel
theorem dX11_open_37 : decode cX11_open 37 = .ok (.iconst 1, 1) := by decide +kernel
theorem dX11_open_38 : decode cX11_open 38 = .ok (.iload_n 1, 1) := by decide +kernel
theorem dX11_open_39 : decode cX11_open 39 = .ok (.iadd, 1) := by decide +kernel
theorem dX11_open_40 : decode cX11_open 40 = .ok (.iload_n 2, 1) := by decide +kernel
theorem dX11_open_41 : decode cX11_open 41 = .ok (.iastore, 1) := by decide +kernel
theorem dX11_open_42 : decode cX11_open 42 = .ok (.iload_n 3, 1) := by decide +kernel
theorem dX11_open_43 : decode cX11_open 43 = .ok (.ireturn, 1) := by decide +kernel
theorem dX11_tell_0 : decode cX11_tell 0 = .ok (.aload_n 0, 1) := by decide +kernel
theorem dX11_tell_1 : decode cX11_tell 1 = .ok (.iload_n 1, 1) := by decide +kernel
theorem dX11_tell_2 : decode cX11_tell 2 = .ok (.invokevirtual 188, 3) := by decide +kernel
theorem dX11_tell_5 : decode cX11_tell 5 = .ok (.ifCond .eq 11, 3) := by decide +kernel
theorem dX11_tell_8 : decode cX11_tell 8 = .ok (.aload_n 0, 1) := by decide +kernel
theorem dX11_tell_9 : decode cX11_tell 9 = .ok (.iload_n 2, 1) := by decide +kernel
theorem dX11_tell_10 : decode cX11_tell 10 = .ok (.invokevirtual 194, 3) := by decide +kernel
theorem dX11_tell_13 : decode cX11_tell 13 = .ok (.ifCond .ne 5, 3) := by decide +kernel
theorem dX11_tell_16 : decode cX11_tell 16 = .ok (.iconst (-1), 1) := by decide +kernel
theorem dX11_tell_17 : decode cX11_tell 17 = .ok (.ireturn, 1) := by decide +kernel
theorem dX11_tell_18 : decode cX11_tell 18 = .ok (.aload_n 0, 1) := by decide +kernel
theorem dX11_tell_19 : decode cX11_tell 19 = .ok (.getfield 19, 3) := by decide +kernel
theorem dX11_tell_22 : decode cX11_tell 22 = .ok (.bipush 17, 2) := by decide +kernel
theorem dX11_tell_24 : decode cX11_tell 24 = .ok (.iload_n 2, 1) := by decide +kernel
theorem dX11_tell_25 : decode cX11_tell 25 = .ok (.iadd, 1) := by decide +kernel
theorem dX11_tell_26 : decode cX11_tell 26 = .ok (.iaload, 1) := by decide +kernel
theorem dX11_tell_27 : decode cX11_tell 27 = .ok (.iload_n 1, 1) := by decide +kernel
theorem dX11_tell_28 : decode cX11_tell 28 = .ok (.invokestatic 167, 3) := by decide +kernel
theorem dX11_tell_31 : decode cX11_tell 31 = .ok (.ifCond .eq 6, 3) := by decide +kernel
theorem dX11_tell_34 : decode cX11_tell 34 = .ok (.bipush (-2), 2) := by decide +kernel
theorem dX11_tell_36 : decode cX11_tell 36 = .ok (.ireturn, 1) := by decide +kernel
theorem dX11_tell_37 : decode cX11_tell 37 = .ok (.aload_n 0, 1) := by decide +kernel
theorem dX11_tell_38 : decode cX11_tell 38 = .ok (.invokevirtual 200, 3) := by decide +kernel
theorem dX11_tell_41 : decode cX11_tell 41 = .ok (.aload_n 0, 1) := by decide +kernel
theorem dX11_tell_42 : decode cX11_tell 42 = .ok (.getfield 19, 3) := by decide +kernel
theorem dX11_tell_45 : decode cX11_tell 45 = .ok (.bipush 17, 2) := by decide +kernel
theorem dX11_tell_47 : decode cX11_tell 47 = .ok (.iload_n 2, 1) := by decide +kernel
theorem dX11_tell_48 : decode cX11_tell 48 = .ok (.iadd, 1) := by decide +kernel
theorem dX11_tell_49 : decode cX11_tell 49 = .ok (.dup2, 1) := by decide +kernel
theorem dX11_tell_50 : decode cX11_tell 50 = .ok (.iaload, 1) := by decide +kernel
theorem dX11_tell_51 : decode cX11_tell 51 = .ok (.iconst 1, 1) := by decide +kernel
theorem dX11_tell_52 : decode cX11_tell 52 = .ok (.iload_n 1, 1) := by decide +kernel
theorem dX11_tell_53 : decode cX11_tell 53 = .ok (.ishl, 1) := by decide +kernel
theorem dX11_tell_54 : decode cX11_tell 54 = .ok (.ior, 1) := by decide +kernel
theorem dX11_tell_55 : decode cX11_tell 55 = .ok (.iastore, 1) := by decide +kernel
theorem dX11_tell_56 : decode cX11_tell 56 = .ok (.aload_n 0, 1) := by decide +kernel
theorem dX11_tell_57 : decode cX11_tell 57 = .ok (.getfield 19, 3) := by decide +kernel
theorem dX11_tell_60 : decode cX11_tell 60 = .ok (.bipush 17, 2) := by decide +kernel
theorem dX11_tell_62 : decode cX11_tell 62 = .ok (.iload_n 2, 1) := by decide +kernel
theorem dX11_tell_63 : decode cX11_tell 63 = .ok (.iadd, 1) := by decide +kernel
theorem dX11_tell_64 : decode cX11_tell 64 = .ok (.iaload, 1) := by decide +kernel
theorem dX11_tell_65 : decode cX11_tell 65 = .ok (.invokestatic 197, 3) := by decide +kernel
theorem dX11_tell_68 : decode cX11_tell 68 = .ok (.ireturn, 1) := by decide +kernel
theorem dX11_undo_0 : decode cX11_undo 0 = .ok (.aload_n 0, 1) := by decide +kernel
theorem dX11_undo_1 : decode cX11_undo 1 = .ok (.getfield 148, 3) := by decide +kernel
theorem dX11_undo_4 : decode cX11_undo 4 = .ok (.ifCond .ne 6, 3) := by decide +kernel
theorem dX11_undo_7 : decode cX11_undo 7 = .ok (.bipush (-2), 2) := by decide +kernel
theorem dX11_undo_9 : decode cX11_undo 9 = .ok (.ireturn, 1) := by decide +kernel
theorem dX11_undo_10 : decode cX11_undo 10 = .ok (.aload_n 0, 1) := by decide +kernel
theorem dX11_undo_11 : decode cX11_undo 11 = .ok (.dup, 1) := by decide +kernel
theorem dX11_undo_12 : decode cX11_undo 12 = .ok (.getfield 148, 3) := by decide +kernel
theorem dX11_undo_15 : decode cX11_undo 15 = .ok (.iconst 1, 1) := by decide +kernel
theorem dX11_undo_16 : decode cX11_undo 16 = .ok (.isub, 1) := by decide +kernel
theorem dX11_undo_17 : decode cX11_undo 17 = .ok (.putfield 148, 3) := by decide +kernel
theorem dX11_undo_20 : decode cX11_undo 20 = .ok (.aload_n 0, 1) := by decide +kernel
theorem dX11_undo_21 : decode cX11_undo 21 = .ok (.getfield 19, 3) := by decide +kernel
theorem dX11_undo_24 : decode cX11_undo 24 = .ok (.iconst 0, 1) := by decide +kernel
theorem dX11_undo_25 : decode cX11_undo 25 = .ok (.aload_n 0, 1) := by decide +kernel
theorem dX11_undo_26 : decode cX11_undo 26 = .ok (.getfield 22, 3) := by decide +kernel
theorem dX11_undo_29 : decode cX11_undo 29 = .ok (.bipush 22, 2) := by decide +kernel
theorem dX11_undo_31 : decode cX11_undo 31 = .ok (.aload_n 0, 1) := by decide +kernel
theorem dX11_undo_32 : decode cX11_undo 32 = .ok (.getfield 148, 3) := by decide +kernel
theorem dX11_undo_35 : decode cX11_undo 35 = .ok (.imul, 1) := by decide +kernel
theorem dX11_undo_36 : decode cX11_undo 36 = .ok (.bipush 22, 2) := by decide +kernel
theorem dX11_undo_38 : decode cX11_undo 38 = .ok (.invokestatic 141, 3) := by decide +kernel
theorem dX11_undo_41 : decode cX11_undo 41 = .ok (.aload_n 0, 1) := by decide +kernel
theorem dX11_undo_42 : decode cX11_undo 42 = .ok (.getfield 148, 3) := by decide +kernel
theorem dX11_undo_45 : decode cX11_undo 45 = .ok (.ireturn, 1) := by decide +kernel
theorem dX11_behind_0 : decode cX11_behind 0 = .ok (.iload_n 1, 1) := by decide +kernel
theorem dX11_behind_1 : decode cX11_behind 1 = .ok (.iconst 0, 1) := by decide +kernel
theorem dX11_behind_2 : decode cX11_behind 2 = .ok (.bipush 48, 2) := by decide +kernel
theorem dX11_behind_4 : decode cX11_behind 4 = .ok (.invokestatic 75, 3) := by decide +kernel
theorem dX11_behind_7 : decode cX11_behind 7 = .ok (.ifCond .eq 11, 3) := by decide +kernel
theorem dX11_behind_10 : decode cX11_behind 10 = .ok (.aload_n 0, 1) := by decide +kernel
theorem dX11_behind_11 : decode cX11_behind 11 = .ok (.iload_n 2, 1) := by decide +kernel
theorem dX11_behind_12 : decode cX11_behind 12 = .ok (.invokevirtual 188, 3) := by decide +kernel
theorem dX11_behind_15 : decode cX11_behind 15 = .ok (.ifCond .ne 5, 3) := by decide +kernel
theorem dX11_behind_18 : decode cX11_behind 18 = .ok (.iconst (-1), 1) := by decide +kernel
theorem dX11_behind_19 : decode cX11_behind 19 = .ok (.ireturn, 1) := by decide +kernel
theorem dX11_behind_20 : decode cX11_behind 20 = .ok (.aload_n 0, 1) := by decide +kernel
theorem dX11_behind_21 : decode cX11_behind 21 = .ok (.invokevirtual 160, 3) := by decide +kernel
theorem dX11_behind_24 : decode cX11_behind 24 = .ok (.aload_n 0, 1) := by decide +kernel
theorem dX11_behind_25 : decode cX11_behind 25 = .ok (.iload_n 1, 1) := by decide +kernel
theorem dX11_behind_26 : decode cX11_behind 26 = .ok (.invokevirtual 203, 3) := by decide +kernel
theorem dX11_behind_29 : decode cX11_behind 29 = .ok (.aload_n 0, 1) := by decide +kernel
theorem dX11_behind_30 : decode cX11_behind 30 = .ok (.iload_n 2, 1) := by decide +kernel
theorem dX11_behind_31 : decode cX11_behind 31 = .ok (.invokevirtual 191, 3) := by decide +kernel
theorem dX11_behind_34 : decode cX11_behind 34 = .ok (.ireturn, 1) := by decide +kernel
theorem dX11_knowsBehind_0 : decode cX11_knowsBehind 0 = .ok (.iconst 0, 1) := by decide +kernel
theorem dX11_knowsBehind_1 : decode cX11_knowsBehind 1 = .ok (.istore_n 3, 1) := by decide +kernel
theorem dX11_knowsBehind_2 : decode cX11_knowsBehind 2 = .ok (.iload_n 3, 1) := by decide +kernel
theorem dX11_knowsBehind_3 : decode cX11_knowsBehind 3 = .ok (.bipush 48, 2) := by decide +kernel
theorem dX11_knowsBehind_5 : decode cX11_knowsBehind 5 = .ok (.if_icmp .gt 32, 3) := by decide +kernel
theorem dX11_knowsBehind_8 : decode cX11_knowsBehind 8 = .ok (.aload_n 0, 1) := by decide +kernel
theorem dX11_knowsBehind_9 : decode cX11_knowsBehind 9 = .ok (.getfield 49, 3) := by decide +kernel
theorem dX11_knowsBehind_12 : decode cX11_knowsBehind 12 = .ok (.bipush 17, 2) := by decide +kernel
theorem dX11_knowsBehind_14 : decode cX11_knowsBehind 14 = .ok (.iload_n 2, 1) := by decide +kernel
theorem dX11_knowsBehind_15 : decode cX11_knowsBehind 15 = .ok (.iadd, 1) := by decide +kernel
theorem dX11_knowsBehind_16 : decode cX11_knowsBehind 16 = .ok (.iaload, 1) := by decide +kernel
theorem dX11_knowsBehind_17 : decode cX11_knowsBehind 17 = .ok (.iload_n 1, 1) := by decide +kernel
theorem dX11_knowsBehind_18 : decode cX11_knowsBehind 18 = .ok (.invokestatic 167, 3) := by decide +kernel
theorem dX11_knowsBehind_21 : decode cX11_knowsBehind 21 = .ok (.ifCond .eq 5, 3) := by decide +kernel
theorem dX11_knowsBehind_24 : decode cX11_knowsBehind 24 = .ok (.iload_n 3, 1) := by decide +kernel
theorem dX11_knowsBehind_25 : decode cX11_knowsBehind 25 = .ok (.ireturn, 1) := by decide +kernel
theorem dX11_knowsBehind_26 : decode cX11_knowsBehind 26 = .ok (.aload_n 0, 1) := by decide +kernel
theorem dX11_knowsBehind_27 : decode cX11_knowsBehind 27 = .ok (.iconst 1, 1) := by decide +kernel
theorem dX11_knowsBehind_28 : decode cX11_knowsBehind 28 = .ok (.invokevirtual 203, 3) := by decide +kernel
theorem dX11_knowsBehind_31 : decode cX11_knowsBehind 31 = .ok (.iinc 3 1, 3) := by decide +kernel
theorem dX11_knowsBehind_34 : decode cX11_knowsBehind 34 = .ok (.goto (-32), 3) := by decide +kernel
theorem dX11_knowsBehind_37 : decode cX11_knowsBehind 37 = .ok (.bipush (-4), 2) := by decide +kernel
theorem dX11_knowsBehind_39 : decode cX11_knowsBehind 39 = .ok (.ireturn, 1) := by decide +kernel
theorem dX11_when_0 : decode cX11_when 0 = .ok (.aload_n 0, 1) := by decide +kernel
theorem dX11_when_1 : decode cX11_when 1 = .ok (.iload_n 1, 1) := by decide +kernel
theorem dX11_when_2 : decode cX11_when 2 = .ok (.invokevirtual 188, 3) := by decide +kernel
theorem dX11_when_5 : decode cX11_when 5 = .ok (.ifCond .eq 11, 3) := by decide +kernel
theorem dX11_when_8 : decode cX11_when 8 = .ok (.aload_n 0, 1) := by decide +kernel
theorem dX11_when_9 : decode cX11_when 9 = .ok (.iload_n 2, 1) := by decide +kernel
theorem dX11_when_10 : decode cX11_when 10 = .ok (.invokevirtual 194, 3) := by decide +kernel
theorem dX11_when_13 : decode cX11_when 13 = .ok (.ifCond .ne 5, 3) := by decide +kernel
theorem dX11_when_16 : decode cX11_when 16 = .ok (.iconst (-1), 1) := by decide +kernel
theorem dX11_when_17 : decode cX11_when 17 = .ok (.ireturn, 1) := by decide +kernel
theorem dX11_when_18 : decode cX11_when 18 = .ok (.aload_n 0, 1) := by decide +kernel
theorem dX11_when_19 : decode cX11_when 19 = .ok (.iload_n 2, 1) := by decide +kernel
theorem dX11_when_20 : decode cX11_when 20 = .ok (.invokevirtual 206, 3) := by decide +kernel
theorem dX11_when_23 : decode cX11_when 23 = .ok (.aload_n 0, 1) := by decide +kernel
theorem dX11_when_24 : decode cX11_when 24 = .ok (.iload_n 1, 1) := by decide +kernel
theorem dX11_when_25 : decode cX11_when 25 = .ok (.iload_n 2, 1) := by decide +kernel
theorem dX11_when_26 : decode cX11_when 26 = .ok (.invokevirtual 209, 3) := by decide +kernel
theorem dX11_when_29 : decode cX11_when 29 = .ok (.ireturn, 1) := by decide +kernel
theorem dX11_last_0 : decode cX11_last 0 = .ok (.aload_n 0, 1) := by decide +kernel
theorem dX11_last_1 : decode cX11_last 1 = .ok (.iload_n 1, 1) := by decide +kernel
theorem dX11_last_2 : decode cX11_last 2 = .ok (.invokevirtual 194, 3) := by decide +kernel
theorem dX11_last_5 : decode cX11_last 5 = .ok (.ifCond .eq 12, 3) := by decide +kernel
theorem dX11_last_8 : decode cX11_last 8 = .ok (.iload_n 2, 1) := by decide +kernel
theorem dX11_last_9 : decode cX11_last 9 = .ok (.iconst 0, 1) := by decide +kernel
theorem dX11_last_10 : decode cX11_last 10 = .ok (.iconst 1, 1) := by decide +kernel
theorem dX11_last_11 : decode cX11_last 11 = .ok (.invokestatic 75, 3) := by decide +kernel
theorem dX11_last_14 : decode cX11_last 14 = .ok (.ifCond .ne 5, 3) := by decide +kernel
theorem dX11_last_17 : decode cX11_last 17 = .ok (.iconst (-1), 1) := by decide +kernel
theorem dX11_last_18 : decode cX11_last 18 = .ok (.ireturn, 1) := by decide +kernel
theorem dX11_last_19 : decode cX11_last 19 = .ok (.bipush (-4), 2) := by decide +kernel
theorem dX11_last_21 : decode cX11_last 21 = .ok (.istore_n 3, 1) := by decide +kernel
theorem dX11_last_22 : decode cX11_last 22 = .ok (.iconst 0, 1) := by decide +kernel
theorem dX11_last_23 : decode cX11_last 23 = .ok (.istore 4, 2) := by decide +kernel
theorem dX11_last_25 : decode cX11_last 25 = .ok (.iconst 0, 1) := by decide +kernel
theorem dX11_last_26 : decode cX11_last 26 = .ok (.istore 5, 2) := by decide +kernel
theorem dX11_last_28 : decode cX11_last 28 = .ok (.iload 5, 2) := by decide +kernel
theorem dX11_last_30 : decode cX11_last 30 = .ok (.aload_n 0, 1) := by decide +kernel
theorem dX11_last_31 : decode cX11_last 31 = .ok (.getfield 72, 3) := by decide +kernel
theorem dX11_last_34 : decode cX11_last 34 = .ok (.if_icmp .ge 68, 3) := by decide +kernel
theorem dX11_last_37 : decode cX11_last 37 = .ok (.aload_n 0, 1) := by decide +kernel
theorem dX11_last_38 : decode cX11_last 38 = .ok (.iload_n 1, 1) := by decide +kernel
theorem dX11_last_39 : decode cX11_last 39 = .ok (.invokevirtual 206, 3) := by decide +kernel
theorem dX11_last_42 : decode cX11_last 42 = .ok (.aload_n 0, 1) := by decide +kernel
theorem dX11_last_43 : decode cX11_last 43 = .ok (.iload 5, 2) := by decide +kernel
theorem dX11_last_45 : decode cX11_last 45 = .ok (.iload_n 1, 1) := by decide +kernel
theorem dX11_last_46 : decode cX11_last 46 = .ok (.invokevirtual 209, 3) := by decide +kernel
theorem dX11_last_49 : decode cX11_last 49 = .ok (.istore 6, 2) := by decide +kernel
theorem dX11_last_51 : decode cX11_last 51 = .ok (.iload 6, 2) := by decide +kernel
theorem dX11_last_53 : decode cX11_last 53 = .ok (.ifCond .le 14, 3) := by decide +kernel
theorem dX11_last_56 : decode cX11_last 56 = .ok (.iload 6, 2) := by decide +kernel
theorem dX11_last_58 : decode cX11_last 58 = .ok (.iload 4, 2) := by decide +kernel
theorem dX11_last_60 : decode cX11_last 60 = .ok (.if_icmp .lt 7, 3) := by decide +kernel
theorem dX11_last_63 : decode cX11_last 63 = .ok (.iconst 1, 1) := by decide +kernel
theorem dX11_last_64 : decode cX11_last 64 = .ok (.goto 4, 3) := by decide +kernel
theorem dX11_last_67 : decode cX11_last 67 = .ok (.iconst 0, 1) := by decide +kernel
theorem dX11_last_68 : decode cX11_last 68 = .ok (.istore 7, 2) := by decide +kernel
theorem dX11_last_70 : decode cX11_last 70 = .ok (.iload 7, 2) := by decide +kernel
theorem dX11_last_72 : decode cX11_last 72 = .ok (.ifCond .eq 8, 3) := by decide +kernel
theorem dX11_last_75 : decode cX11_last 75 = .ok (.iload 5, 2) := by decide +kernel
theorem dX11_last_77 : decode cX11_last 77 = .ok (.goto 4, 3) := by decide +kernel
theorem dX11_last_80 : decode cX11_last 80 = .ok (.iload_n 3, 1) := by decide +kernel
theorem dX11_last_81 : decode cX11_last 81 = .ok (.istore_n 3, 1) := by decide +kernel
theorem dX11_last_82 : decode cX11_last 82 = .ok (.iload 7, 2) := by decide +kernel
theorem dX11_last_84 : decode cX11_last 84 = .ok (.ifCond .eq 8, 3) := by decide +kernel
theorem dX11_last_87 : decode cX11_last 87 = .ok (.iload 6, 2) := by decide +kernel
theorem dX11_last_89 : decode cX11_last 89 = .ok (.goto 5, 3) := by decide +kernel
theorem dX11_last_92 : decode cX11_last 92 = .ok (.iload 4, 2) := by decide +kernel
theorem dX11_last_94 : decode cX11_last 94 = .ok (.istore 4, 2) := by decide +kernel
theorem dX11_last_96 : decode cX11_last 96 = .ok (.iinc 5 1, 3) := by decide +kernel
theorem dX11_last_99 : decode cX11_last 99 = .ok (.goto (-71), 3) := by decide +kernel
theorem dX11_last_102 : decode cX11_last 102 = .ok (.iload_n 2, 1) := by decide +kernel
theorem dX11_last_103 : decode cX11_last 103 = .ok (.ifCond .eq 7, 3) := by decide +kernel
theorem dX11_last_106 : decode cX11_last 106 = .ok (.iload_n 3, 1) := by decide +kernel
theorem dX11_last_107 : decode cX11_last 107 = .ok (.ifCond .ge 7, 3) := by decide +kernel
theorem dX11_last_110 : decode cX11_last 110 = .ok (.iload_n 3, 1) := by decide +kernel
theorem dX11_last_111 : decode cX11_last 111 = .ok (.goto 5, 3) := by decide +kernel
theorem dX11_last_114 : decode cX11_last 114 = .ok (.iload 4, 2) := by decide +kernel
theorem dX11_last_116 : decode cX11_last 116 = .ok (.ireturn, 1) := by decide +kernel
theorem dX11_isCutBy_0 : decode cX11_isCutBy 0 = .ok (.aload_n 0, 1) := by decide +kernel
theorem dX11_isCutBy_1 : decode cX11_isCutBy 1 = .ok (.iload_n 3, 1) := by decide +kernel
theorem dX11_isCutBy_2 : decode cX11_isCutBy 2 = .ok (.invokevirtual 206, 3) := by decide +kernel
theorem dX11_isCutBy_5 : decode cX11_isCutBy 5 = .ok (.iconst 0, 1) := by decide +kernel
theorem dX11_isCutBy_6 : decode cX11_isCutBy 6 = .ok (.istore 4, 2) := by decide +kernel
theorem dX11_isCutBy_8 : decode cX11_isCutBy 8 = .ok (.iload 4, 2) := by decide +kernel
theorem dX11_isCutBy_10 : decode cX11_isCutBy 10 = .ok (.aload_n 0, 1) := by decide +kernel
theorem dX11_isCutBy_11 : decode cX11_isCutBy 11 = .ok (.getfield 72, 3) := by decide +kernel
theorem dX11_isCutBy_14 : decode cX11_isCutBy 14 = .ok (.if_icmp .ge 40, 3) := by decide +kernel
theorem dX11_isCutBy_17 : decode cX11_isCutBy 17 = .ok (.aload_n 0, 1) := by decide +kernel
theorem dX11_isCutBy_18 : decode cX11_isCutBy 18 = .ok (.getfield 49, 3) := by decide +kernel
theorem dX11_isCutBy_21 : decode cX11_isCutBy 21 = .ok (.iconst 1, 1) := by decide +kernel
theorem dX11_isCutBy_22 : decode cX11_isCutBy 22 = .ok (.iload 4, 2) := by decide +kernel
theorem dX11_isCutBy_24 : decode cX11_isCutBy 24 = .ok (.iadd, 1) := by decide +kernel
theorem dX11_isCutBy_25 : decode cX11_isCutBy 25 = .ok (.iload_n 1, 1) := by decide +kernel
theorem dX11_isCutBy_26 : decode cX11_isCutBy 26 = .ok (.iload 4, 2) := by decide +kernel
theorem dX11_isCutBy_28 : decode cX11_isCutBy 28 = .ok (.invokestatic 167, 3) := by decide +kernel
theorem dX11_isCutBy_31 : decode cX11_isCutBy 31 = .ok (.ifCond .eq 7, 3) := by decide +kernel
theorem dX11_isCutBy_34 : decode cX11_isCutBy 34 = .ok (.iconst 0, 1) := by decide +kernel
theorem dX11_isCutBy_35 : decode cX11_isCutBy 35 = .ok (.goto 12, 3) := by decide +kernel
theorem dX11_isCutBy_38 : decode cX11_isCutBy 38 = .ok (.aload_n 0, 1) := by decide +kernel
theorem dX11_isCutBy_39 : decode cX11_isCutBy 39 = .ok (.getfield 49, 3) := by decide +kernel
theorem dX11_isCutBy_42 : decode cX11_isCutBy 42 = .ok (.iconst 1, 1) := by decide +kernel
theorem dX11_isCutBy_43 : decode cX11_isCutBy 43 = .ok (.iload 4, 2) := by decide +kernel
theorem dX11_isCutBy_45 : decode cX11_isCutBy 45 = .ok (.iadd, 1) := by decide +kernel
theorem dX11_isCutBy_46 : decode cX11_isCutBy 46 = .ok (.iaload, 1) := by decide +kernel
theorem dX11_isCutBy_47 : decode cX11_isCutBy 47 = .ok (.iastore, 1) := by decide +kernel
theorem dX11_isCutBy_48 : decode cX11_isCutBy 48 = .ok (.iinc 4 1, 3) := by decide +kernel
theorem dX11_isCutBy_51 : decode cX11_isCutBy 51 = .ok (.goto (-43), 3) := by decide +kernel
theorem dX11_isCutBy_54 : decode cX11_isCutBy 54 = .ok (.aload_n 0, 1) := by decide +kernel
theorem dX11_isCutBy_55 : decode cX11_isCutBy 55 = .ok (.iload_n 2, 1) := by decide +kernel
theorem dX11_isCutBy_56 : decode cX11_isCutBy 56 = .ok (.iload_n 3, 1) := by decide +kernel
theorem dX11_isCutBy_57 : decode cX11_isCutBy 57 = .ok (.invokevirtual 209, 3) := by decide +kernel
theorem dX11_isCutBy_60 : decode cX11_isCutBy 60 = .ok (.ifCond .ge 7, 3) := by decide +kernel
theorem dX11_isCutBy_63 : decode cX11_isCutBy 63 = .ok (.iconst 1, 1) := by decide +kernel
theorem dX11_isCutBy_64 : decode cX11_isCutBy 64 = .ok (.goto 4, 3) := by decide +kernel
theorem dX11_isCutBy_67 : decode cX11_isCutBy 67 = .ok (.iconst 0, 1) := by decide +kernel
theorem dX11_isCutBy_68 : decode cX11_isCutBy 68 = .ok (.ireturn, 1) := by decide +kernel
theorem dX11_cut_0 : decode cX11_cut 0 = .ok (.aload_n 0, 1) := by decide +kernel
theorem dX11_cut_1 : decode cX11_cut 1 = .ok (.iload_n 1, 1) := by decide +kernel
theorem dX11_cut_2 : decode cX11_cut 2 = .ok (.invokevirtual 188, 3) := by decide +kernel
theorem dX11_cut_5 : decode cX11_cut 5 = .ok (.ifCond .eq 20, 3) := by decide +kernel
theorem dX11_cut_8 : decode cX11_cut 8 = .ok (.aload_n 0, 1) := by decide +kernel
theorem dX11_cut_9 : decode cX11_cut 9 = .ok (.iload_n 2, 1) := by decide +kernel
theorem dX11_cut_10 : decode cX11_cut 10 = .ok (.invokevirtual 194, 3) := by decide +kernel
theorem dX11_cut_13 : decode cX11_cut 13 = .ok (.ifCond .eq 12, 3) := by decide +kernel
theorem dX11_cut_16 : decode cX11_cut 16 = .ok (.iload_n 3, 1) := by decide +kernel
theorem dX11_cut_17 : decode cX11_cut 17 = .ok (.iconst 0, 1) := by decide +kernel
theorem dX11_cut_18 : decode cX11_cut 18 = .ok (.iconst 1, 1) := by decide +kernel
theorem dX11_cut_19 : decode cX11_cut 19 = .ok (.invokestatic 75, 3) := by decide +kernel
theorem dX11_cut_22 : decode cX11_cut 22 = .ok (.ifCond .ne 5, 3) := by decide +kernel
theorem dX11_cut_25 : decode cX11_cut 25 = .ok (.iconst (-1), 1) := by decide +kernel
theorem dX11_cut_26 : decode cX11_cut 26 = .ok (.ireturn, 1) := by decide +kernel
theorem dX11_cut_27 : decode cX11_cut 27 = .ok (.aload_n 0, 1) := by decide +kernel
theorem dX11_cut_28 : decode cX11_cut 28 = .ok (.getfield 19, 3) := by decide +kernel
theorem dX11_cut_31 : decode cX11_cut 31 = .ok (.bipush 17, 2) := by decide +kernel
theorem dX11_cut_33 : decode cX11_cut 33 = .ok (.iload_n 2, 1) := by decide +kernel
theorem dX11_cut_34 : decode cX11_cut 34 = .ok (.iadd, 1) := by decide +kernel
theorem dX11_cut_35 : decode cX11_cut 35 = .ok (.iaload, 1) := by decide +kernel
theorem dX11_cut_36 : decode cX11_cut 36 = .ok (.iload_n 1, 1) := by decide +kernel
theorem dX11_cut_37 : decode cX11_cut 37 = .ok (.invokestatic 167, 3) := by decide +kernel
theorem dX11_cut_40 : decode cX11_cut 40 = .ok (.ifCond .eq 6, 3) := by decide +kernel
theorem dX11_cut_43 : decode cX11_cut 43 = .ok (.bipush (-4), 2) := by decide +kernel
theorem dX11_cut_45 : decode cX11_cut 45 = .ok (.ireturn, 1) := by decide +kernel
theorem dX11_cut_46 : decode cX11_cut 46 = .ok (.iconst 0, 1) := by decide +kernel
theorem dX11_cut_47 : decode cX11_cut 47 = .ok (.istore 4, 2) := by decide +kernel
theorem dX11_cut_49 : decode cX11_cut 49 = .ok (.iload 4, 2) := by decide +kernel
theorem dX11_cut_51 : decode cX11_cut 51 = .ok (.iconst 3, 1) := by decide +kernel
theorem dX11_cut_52 : decode cX11_cut 52 = .ok (.if_icmp .gt 71, 3) := by decide +kernel
theorem dX11_cut_55 : decode cX11_cut 55 = .ok (.iconst 0, 1) := by decide +kernel
theorem dX11_cut_56 : decode cX11_cut 56 = .ok (.istore 5, 2) := by decide +kernel
theorem dX11_cut_58 : decode cX11_cut 58 = .ok (.iload 5, 2) := by decide +kernel
theorem dX11_cut_60 : decode cX11_cut 60 = .ok (.iconst 1, 1) := by decide +kernel
theorem dX11_cut_61 : decode cX11_cut 61 = .ok (.aload_n 0, 1) := by decide +kernel
theorem dX11_cut_62 : decode cX11_cut 62 = .ok (.getfield 72, 3) := by decide +kernel
theorem dX11_cut_65 : decode cX11_cut 65 = .ok (.ishl, 1) := by decide +kernel
theorem dX11_cut_66 : decode cX11_cut 66 = .ok (.if_icmp .ge 51, 3) := by decide +kernel
theorem dX11_cut_69 : decode cX11_cut 69 = .ok (.iload 5, 2) := by decide +kernel
theorem dX11_cut_71 : decode cX11_cut 71 = .ok (.iload_n 1, 1) := by decide +kernel
theorem dX11_cut_72 : decode cX11_cut 72 = .ok (.invokestatic 167, 3) := by decide +kernel
theorem dX11_cut_75 : decode cX11_cut 75 = .ok (.ifCond .ne 36, 3) := by decide +kernel
theorem dX11_cut_78 : decode cX11_cut 78 = .ok (.iload 5, 2) := by decide +kernel
theorem dX11_cut_80 : decode cX11_cut 80 = .ok (.invokestatic 197, 3) := by decide +kernel
theorem dX11_cut_83 : decode cX11_cut 83 = .ok (.iload 4, 2) := by decide +kernel
theorem dX11_cut_85 : decode cX11_cut 85 = .ok (.if_icmp .ne 26, 3) := by decide +kernel
theorem dX11_cut_88 : decode cX11_cut 88 = .ok (.aload_n 0, 1) := by decide +kernel
theorem dX11_cut_89 : decode cX11_cut 89 = .ok (.iload 5, 2) := by decide +kernel
theorem dX11_cut_91 : decode cX11_cut 91 = .ok (.iload_n 1, 1) := by decide +kernel
theorem dX11_cut_92 : decode cX11_cut 92 = .ok (.iload_n 2, 1) := by decide +kernel
theorem dX11_cut_93 : decode cX11_cut 93 = .ok (.invokevirtual 212, 3) := by decide +kernel
theorem dX11_cut_96 : decode cX11_cut 96 = .ok (.ifCond .eq 15, 3) := by decide +kernel
theorem dX11_cut_99 : decode cX11_cut 99 = .ok (.iload_n 3, 1) := by decide +kernel
theorem dX11_cut_100 : decode cX11_cut 100 = .ok (.ifCond .ne 8, 3) := by decide +kernel
theorem dX11_cut_103 : decode cX11_cut 103 = .ok (.iload 4, 2) := by decide +kernel
theorem dX11_cut_105 : decode cX11_cut 105 = .ok (.goto 5, 3) := by decide +kernel
theorem dX11_cut_108 : decode cX11_cut 108 = .ok (.iload 5, 2) := by decide +kernel
theorem dX11_cut_110 : decode cX11_cut 110 = .ok (.ireturn, 1) := by decide +kernel
theorem dX11_cut_111 : decode cX11_cut 111 = .ok (.iinc 5 1, 3) := by decide +kernel
theorem dX11_cut_114 : decode cX11_cut 114 = .ok (.goto (-56), 3) := by decide +kernel
theorem dX11_cut_117 : decode cX11_cut 117 = .ok (.iinc 4 1, 3) := by decide +kernel
theorem dX11_cut_120 : decode cX11_cut 120 = .ok (.goto (-71), 3) := by decide +kernel
theorem dX11_cut_123 : decode cX11_cut 123 = .ok (.bipush (-4), 2) := by decide +kernel
theorem dX11_cut_125 : decode cX11_cut 125 = .ok (.ireturn, 1) := by decide +kernel
theorem dX11_isSoBy_0 : decode cX11_isSoBy 0 = .ok (.aload_n 0, 1) := by decide +kernel
theorem dX11_isSoBy_1 : decode cX11_isSoBy 1 = .ok (.iload_n 1, 1) := by decide +kernel
theorem dX11_isSoBy_2 : decode cX11_isSoBy 2 = .ok (.invokevirtual 206, 3) := by decide +kernel
theorem dX11_isSoBy_5 : decode cX11_isSoBy 5 = .ok (.aload_n 0, 1) := by decide +kernel
theorem dX11_isSoBy_6 : decode cX11_isSoBy 6 = .ok (.getfield 215, 3) := by decide +kernel
theorem dX11_isSoBy_9 : decode cX11_isSoBy 9 = .ok (.ifCond .lt 24, 3) := by decide +kernel
theorem dX11_isSoBy_12 : decode cX11_isSoBy 12 = .ok (.aload_n 0, 1) := by decide +kernel
theorem dX11_isSoBy_13 : decode cX11_isSoBy 13 = .ok (.getfield 49, 3) := by decide +kernel
theorem dX11_isSoBy_16 : decode cX11_isSoBy 16 = .ok (.iconst 1, 1) := by decide +kernel
theorem dX11_isSoBy_17 : decode cX11_isSoBy 17 = .ok (.aload_n 0, 1) := by decide +kernel
theorem dX11_isSoBy_18 : decode cX11_isSoBy 18 = .ok (.getfield 215, 3) := by decide +kernel
theorem dX11_isSoBy_21 : decode cX11_isSoBy 21 = .ok (.bipush 10, 2) := by decide +kernel
theorem dX11_isSoBy_23 : decode cX11_isSoBy 23 = .ok (.idiv, 1) := by decide +kernel
theorem dX11_isSoBy_24 : decode cX11_isSoBy 24 = .ok (.iadd, 1) := by decide +kernel
theorem dX11_isSoBy_25 : decode cX11_isSoBy 25 = .ok (.aload_n 0, 1) := by decide +kernel
theorem dX11_isSoBy_26 : decode cX11_isSoBy 26 = .ok (.getfield 215, 3) := by decide +kernel
theorem dX11_isSoBy_29 : decode cX11_isSoBy 29 = .ok (.bipush 10, 2) := by decide +kernel
theorem dX11_isSoBy_31 : decode cX11_isSoBy 31 = .ok (.irem, 1) := by decide +kernel
theorem dX11_isSoBy_32 : decode cX11_isSoBy 32 = .ok (.iastore, 1) := by decide +kernel
theorem dX11_isSoBy_33 : decode cX11_isSoBy 33 = .ok (.aload_n 0, 1) := by decide +kernel
theorem dX11_isSoBy_34 : decode cX11_isSoBy 34 = .ok (.getfield 218, 3) := by decide +kernel
theorem dX11_isSoBy_37 : decode cX11_isSoBy 37 = .ok (.ifCond .lt 24, 3) := by decide +kernel
theorem dX11_isSoBy_40 : decode cX11_isSoBy 40 = .ok (.aload_n 0, 1) := by decide +kernel
theorem dX11_isSoBy_41 : decode cX11_isSoBy 41 = .ok (.getfield 49, 3) := by decide +kernel
theorem dX11_isSoBy_44 : decode cX11_isSoBy 44 = .ok (.iconst 1, 1) := by decide +kernel
theorem dX11_isSoBy_45 : decode cX11_isSoBy 45 = .ok (.aload_n 0, 1) := by decide +kernel
theorem dX11_isSoBy_46 : decode cX11_isSoBy 46 = .ok (.getfield 218, 3) := by decide +kernel
theorem dX11_isSoBy_49 : decode cX11_isSoBy 49 = .ok (.bipush 10, 2) := by decide +kernel
theorem dX11_isSoBy_51 : decode cX11_isSoBy 51 = .ok (.idiv, 1) := by decide +kernel
theorem dX11_isSoBy_52 : decode cX11_isSoBy 52 = .ok (.iadd, 1) := by decide +kernel
theorem dX11_isSoBy_53 : decode cX11_isSoBy 53 = .ok (.aload_n 0, 1) := by decide +kernel
theorem dX11_isSoBy_54 : decode cX11_isSoBy 54 = .ok (.getfield 218, 3) := by decide +kernel
theorem dX11_isSoBy_57 : decode cX11_isSoBy 57 = .ok (.bipush 10, 2) := by decide +kernel
theorem dX11_isSoBy_59 : decode cX11_isSoBy 59 = .ok (.irem, 1) := by decide +kernel
theorem dX11_isSoBy_60 : decode cX11_isSoBy 60 = .ok (.iastore, 1) := by decide +kernel
theorem dX11_isSoBy_61 : decode cX11_isSoBy 61 = .ok (.aload_n 0, 1) := by decide +kernel
theorem dX11_isSoBy_62 : decode cX11_isSoBy 62 = .ok (.iload_n 2, 1) := by decide +kernel
theorem dX11_isSoBy_63 : decode cX11_isSoBy 63 = .ok (.invokevirtual 203, 3) := by decide +kernel
theorem dX11_isSoBy_66 : decode cX11_isSoBy 66 = .ok (.aload_n 0, 1) := by decide +kernel
theorem dX11_isSoBy_67 : decode cX11_isSoBy 67 = .ok (.getfield 49, 3) := by decide +kernel
theorem dX11_isSoBy_70 : decode cX11_isSoBy 70 = .ok (.bipush 17, 2) := by decide +kernel
theorem dX11_isSoBy_72 : decode cX11_isSoBy 72 = .ok (.iload_n 1, 1) := by decide +kernel
theorem dX11_isSoBy_73 : decode cX11_isSoBy 73 = .ok (.iadd, 1) := by decide +kernel
theorem dX11_isSoBy_74 : decode cX11_isSoBy 74 = .ok (.iaload, 1) := by decide +kernel
theorem dX11_isSoBy_75 : decode cX11_isSoBy 75 = .ok (.iload_n 3, 1) := by decide +kernel
theorem dX11_isSoBy_76 : decode cX11_isSoBy 76 = .ok (.iand, 1) := by decide +kernel
theorem dX11_isSoBy_77 : decode cX11_isSoBy 77 = .ok (.iload_n 3, 1) := by decide +kernel
theorem dX11_isSoBy_78 : decode cX11_isSoBy 78 = .ok (.if_icmp .ne 22, 3) := by decide +kernel
theorem dX11_isSoBy_81 : decode cX11_isSoBy 81 = .ok (.aload_n 0, 1) := by decide +kernel
theorem dX11_isSoBy_82 : decode cX11_isSoBy 82 = .ok (.getfield 49, 3) := by decide +kernel
theorem dX11_isSoBy_85 : decode cX11_isSoBy 85 = .ok (.bipush 17, 2) := by decide +kernel
theorem dX11_isSoBy_87 : decode cX11_isSoBy 87 = .ok (.iload_n 1, 1) := by decide +kernel
theorem dX11_isSoBy_88 : decode cX11_isSoBy 88 = .ok (.iadd, 1) := by decide +kernel
theorem dX11_isSoBy_89 : decode cX11_isSoBy 89 = .ok (.iaload, 1) := by decide +kernel
theorem dX11_isSoBy_90 : decode cX11_isSoBy 90 = .ok (.iload 4, 2) := by decide +kernel
theorem dX11_isSoBy_92 : decode cX11_isSoBy 92 = .ok (.iand, 1) := by decide +kernel
theorem dX11_isSoBy_93 : decode cX11_isSoBy 93 = .ok (.ifCond .ne 7, 3) := by decide +kernel
theorem dX11_isSoBy_96 : decode cX11_isSoBy 96 = .ok (.iconst 1, 1) := by decide +kernel
theorem dX11_isSoBy_97 : decode cX11_isSoBy 97 = .ok (.goto 4, 3) := by decide +kernel
theorem dX11_isSoBy_100 : decode cX11_isSoBy 100 = .ok (.iconst 0, 1) := by decide +kernel
theorem dX11_isSoBy_101 : decode cX11_isSoBy 101 = .ok (.ireturn, 1) := by decide +kernel
theorem dX11_findWay_0 : decode cX11_findWay 0 = .ok (.iload_n 1, 1) := by decide +kernel
theorem dX11_findWay_1 : decode cX11_findWay 1 = .ok (.ifCond .ne 7, 3) := by decide +kernel
theorem dX11_findWay_4 : decode cX11_findWay 4 = .ok (.iconst 1, 1) := by decide +kernel
theorem dX11_findWay_5 : decode cX11_findWay 5 = .ok (.goto 10, 3) := by decide +kernel
theorem dX11_findWay_8 : decode cX11_findWay 8 = .ok (.bipush 10, 2) := by decide +kernel
theorem dX11_findWay_10 : decode cX11_findWay 10 = .ok (.aload_n 0, 1) := by decide +kernel
theorem dX11_findWay_11 : decode cX11_findWay 11 = .ok (.getfield 72, 3) := by decide +kernel
theorem dX11_findWay_14 : decode cX11_findWay 14 = .ok (.imul, 1) := by decide +kernel
theorem dX11_findWay_15 : decode cX11_findWay 15 = .ok (.istore 6, 2) := by decide +kernel
theorem dX11_findWay_17 : decode cX11_findWay 17 = .ok (.iconst 0, 1) := by decide +kernel
theorem dX11_findWay_18 : decode cX11_findWay 18 = .ok (.istore 7, 2) := by decide +kernel
theorem dX11_findWay_20 : decode cX11_findWay 20 = .ok (.iload 7, 2) := by decide +kernel
theorem dX11_findWay_22 : decode cX11_findWay 22 = .ok (.iload 6, 2) := by decide +kernel
theorem dX11_findWay_24 : decode cX11_findWay 24 = .ok (.if_icmp .ge 133, 3) := by decide +kernel
theorem dX11_findWay_27 : decode cX11_findWay 27 = .ok (.iload_n 1, 1) := by decide +kernel
theorem dX11_findWay_28 : decode cX11_findWay 28 = .ok (.ifCond .eq 13, 3) := by decide +kernel
theorem dX11_findWay_31 : decode cX11_findWay 31 = .ok (.iload 7, 2) := by decide +kernel
theorem dX11_findWay_33 : decode cX11_findWay 33 = .ok (.bipush 10, 2) := by decide +kernel
theorem dX11_findWay_35 : decode cX11_findWay 35 = .ok (.irem, 1) := by decide +kernel
theorem dX11_findWay_36 : decode cX11_findWay 36 = .ok (.bipush 6, 2) := by decide +kernel
theorem dX11_findWay_38 : decode cX11_findWay 38 = .ok (.if_icmp .gt 113, 3) := by decide +kernel
theorem dX11_findWay_41 : decode cX11_findWay 41 = .ok (.aload_n 0, 1) := by decide +kernel
theorem dX11_findWay_42 : decode cX11_findWay 42 = .ok (.iload_n 1, 1) := by decide +kernel
theorem dX11_findWay_43 : decode cX11_findWay 43 = .ok (.ifCond .ne 7, 3) := by decide +kernel
theorem dX11_findWay_46 : decode cX11_findWay 46 = .ok (.iconst (-1), 1) := by decide +kernel
theorem dX11_findWay_47 : decode cX11_findWay 47 = .ok (.goto 5, 3) := by decide +kernel
theorem dX11_findWay_50 : decode cX11_findWay 50 = .ok (.iload 7, 2) := by decide +kernel
theorem dX11_findWay_52 : decode cX11_findWay 52 = .ok (.putfield 215, 3) := by decide +kernel
theorem dX11_findWay_55 : decode cX11_findWay 55 = .ok (.iload_n 1, 1) := by decide +kernel
theorem dX11_findWay_56 : decode cX11_findWay 56 = .ok (.iconst 2, 1) := by decide +kernel
theorem dX11_findWay_57 : decode cX11_findWay 57 = .ok (.if_icmp .ne 16, 3) := by decide +kernel
theorem dX11_findWay_60 : decode cX11_findWay 60 = .ok (.bipush 10, 2) := by decide +kernel
theorem dX11_findWay_62 : decode cX11_findWay 62 = .ok (.iload 7, 2) := by decide +kernel
theorem dX11_findWay_64 : decode cX11_findWay 64 = .ok (.bipush 10, 2) := by decide +kernel
theorem dX11_findWay_66 : decode cX11_findWay 66 = .ok (.idiv, 1) := by decide +kernel
theorem dX11_findWay_67 : decode cX11_findWay 67 = .ok (.iconst 1, 1) := by decide +kernel
theorem dX11_findWay_68 : decode cX11_findWay 68 = .ok (.iadd, 1) := by decide +kernel
theorem dX11_findWay_69 : decode cX11_findWay 69 = .ok (.imul, 1) := by decide +kernel
theorem dX11_findWay_70 : decode cX11_findWay 70 = .ok (.goto 12, 3) := by decide +kernel
theorem dX11_findWay_73 : decode cX11_findWay 73 = .ok (.bipush 10, 2) := by decide +kernel
theorem dX11_findWay_75 : decode cX11_findWay 75 = .ok (.aload_n 0, 1) := by decide +kernel
theorem dX11_findWay_76 : decode cX11_findWay 76 = .ok (.getfield 72, 3) := by decide +kernel
theorem dX11_findWay_79 : decode cX11_findWay 79 = .ok (.imul, 1) := by decide +kernel
theorem dX11_findWay_80 : decode cX11_findWay 80 = .ok (.iconst 1, 1) := by decide +kernel
theorem dX11_findWay_81 : decode cX11_findWay 81 = .ok (.isub, 1) := by decide +kernel
theorem dX11_findWay_82 : decode cX11_findWay 82 = .ok (.istore 8, 2) := by decide +kernel
theorem dX11_findWay_84 : decode cX11_findWay 84 = .ok (.iload 8, 2) := by decide +kernel
theorem dX11_findWay_86 : decode cX11_findWay 86 = .ok (.istore 9, 2) := by decide +kernel
theorem dX11_findWay_88 : decode cX11_findWay 88 = .ok (.iload 9, 2) := by decide +kernel
theorem dX11_findWay_90 : decode cX11_findWay 90 = .ok (.bipush 10, 2) := by decide +kernel
theorem dX11_findWay_92 : decode cX11_findWay 92 = .ok (.aload_n 0, 1) := by decide +kernel
theorem dX11_findWay_93 : decode cX11_findWay 93 = .ok (.getfield 72, 3) := by decide +kernel
theorem dX11_findWay_96 : decode cX11_findWay 96 = .ok (.imul, 1) := by decide +kernel
theorem dX11_findWay_97 : decode cX11_findWay 97 = .ok (.if_icmp .ge 54, 3) := by decide +kernel
theorem dX11_findWay_100 : decode cX11_findWay 100 = .ok (.iload_n 1, 1) := by decide +kernel
theorem dX11_findWay_101 : decode cX11_findWay 101 = .ok (.iconst 2, 1) := by decide +kernel
theorem dX11_findWay_102 : decode cX11_findWay 102 = .ok (.if_icmp .lt 13, 3) := by decide +kernel
theorem dX11_findWay_105 : decode cX11_findWay 105 = .ok (.iload 9, 2) := by decide +kernel
theorem dX11_findWay_107 : decode cX11_findWay 107 = .ok (.bipush 10, 2) := by decide +kernel
theorem dX11_findWay_109 : decode cX11_findWay 109 = .ok (.irem, 1) := by decide +kernel
theorem dX11_findWay_110 : decode cX11_findWay 110 = .ok (.bipush 6, 2) := by decide +kernel
theorem dX11_findWay_112 : decode cX11_findWay 112 = .ok (.if_icmp .gt 33, 3) := by decide +kernel
theorem dX11_findWay_115 : decode cX11_findWay 115 = .ok (.aload_n 0, 1) := by decide +kernel
theorem dX11_findWay_116 : decode cX11_findWay 116 = .ok (.iload_n 1, 1) := by decide +kernel
theorem dX11_findWay_117 : decode cX11_findWay 117 = .ok (.iconst 2, 1) := by decide +kernel
theorem dX11_findWay_118 : decode cX11_findWay 118 = .ok (.if_icmp .ge 7, 3) := by decide +kernel
theorem dX11_findWay_121 : decode cX11_findWay 121 = .ok (.iconst (-1), 1) := by decide +kernel
theorem dX11_findWay_122 : decode cX11_findWay 122 = .ok (.goto 5, 3) := by decide +kernel
theorem dX11_findWay_125 : decode cX11_findWay 125 = .ok (.iload 9, 2) := by decide +kernel
theorem dX11_findWay_127 : decode cX11_findWay 127 = .ok (.putfield 218, 3) := by decide +kernel
theorem dX11_findWay_130 : decode cX11_findWay 130 = .ok (.aload_n 0, 1) := by decide +kernel
theorem dX11_findWay_131 : decode cX11_findWay 131 = .ok (.iload_n 2, 1) := by decide +kernel
theorem dX11_findWay_132 : decode cX11_findWay 132 = .ok (.iload_n 3, 1) := by decide +kernel
theorem dX11_findWay_133 : decode cX11_findWay 133 = .ok (.iload 4, 2) := by decide +kernel
theorem dX11_findWay_135 : decode cX11_findWay 135 = .ok (.iload 5, 2) := by decide +kernel
theorem dX11_findWay_137 : decode cX11_findWay 137 = .ok (.invokevirtual 221, 3) := by decide +kernel
theorem dX11_findWay_140 : decode cX11_findWay 140 = .ok (.ifCond .eq 5, 3) := by decide +kernel
theorem dX11_findWay_143 : decode cX11_findWay 143 = .ok (.iconst 1, 1) := by decide +kernel
theorem dX11_findWay_144 : decode cX11_findWay 144 = .ok (.ireturn, 1) := by decide +kernel
theorem dX11_findWay_145 : decode cX11_findWay 145 = .ok (.iinc 9 1, 3) := by decide +kernel
theorem dX11_findWay_148 : decode cX11_findWay 148 = .ok (.goto (-60), 3) := by decide +kernel
theorem dX11_findWay_151 : decode cX11_findWay 151 = .ok (.iinc 7 1, 3) := by decide +kernel
theorem dX11_findWay_154 : decode cX11_findWay 154 = .ok (.goto (-134), 3) := by decide +kernel
theorem dX11_findWay_157 : decode cX11_findWay 157 = .ok (.iconst 0, 1) := by decide +kernel
theorem dX11_findWay_158 : decode cX11_findWay 158 = .ok (.ireturn, 1) := by decide +kernel
theorem dX11_openings_0 : decode cX11_openings 0 = .ok (.iconst 1, 1) := by decide +kernel
theorem dX11_openings_1 : decode cX11_openings 1 = .ok (.aload_n 0, 1) := by decide +kernel
theorem dX11_openings_2 : decode cX11_openings 2 = .ok (.getfield 72, 3) := by decide +kernel
theorem dX11_openings_5 : decode cX11_openings 5 = .ok (.ishl, 1) := by decide +kernel
theorem dX11_openings_6 : decode cX11_openings 6 = .ok (.iconst 1, 1) := by decide +kernel
theorem dX11_openings_7 : decode cX11_openings 7 = .ok (.isub, 1) := by decide +kernel
theorem dX11_openings_8 : decode cX11_openings 8 = .ok (.istore 6, 2) := by decide +kernel
theorem dX11_openings_10 : decode cX11_openings 10 = .ok (.aload_n 0, 1) := by decide +kernel
theorem dX11_openings_11 : decode cX11_openings 11 = .ok (.iload_n 1, 1) := by decide +kernel
theorem dX11_openings_12 : decode cX11_openings 12 = .ok (.invokevirtual 194, 3) := by decide +kernel
theorem dX11_openings_15 : decode cX11_openings 15 = .ok (.ifCond .eq 51, 3) := by decide +kernel
theorem dX11_openings_18 : decode cX11_openings 18 = .ok (.iload_n 2, 1) := by decide +kernel
theorem dX11_openings_19 : decode cX11_openings 19 = .ok (.iconst 1, 1) := by decide +kernel
theorem dX11_openings_20 : decode cX11_openings 20 = .ok (.bipush 12, 2) := by decide +kernel
theorem dX11_openings_22 : decode cX11_openings 22 = .ok (.invokestatic 75, 3) := by decide +kernel
theorem dX11_openings_25 : decode cX11_openings 25 = .ok (.ifCond .eq 41, 3) := by decide +kernel
theorem dX11_openings_28 : decode cX11_openings 28 = .ok (.iload_n 3, 1) := by decide +kernel
theorem dX11_openings_29 : decode cX11_openings 29 = .ok (.iconst 0, 1) := by decide +kernel
theorem dX11_openings_30 : decode cX11_openings 30 = .ok (.iload 6, 2) := by decide +kernel
theorem dX11_openings_32 : decode cX11_openings 32 = .ok (.invokestatic 75, 3) := by decide +kernel
theorem dX11_openings_35 : decode cX11_openings 35 = .ok (.ifCond .eq 31, 3) := by decide +kernel
theorem dX11_openings_38 : decode cX11_openings 38 = .ok (.iload 4, 2) := by decide +kernel
theorem dX11_openings_40 : decode cX11_openings 40 = .ok (.iconst 0, 1) := by decide +kernel
theorem dX11_openings_41 : decode cX11_openings 41 = .ok (.iload 6, 2) := by decide +kernel
theorem dX11_openings_43 : decode cX11_openings 43 = .ok (.invokestatic 75, 3) := by decide +kernel
theorem dX11_openings_46 : decode cX11_openings 46 = .ok (.ifCond .eq 20, 3) := by decide +kernel
theorem dX11_openings_49 : decode cX11_openings 49 = .ok (.iload_n 3, 1) := by decide +kernel
theorem dX11_openings_50 : decode cX11_openings 50 = .ok (.iload 4, 2) := by decide +kernel
theorem dX11_openings_52 : decode cX11_openings 52 = .ok (.iand, 1) := by decide +kernel
theorem dX11_openings_53 : decode cX11_openings 53 = .ok (.ifCond .ne 13, 3) := by decide +kernel
theorem dX11_openings_56 : decode cX11_openings 56 = .ok (.iload 5, 2) := by decide +kernel
theorem dX11_openings_58 : decode cX11_openings 58 = .ok (.iconst 0, 1) := by decide +kernel
theorem dX11_openings_59 : decode cX11_openings 59 = .ok (.iconst 2, 1) := by decide +kernel
theorem dX11_openings_60 : decode cX11_openings 60 = .ok (.invokestatic 75, 3) := by decide +kernel
theorem dX11_openings_63 : decode cX11_openings 63 = .ok (.ifCond .ne 5, 3) := by decide +kernel
theorem dX11_openings_66 : decode cX11_openings 66 = .ok (.iconst (-1), 1) := by decide +kernel
theorem dX11_openings_67 : decode cX11_openings 67 = .ok (.ireturn, 1) := by decide +kernel
theorem dX11_openings_68 : decode cX11_openings 68 = .ok (.iconst 0, 1) := by decide +kernel
theorem dX11_openings_69 : decode cX11_openings 69 = .ok (.istore 7, 2) := by decide +kernel
theorem dX11_openings_71 : decode cX11_openings 71 = .ok (.iload 7, 2) := by decide +kernel
theorem dX11_openings_73 : decode cX11_openings 73 = .ok (.iconst 2, 1) := by decide +kernel
theorem dX11_openings_74 : decode cX11_openings 74 = .ok (.if_icmp .gt 63, 3) := by decide +kernel
theorem dX11_openings_77 : decode cX11_openings 77 = .ok (.aload_n 0, 1) := by decide +kernel
theorem dX11_openings_78 : decode cX11_openings 78 = .ok (.iload 7, 2) := by decide +kernel
theorem dX11_openings_80 : decode cX11_openings 80 = .ok (.iload_n 1, 1) := by decide +kernel
theorem dX11_openings_81 : decode cX11_openings 81 = .ok (.iload_n 2, 1) := by decide +kernel
theorem dX11_openings_82 : decode cX11_openings 82 = .ok (.iload_n 3, 1) := by decide +kernel
theorem dX11_openings_83 : decode cX11_openings 83 = .ok (.iload 4, 2) := by decide +kernel
theorem dX11_openings_85 : decode cX11_openings 85 = .ok (.invokevirtual 225, 3) := by decide +kernel
theorem dX11_openings_88 : decode cX11_openings 88 = .ok (.ifCond .eq 43, 3) := by decide +kernel
theorem dX11_openings_91 : decode cX11_openings 91 = .ok (.iload 5, 2) := by decide +kernel
theorem dX11_openings_93 : decode cX11_openings 93 = .ok (.ifCond .ne 8, 3) := by decide +kernel
theorem dX11_openings_96 : decode cX11_openings 96 = .ok (.iload 7, 2) := by decide +kernel
theorem dX11_openings_98 : decode cX11_openings 98 = .ok (.goto 32, 3) := by decide +kernel
theorem dX11_openings_101 : decode cX11_openings 101 = .ok (.iload 5, 2) := by decide +kernel
theorem dX11_openings_103 : decode cX11_openings 103 = .ok (.iload 7, 2) := by decide +kernel
theorem dX11_openings_105 : decode cX11_openings 105 = .ok (.if_icmp .le 8, 3) := by decide +kernel
theorem dX11_openings_108 : decode cX11_openings 108 = .ok (.bipush (-4), 2) := by decide +kernel
theorem dX11_openings_110 : decode cX11_openings 110 = .ok (.goto 20, 3) := by decide +kernel
theorem dX11_openings_113 : decode cX11_openings 113 = .ok (.iload 5, 2) := by decide +kernel
theorem dX11_openings_115 : decode cX11_openings 115 = .ok (.iconst 1, 1) := by decide +kernel
theorem dX11_openings_116 : decode cX11_openings 116 = .ok (.if_icmp .ne 10, 3) := by decide +kernel
theorem dX11_openings_119 : decode cX11_openings 119 = .ok (.aload_n 0, 1) := by decide +kernel
theorem dX11_openings_120 : decode cX11_openings 120 = .ok (.getfield 215, 3) := by decide +kernel
theorem dX11_openings_123 : decode cX11_openings 123 = .ok (.goto 7, 3) := by decide +kernel
theorem dX11_openings_126 : decode cX11_openings 126 = .ok (.aload_n 0, 1) := by decide +kernel
theorem dX11_openings_127 : decode cX11_openings 127 = .ok (.getfield 218, 3) := by decide +kernel
theorem dX11_openings_130 : decode cX11_openings 130 = .ok (.ireturn, 1) := by decide +kernel
theorem dX11_openings_131 : decode cX11_openings 131 = .ok (.iinc 7 1, 3) := by decide +kernel
theorem dX11_openings_134 : decode cX11_openings 134 = .ok (.goto (-63), 3) := by decide +kernel
theorem dX11_openings_137 : decode cX11_openings 137 = .ok (.bipush (-4), 2) := by decide +kernel
theorem dX11_openings_139 : decode cX11_openings 139 = .ok (.ireturn, 1) := by decide +kernel
theorem dX11_heavy_0 : decode cX11_heavy 0 = .ok (.iconst 0, 1) := by decide +kernel
theorem dX11_heavy_1 : decode cX11_heavy 1 = .ok (.istore_n 2, 1) := by decide +kernel
theorem dX11_heavy_2 : decode cX11_heavy 2 = .ok (.iconst 0, 1) := by decide +kernel
theorem dX11_heavy_3 : decode cX11_heavy 3 = .ok (.istore_n 3, 1) := by decide +kernel
theorem dX11_heavy_4 : decode cX11_heavy 4 = .ok (.iload_n 3, 1) := by decide +kernel
theorem dX11_heavy_5 : decode cX11_heavy 5 = .ok (.aload_n 0, 1) := by decide +kernel
theorem dX11_heavy_6 : decode cX11_heavy 6 = .ok (.getfield 79, 3) := by decide +kernel
theorem dX11_heavy_9 : decode cX11_heavy 9 = .ok (.if_icmp .ge 34, 3) := by decide +kernel
theorem dX11_heavy_12 : decode cX11_heavy 12 = .ok (.iload_n 2, 1) := by decide +kernel
theorem dX11_heavy_13 : decode cX11_heavy 13 = .ok (.iload_n 1, 1) := by decide +kernel
theorem dX11_heavy_14 : decode cX11_heavy 14 = .ok (.iload_n 3, 1) := by decide +kernel
theorem dX11_heavy_15 : decode cX11_heavy 15 = .ok (.invokestatic 167, 3) := by decide +kernel
theorem dX11_heavy_18 : decode cX11_heavy 18 = .ok (.ifCond .eq 16, 3) := by decide +kernel
theorem dX11_heavy_21 : decode cX11_heavy 21 = .ok (.aload_n 0, 1) := by decide +kernel
theorem dX11_heavy_22 : decode cX11_heavy 22 = .ok (.getfield 13, 3) := by decide +kernel
theorem dX11_heavy_25 : decode cX11_heavy 25 = .ok (.iconst 3, 1) := by decide +kernel
theorem dX11_heavy_26 : decode cX11_heavy 26 = .ok (.iload_n 3, 1) := by decide +kernel
theorem dX11_heavy_27 : decode cX11_heavy 27 = .ok (.imul, 1) := by decide +kernel
theorem dX11_heavy_28 : decode cX11_heavy 28 = .ok (.iconst 1, 1) := by decide +kernel
theorem dX11_heavy_29 : decode cX11_heavy 29 = .ok (.iadd, 1) := by decide +kernel
theorem dX11_heavy_30 : decode cX11_heavy 30 = .ok (.iaload, 1) := by decide +kernel
theorem dX11_heavy_31 : decode cX11_heavy 31 = .ok (.goto 4, 3) := by decide +kernel
theorem dX11_heavy_34 : decode cX11_heavy 34 = .ok (.iconst 0, 1) := by decide +kernel
theorem dX11_heavy_35 : decode cX11_heavy 35 = .ok (.iadd, 1) := by decide +kernel
theorem dX11_heavy_36 : decode cX11_heavy 36 = .ok (.istore_n 2, 1) := by decide +kernel
theorem dX11_heavy_37 : decode cX11_heavy 37 = .ok (.iinc 3 1, 3) := by decide +kernel
theorem dX11_heavy_40 : decode cX11_heavy 40 = .ok (.goto (-36), 3) := by decide +kernel
theorem dX11_heavy_43 : decode cX11_heavy 43 = .ok (.iload_n 2, 1) := by decide +kernel
theorem dX11_heavy_44 : decode cX11_heavy 44 = .ok (.ireturn, 1) := by decide +kernel
theorem dX11_bears_0 : decode cX11_bears 0 = .ok (.aload_n 0, 1) := by decide +kernel
theorem dX11_bears_1 : decode cX11_bears 1 = .ok (.iload_n 1, 1) := by decide +kernel
theorem dX11_bears_2 : decode cX11_bears 2 = .ok (.invokevirtual 188, 3) := by decide +kernel
theorem dX11_bears_5 : decode cX11_bears 5 = .ok (.ifCond .eq 13, 3) := by decide +kernel
theorem dX11_bears_8 : decode cX11_bears 8 = .ok (.iload_n 2, 1) := by decide +kernel
theorem dX11_bears_9 : decode cX11_bears 9 = .ok (.iconst 0, 1) := by decide +kernel
theorem dX11_bears_10 : decode cX11_bears 10 = .ok (.bipush 20, 2) := by decide +kernel
theorem dX11_bears_12 : decode cX11_bears 12 = .ok (.invokestatic 75, 3) := by decide +kernel
theorem dX11_bears_15 : decode cX11_bears 15 = .ok (.ifCond .ne 5, 3) := by decide +kernel
theorem dX11_bears_18 : decode cX11_bears 18 = .ok (.iconst (-1), 1) := by decide +kernel
theorem dX11_bears_19 : decode cX11_bears 19 = .ok (.ireturn, 1) := by decide +kernel
theorem dX11_bears_20 : decode cX11_bears 20 = .ok (.bipush 6, 2) := by decide +kernel
theorem dX11_bears_22 : decode cX11_bears 22 = .ok (.istore_n 3, 1) := by decide +kernel
theorem dX11_bears_23 : decode cX11_bears 23 = .ok (.iload_n 3, 1) := by decide +kernel
theorem dX11_bears_24 : decode cX11_bears 24 = .ok (.ifCond .lt 43, 3) := by decide +kernel
theorem dX11_bears_27 : decode cX11_bears 27 = .ok (.aload_n 0, 1) := by decide +kernel
theorem dX11_bears_28 : decode cX11_bears 28 = .ok (.invokevirtual 160, 3) := by decide +kernel
theorem dX11_bears_31 : decode cX11_bears 31 = .ok (.aload_n 0, 1) := by decide +kernel
theorem dX11_bears_32 : decode cX11_bears 32 = .ok (.getfield 49, 3) := by decide +kernel
theorem dX11_bears_35 : decode cX11_bears 35 = .ok (.iconst 1, 1) := by decide +kernel
theorem dX11_bears_36 : decode cX11_bears 36 = .ok (.iload_n 1, 1) := by decide +kernel
theorem dX11_bears_37 : decode cX11_bears 37 = .ok (.iadd, 1) := by decide +kernel
theorem dX11_bears_38 : decode cX11_bears 38 = .ok (.iload_n 3, 1) := by decide +kernel
theorem dX11_bears_39 : decode cX11_bears 39 = .ok (.iastore, 1) := by decide +kernel
theorem dX11_bears_40 : decode cX11_bears 40 = .ok (.aload_n 0, 1) := by decide +kernel
theorem dX11_bears_41 : decode cX11_bears 41 = .ok (.bipush 48, 2) := by decide +kernel
theorem dX11_bears_43 : decode cX11_bears 43 = .ok (.invokevirtual 203, 3) := by decide +kernel
theorem dX11_bears_46 : decode cX11_bears 46 = .ok (.aload_n 0, 1) := by decide +kernel
theorem dX11_bears_47 : decode cX11_bears 47 = .ok (.aload_n 0, 1) := by decide +kernel
theorem dX11_bears_48 : decode cX11_bears 48 = .ok (.iload_n 1, 1) := by decide +kernel
theorem dX11_bears_49 : decode cX11_bears 49 = .ok (.invokevirtual 191, 3) := by decide +kernel
theorem dX11_bears_52 : decode cX11_bears 52 = .ok (.invokevirtual 229, 3) := by decide +kernel
theorem dX11_bears_55 : decode cX11_bears 55 = .ok (.iload_n 2, 1) := by decide +kernel
theorem dX11_bears_56 : decode cX11_bears 56 = .ok (.if_icmp .gt 5, 3) := by decide +kernel
theorem dX11_bears_59 : decode cX11_bears 59 = .ok (.iload_n 3, 1) := by decide +kernel
theorem dX11_bears_60 : decode cX11_bears 60 = .ok (.ireturn, 1) := by decide +kernel
theorem dX11_bears_61 : decode cX11_bears 61 = .ok (.iinc 3 (-1), 3) := by decide +kernel
theorem dX11_bears_64 : decode cX11_bears 64 = .ok (.goto (-41), 3) := by decide +kernel
theorem dX11_bears_67 : decode cX11_bears 67 = .ok (.bipush (-4), 2) := by decide +kernel
theorem dX11_bears_69 : decode cX11_bears 69 = .ok (.ireturn, 1) := by decide +kernel
theorem dX11_knowsBy_0 : decode cX11_knowsBy 0 = .ok (.aload_n 0, 1) := by decide +kernel
theorem dX11_knowsBy_1 : decode cX11_knowsBy 1 = .ok (.iload 4, 2) := by decide +kernel
theorem dX11_knowsBy_3 : decode cX11_knowsBy 3 = .ok (.invokevirtual 206, 3) := by decide +kernel
theorem dX11_knowsBy_6 : decode cX11_knowsBy 6 = .ok (.iload_n 1, 1) := by decide +kernel
theorem dX11_knowsBy_7 : decode cX11_knowsBy 7 = .ok (.bipush 16, 2) := by decide +kernel
theorem dX11_knowsBy_9 : decode cX11_knowsBy 9 = .ok (.if_icmp .ge 28, 3) := by decide +kernel
theorem dX11_knowsBy_12 : decode cX11_knowsBy 12 = .ok (.aload_n 0, 1) := by decide +kernel
theorem dX11_knowsBy_13 : decode cX11_knowsBy 13 = .ok (.getfield 49, 3) := by decide +kernel
theorem dX11_knowsBy_16 : decode cX11_knowsBy 16 = .ok (.iconst 1, 1) := by decide +kernel
theorem dX11_knowsBy_17 : decode cX11_knowsBy 17 = .ok (.iload_n 1, 1) := by decide +kernel
theorem dX11_knowsBy_18 : decode cX11_knowsBy 18 = .ok (.iadd, 1) := by decide +kernel
theorem dX11_knowsBy_19 : decode cX11_knowsBy 19 = .ok (.iaload, 1) := by decide +kernel
theorem dX11_knowsBy_20 : decode cX11_knowsBy 20 = .ok (.bipush 6, 2) := by decide +kernel
theorem dX11_knowsBy_22 : decode cX11_knowsBy 22 = .ok (.if_icmp .ge 15, 3) := by decide +kernel
theorem dX11_knowsBy_25 : decode cX11_knowsBy 25 = .ok (.aload_n 0, 1) := by decide +kernel
theorem dX11_knowsBy_26 : decode cX11_knowsBy 26 = .ok (.getfield 49, 3) := by decide +kernel
theorem dX11_knowsBy_29 : decode cX11_knowsBy 29 = .ok (.iconst 1, 1) := by decide +kernel
theorem dX11_knowsBy_30 : decode cX11_knowsBy 30 = .ok (.iload_n 1, 1) := by decide +kernel
theorem dX11_knowsBy_31 : decode cX11_knowsBy 31 = .ok (.iadd, 1) := by decide +kernel
theorem dX11_knowsBy_32 : decode cX11_knowsBy 32 = .ok (.dup2, 1) := by decide +kernel
theorem dX11_knowsBy_33 : decode cX11_knowsBy 33 = .ok (.iaload, 1) := by decide +kernel
theorem dX11_knowsBy_34 : decode cX11_knowsBy 34 = .ok (.iconst 1, 1) := by decide +kernel
theorem dX11_knowsBy_35 : decode cX11_knowsBy 35 = .ok (.iadd, 1) := by decide +kernel
theorem dX11_knowsBy_36 : decode cX11_knowsBy 36 = .ok (.iastore, 1) := by decide +kernel
theorem dX11_knowsBy_37 : decode cX11_knowsBy 37 = .ok (.iload_n 2, 1) := by decide +kernel
theorem dX11_knowsBy_38 : decode cX11_knowsBy 38 = .ok (.bipush 16, 2) := by decide +kernel
theorem dX11_knowsBy_40 : decode cX11_knowsBy 40 = .ok (.if_icmp .ge 26, 3) := by decide +kernel
theorem dX11_knowsBy_43 : decode cX11_knowsBy 43 = .ok (.aload_n 0, 1) := by decide +kernel
theorem dX11_knowsBy_44 : decode cX11_knowsBy 44 = .ok (.getfield 49, 3) := by decide +kernel
theorem dX11_knowsBy_47 : decode cX11_knowsBy 47 = .ok (.iconst 1, 1) := by decide +kernel
theorem dX11_knowsBy_48 : decode cX11_knowsBy 48 = .ok (.iload_n 2, 1) := by decide +kernel
theorem dX11_knowsBy_49 : decode cX11_knowsBy 49 = .ok (.iadd, 1) := by decide +kernel
theorem dX11_knowsBy_50 : decode cX11_knowsBy 50 = .ok (.iaload, 1) := by decide +kernel
theorem dX11_knowsBy_51 : decode cX11_knowsBy 51 = .ok (.ifCond .le 15, 3) := by decide +kernel
theorem dX11_knowsBy_54 : decode cX11_knowsBy 54 = .ok (.aload_n 0, 1) := by decide +kernel
theorem dX11_knowsBy_55 : decode cX11_knowsBy 55 = .ok (.getfield 49, 3) := by decide +kernel
theorem dX11_knowsBy_58 : decode cX11_knowsBy 58 = .ok (.iconst 1, 1) := by decide +kernel
theorem dX11_knowsBy_59 : decode cX11_knowsBy 59 = .ok (.iload_n 2, 1) := by decide +kernel
theorem dX11_knowsBy_60 : decode cX11_knowsBy 60 = .ok (.iadd, 1) := by decide +kernel
theorem dX11_knowsBy_61 : decode cX11_knowsBy 61 = .ok (.dup2, 1) := by decide +kernel
theorem dX11_knowsBy_62 : decode cX11_knowsBy 62 = .ok (.iaload, 1) := by decide +kernel
theorem dX11_knowsBy_63 : decode cX11_knowsBy 63 = .ok (.iconst 1, 1) := by decide +kernel
theorem dX11_knowsBy_64 : decode cX11_knowsBy 64 = .ok (.isub, 1) := by decide +kernel
theorem dX11_knowsBy_65 : decode cX11_knowsBy 65 = .ok (.iastore, 1) := by decide +kernel
theorem dX11_knowsBy_66 : decode cX11_knowsBy 66 = .ok (.aload_n 0, 1) := by decide +kernel
theorem dX11_knowsBy_67 : decode cX11_knowsBy 67 = .ok (.iload 5, 2) := by decide +kernel
theorem dX11_knowsBy_69 : decode cX11_knowsBy 69 = .ok (.invokevirtual 203, 3) := by decide +kernel
theorem dX11_knowsBy_72 : decode cX11_knowsBy 72 = .ok (.aload_n 0, 1) := by decide +kernel
theorem dX11_knowsBy_73 : decode cX11_knowsBy 73 = .ok (.getfield 49, 3) := by decide +kernel
theorem dX11_knowsBy_76 : decode cX11_knowsBy 76 = .ok (.bipush 17, 2) := by decide +kernel
theorem dX11_knowsBy_78 : decode cX11_knowsBy 78 = .ok (.iload 4, 2) := by decide +kernel
theorem dX11_knowsBy_80 : decode cX11_knowsBy 80 = .ok (.iadd, 1) := by decide +kernel
theorem dX11_knowsBy_81 : decode cX11_knowsBy 81 = .ok (.iaload, 1) := by decide +kernel
theorem dX11_knowsBy_82 : decode cX11_knowsBy 82 = .ok (.iload_n 3, 1) := by decide +kernel
theorem dX11_knowsBy_83 : decode cX11_knowsBy 83 = .ok (.invokestatic 167, 3) := by decide +kernel
theorem dX11_knowsBy_86 : decode cX11_knowsBy 86 = .ok (.ireturn, 1) := by decide +kernel
theorem dX11_isWon_0 : decode cX11_isWon 0 = .ok (.aload_n 0, 1) := by decide +kernel
theorem dX11_isWon_1 : decode cX11_isWon 1 = .ok (.iload_n 1, 1) := by decide +kernel
theorem dX11_isWon_2 : decode cX11_isWon 2 = .ok (.bipush 16, 2) := by decide +kernel
theorem dX11_isWon_4 : decode cX11_isWon 4 = .ok (.iload_n 2, 1) := by decide +kernel
theorem dX11_isWon_5 : decode cX11_isWon 5 = .ok (.iload_n 3, 1) := by decide +kernel
theorem dX11_isWon_6 : decode cX11_isWon 6 = .ok (.iload 4, 2) := by decide +kernel
theorem dX11_isWon_8 : decode cX11_isWon 8 = .ok (.invokevirtual 232, 3) := by decide +kernel
theorem dX11_isWon_11 : decode cX11_isWon 11 = .ok (.istore 5, 2) := by decide +kernel
theorem dX11_isWon_13 : decode cX11_isWon 13 = .ok (.iconst 0, 1) := by decide +kernel
theorem dX11_isWon_14 : decode cX11_isWon 14 = .ok (.istore 6, 2) := by decide +kernel
theorem dX11_isWon_16 : decode cX11_isWon 16 = .ok (.iload 6, 2) := by decide +kernel
theorem dX11_isWon_18 : decode cX11_isWon 18 = .ok (.aload_n 0, 1) := by decide +kernel
theorem dX11_isWon_19 : decode cX11_isWon 19 = .ok (.getfield 72, 3) := by decide +kernel
theorem dX11_isWon_22 : decode cX11_isWon 22 = .ok (.if_icmp .ge 27, 3) := by decide +kernel
theorem dX11_isWon_25 : decode cX11_isWon 25 = .ok (.iload 5, 2) := by decide +kernel
theorem dX11_isWon_27 : decode cX11_isWon 27 = .ok (.ifCond .eq 22, 3) := by decide +kernel
theorem dX11_isWon_30 : decode cX11_isWon 30 = .ok (.aload_n 0, 1) := by decide +kernel
theorem dX11_isWon_31 : decode cX11_isWon 31 = .ok (.iload_n 1, 1) := by decide +kernel
theorem dX11_isWon_32 : decode cX11_isWon 32 = .ok (.iload 6, 2) := by decide +kernel
theorem dX11_isWon_34 : decode cX11_isWon 34 = .ok (.iload_n 2, 1) := by decide +kernel
theorem dX11_isWon_35 : decode cX11_isWon 35 = .ok (.iload_n 3, 1) := by decide +kernel
theorem dX11_isWon_36 : decode cX11_isWon 36 = .ok (.iload 4, 2) := by decide +kernel
theorem dX11_isWon_38 : decode cX11_isWon 38 = .ok (.invokevirtual 232, 3) := by decide +kernel
theorem dX11_isWon_41 : decode cX11_isWon 41 = .ok (.istore 5, 2) := by decide +kernel
theorem dX11_isWon_43 : decode cX11_isWon 43 = .ok (.iinc 6 1, 3) := by decide +kernel
theorem dX11_isWon_46 : decode cX11_isWon 46 = .ok (.goto (-30), 3) := by decide +kernel
theorem dX11_isWon_49 : decode cX11_isWon 49 = .ok (.iload 5, 2) := by decide +kernel
theorem dX11_isWon_51 : decode cX11_isWon 51 = .ok (.ireturn, 1) := by decide +kernel
theorem dX11_quarrel_0 : decode cX11_quarrel 0 = .ok (.aload_n 0, 1) := by decide +kernel
theorem dX11_quarrel_1 : decode cX11_quarrel 1 = .ok (.iload_n 1, 1) := by decide +kernel
theorem dX11_quarrel_2 : decode cX11_quarrel 2 = .ok (.invokevirtual 188, 3) := by decide +kernel
theorem dX11_quarrel_5 : decode cX11_quarrel 5 = .ok (.ifCond .eq 31, 3) := by decide +kernel
theorem dX11_quarrel_8 : decode cX11_quarrel 8 = .ok (.aload_n 0, 1) := by decide +kernel
theorem dX11_quarrel_9 : decode cX11_quarrel 9 = .ok (.iload_n 2, 1) := by decide +kernel
theorem dX11_quarrel_10 : decode cX11_quarrel 10 = .ok (.invokevirtual 194, 3) := by decide +kernel
theorem dX11_quarrel_13 : decode cX11_quarrel 13 = .ok (.ifCond .eq 23, 3) := by decide +kernel
theorem dX11_quarrel_16 : decode cX11_quarrel 16 = .ok (.iload_n 3, 1) := by decide +kernel
theorem dX11_quarrel_17 : decode cX11_quarrel 17 = .ok (.iconst 1, 1) := by decide +kernel
theorem dX11_quarrel_18 : decode cX11_quarrel 18 = .ok (.bipush 12, 2) := by decide +kernel
theorem dX11_quarrel_20 : decode cX11_quarrel 20 = .ok (.invokestatic 75, 3) := by decide +kernel
theorem dX11_quarrel_23 : decode cX11_quarrel 23 = .ok (.ifCond .eq 13, 3) := by decide +kernel
theorem dX11_quarrel_26 : decode cX11_quarrel 26 = .ok (.iload 4, 2) := by decide +kernel
theorem dX11_quarrel_28 : decode cX11_quarrel 28 = .ok (.iconst 0, 1) := by decide +kernel
theorem dX11_quarrel_29 : decode cX11_quarrel 29 = .ok (.iconst 1, 1) := by decide +kernel
theorem dX11_quarrel_30 : decode cX11_quarrel 30 = .ok (.invokestatic 75, 3) := by decide +kernel
theorem dX11_quarrel_33 : decode cX11_quarrel 33 = .ok (.ifCond .ne 5, 3) := by decide +kernel
theorem dX11_quarrel_36 : decode cX11_quarrel 36 = .ok (.iconst (-1), 1) := by decide +kernel
theorem dX11_quarrel_37 : decode cX11_quarrel 37 = .ok (.ireturn, 1) := by decide +kernel
theorem dX11_quarrel_38 : decode cX11_quarrel 38 = .ok (.iconst (-1), 1) := by decide +kernel
theorem dX11_quarrel_39 : decode cX11_quarrel 39 = .ok (.istore 5, 2) := by decide +kernel
theorem dX11_quarrel_41 : decode cX11_quarrel 41 = .ok (.aload_n 0, 1) := by decide +kernel
theorem dX11_quarrel_42 : decode cX11_quarrel 42 = .ok (.getfield 72, 3) := by decide +kernel
theorem dX11_quarrel_45 : decode cX11_quarrel 45 = .ok (.iconst 1, 1) := by decide +kernel
theorem dX11_quarrel_46 : decode cX11_quarrel 46 = .ok (.isub, 1) := by decide +kernel
theorem dX11_quarrel_47 : decode cX11_quarrel 47 = .ok (.istore 6, 2) := by decide +kernel
theorem dX11_quarrel_49 : decode cX11_quarrel 49 = .ok (.iload 6, 2) := by decide +kernel
theorem dX11_quarrel_51 : decode cX11_quarrel 51 = .ok (.ifCond .lt 30, 3) := by decide +kernel
theorem dX11_quarrel_54 : decode cX11_quarrel 54 = .ok (.aload_n 0, 1) := by decide +kernel
theorem dX11_quarrel_55 : decode cX11_quarrel 55 = .ok (.iload 6, 2) := by decide +kernel
theorem dX11_quarrel_57 : decode cX11_quarrel 57 = .ok (.iload_n 1, 1) := by decide +kernel
theorem dX11_quarrel_58 : decode cX11_quarrel 58 = .ok (.iload_n 2, 1) := by decide +kernel
theorem dX11_quarrel_59 : decode cX11_quarrel 59 = .ok (.iload_n 3, 1) := by decide +kernel
theorem dX11_quarrel_60 : decode cX11_quarrel 60 = .ok (.invokevirtual 235, 3) := by decide +kernel
theorem dX11_quarrel_63 : decode cX11_quarrel 63 = .ok (.ifCond .eq 8, 3) := by decide +kernel
theorem dX11_quarrel_66 : decode cX11_quarrel 66 = .ok (.iload 6, 2) := by decide +kernel
theorem dX11_quarrel_68 : decode cX11_quarrel 68 = .ok (.goto 5, 3) := by decide +kernel
theorem dX11_quarrel_71 : decode cX11_quarrel 71 = .ok (.iload 5, 2) := by decide +kernel
theorem dX11_quarrel_73 : decode cX11_quarrel 73 = .ok (.istore 5, 2) := by decide +kernel
theorem dX11_quarrel_75 : decode cX11_quarrel 75 = .ok (.iinc 6 (-1), 3) := by decide +kernel
theorem dX11_quarrel_78 : decode cX11_quarrel 78 = .ok (.goto (-29), 3) := by decide +kernel
theorem dX11_quarrel_81 : decode cX11_quarrel 81 = .ok (.aload_n 0, 1) := by decide +kernel
theorem dX11_quarrel_82 : decode cX11_quarrel 82 = .ok (.bipush 16, 2) := by decide +kernel
theorem dX11_quarrel_84 : decode cX11_quarrel 84 = .ok (.iload_n 1, 1) := by decide +kernel
theorem dX11_quarrel_85 : decode cX11_quarrel 85 = .ok (.iload_n 2, 1) := by decide +kernel
theorem dX11_quarrel_86 : decode cX11_quarrel 86 = .ok (.iload_n 3, 1) := by decide +kernel
theorem dX11_quarrel_87 : decode cX11_quarrel 87 = .ok (.invokevirtual 235, 3) := by decide +kernel
theorem dX11_quarrel_90 : decode cX11_quarrel 90 = .ok (.istore 6, 2) := by decide +kernel
theorem dX11_quarrel_92 : decode cX11_quarrel 92 = .ok (.iload 4, 2) := by decide +kernel
theorem dX11_quarrel_94 : decode cX11_quarrel 94 = .ok (.ifCond .ne 21, 3) := by decide +kernel
theorem dX11_quarrel_97 : decode cX11_quarrel 97 = .ok (.iload 6, 2) := by decide +kernel
theorem dX11_quarrel_99 : decode cX11_quarrel 99 = .ok (.ifCond .ne 8, 3) := by decide +kernel
theorem dX11_quarrel_102 : decode cX11_quarrel 102 = .ok (.iload 5, 2) := by decide +kernel
theorem dX11_quarrel_104 : decode cX11_quarrel 104 = .ok (.ifCond .lt 7, 3) := by decide +kernel
theorem dX11_quarrel_107 : decode cX11_quarrel 107 = .ok (.iconst 1, 1) := by decide +kernel
theorem dX11_quarrel_108 : decode cX11_quarrel 108 = .ok (.goto 24, 3) := by decide +kernel
theorem dX11_quarrel_111 : decode cX11_quarrel 111 = .ok (.iconst 0, 1) := by decide +kernel
theorem dX11_quarrel_112 : decode cX11_quarrel 112 = .ok (.goto 20, 3) := by decide +kernel
theorem dX11_quarrel_115 : decode cX11_quarrel 115 = .ok (.iload 6, 2) := by decide +kernel
theorem dX11_quarrel_117 : decode cX11_quarrel 117 = .ok (.ifCond .ne 8, 3) := by decide +kernel
theorem dX11_quarrel_120 : decode cX11_quarrel 120 = .ok (.iload 5, 2) := by decide +kernel
theorem dX11_quarrel_122 : decode cX11_quarrel 122 = .ok (.ifCond .ge 8, 3) := by decide +kernel
theorem dX11_quarrel_125 : decode cX11_quarrel 125 = .ok (.bipush 16, 2) := by decide +kernel
theorem dX11_quarrel_127 : decode cX11_quarrel 127 = .ok (.goto 5, 3) := by decide +kernel
theorem dX11_quarrel_130 : decode cX11_quarrel 130 = .ok (.iload 5, 2) := by decide +kernel
theorem dX11_quarrel_132 : decode cX11_quarrel 132 = .ok (.ireturn, 1) := by decide +kernel
theorem dX11_see_0 : decode cX11_see 0 = .ok (.aload_n 0, 1) := by decide +kernel
theorem dX11_see_1 : decode cX11_see 1 = .ok (.iload_n 1, 1) := by decide +kernel
theorem dX11_see_2 : decode cX11_see 2 = .ok (.invokevirtual 188, 3) := by decide +kernel
theorem dX11_see_5 : decode cX11_see 5 = .ok (.ifCond .eq 21, 3) := by decide +kernel
theorem dX11_see_8 : decode cX11_see 8 = .ok (.aload_n 0, 1) := by decide +kernel
theorem dX11_see_9 : decode cX11_see 9 = .ok (.iload_n 2, 1) := by decide +kernel
theorem dX11_see_10 : decode cX11_see 10 = .ok (.invokevirtual 194, 3) := by decide +kernel
theorem dX11_see_13 : decode cX11_see 13 = .ok (.ifCond .eq 13, 3) := by decide +kernel
theorem dX11_see_16 : decode cX11_see 16 = .ok (.iload_n 3, 1) := by decide +kernel
theorem dX11_see_17 : decode cX11_see 17 = .ok (.iconst 0, 1) := by decide +kernel
theorem dX11_see_18 : decode cX11_see 18 = .ok (.bipush 30, 2) := by decide +kernel
theorem dX11_see_20 : decode cX11_see 20 = .ok (.invokestatic 75, 3) := by decide +kernel
theorem dX11_see_23 : decode cX11_see 23 = .ok (.ifCond .ne 5, 3) := by decide +kernel
theorem dX11_see_26 : decode cX11_see 26 = .ok (.iconst (-1), 1) := by decide +kernel
theorem dX11_see_27 : decode cX11_see 27 = .ok (.ireturn, 1) := by decide +kernel
theorem dX11_see_28 : decode cX11_see 28 = .ok (.aload_n 0, 1) := by decide +kernel
theorem dX11_see_29 : decode cX11_see 29 = .ok (.getfield 154, 3) := by decide +kernel
theorem dX11_see_32 : decode cX11_see 32 = .ok (.bipush 6, 2) := by decide +kernel
theorem dX11_see_34 : decode cX11_see 34 = .ok (.if_icmp .ne 6, 3) := by decide +kernel
theorem dX11_see_37 : decode cX11_see 37 = .ok (.bipush (-3), 2) := by decide +kernel
theorem dX11_see_39 : decode cX11_see 39 = .ok (.ireturn, 1) := by decide +kernel
theorem dX11_see_40 : decode cX11_see 40 = .ok (.aload_n 0, 1) := by decide +kernel
theorem dX11_see_41 : decode cX11_see 41 = .ok (.getfield 28, 3) := by decide +kernel
theorem dX11_see_44 : decode cX11_see 44 = .ok (.iconst 4, 1) := by decide +kernel
theorem dX11_see_45 : decode cX11_see 45 = .ok (.aload_n 0, 1) := by decide +kernel
theorem dX11_see_46 : decode cX11_see 46 = .ok (.getfield 154, 3) := by decide +kernel
theorem dX11_see_49 : decode cX11_see 49 = .ok (.imul, 1) := by decide +kernel
theorem dX11_see_50 : decode cX11_see 50 = .ok (.iload_n 1, 1) := by decide +kernel
theorem dX11_see_51 : decode cX11_see 51 = .ok (.iastore, 1) := by decide +kernel
theorem dX11_see_52 : decode cX11_see 52 = .ok (.aload_n 0, 1) := by decide +kernel
theorem dX11_see_53 : decode cX11_see 53 = .ok (.getfield 28, 3) := by decide +kernel
theorem dX11_see_56 : decode cX11_see 56 = .ok (.iconst 4, 1) := by decide +kernel
theorem dX11_see_57 : decode cX11_see 57 = .ok (.aload_n 0, 1) := by decide +kernel
theorem dX11_see_58 : decode cX11_see 58 = .ok (.getfield 154, 3) := by decide +kernel
theorem dX11_see_61 : decode cX11_see 61 = .ok (.imul, 1) := by decide +kernel
theorem dX11_see_62 : decode cX11_see 62 = .ok (.iconst 1, 1) := by decide +kernel
theorem dX11_see_63 : decode cX11_see 63 = .ok (.iadd, 1) := by decide +kernel
theorem dX11_see_64 : decode cX11_see 64 = .ok (.iload_n 2, 1) := by decide +kernel
theorem dX11_see_65 : decode cX11_see 65 = .ok (.iastore, 1) := by decide +kernel
theorem dX11_see_66 : decode cX11_see 66 = .ok (.aload_n 0, 1) := by decide +kernel
theorem dX11_see_67 : decode cX11_see 67 = .ok (.getfield 28, 3) := by decide +kernel
theorem dX11_see_70 : decode cX11_see 70 = .ok (.iconst 4, 1) := by decide +kernel
theorem dX11_see_71 : decode cX11_see 71 = .ok (.aload_n 0, 1) := by decide +kernel
theorem dX11_see_72 : decode cX11_see 72 = .ok (.getfield 154, 3) := by decide +kernel
theorem dX11_see_75 : decode cX11_see 75 = .ok (.imul, 1) := by decide +kernel
theorem dX11_see_76 : decode cX11_see 76 = .ok (.iconst 2, 1) := by decide +kernel
theorem dX11_see_77 : decode cX11_see 77 = .ok (.iadd, 1) := by decide +kernel
theorem dX11_see_78 : decode cX11_see 78 = .ok (.iload_n 3, 1) := by decide +kernel
theorem dX11_see_79 : decode cX11_see 79 = .ok (.iastore, 1) := by decide +kernel
theorem dX11_see_80 : decode cX11_see 80 = .ok (.aload_n 0, 1) := by decide +kernel
theorem dX11_see_81 : decode cX11_see 81 = .ok (.getfield 28, 3) := by decide +kernel
theorem dX11_see_84 : decode cX11_see 84 = .ok (.iconst 4, 1) := by decide +kernel
theorem dX11_see_85 : decode cX11_see 85 = .ok (.aload_n 0, 1) := by decide +kernel
theorem dX11_see_86 : decode cX11_see 86 = .ok (.getfield 154, 3) := by decide +kernel
theorem dX11_see_89 : decode cX11_see 89 = .ok (.imul, 1) := by decide +kernel
theorem dX11_see_90 : decode cX11_see 90 = .ok (.iconst 3, 1) := by decide +kernel
theorem dX11_see_91 : decode cX11_see 91 = .ok (.iadd, 1) := by decide +kernel
theorem dX11_see_92 : decode cX11_see 92 = .ok (.iload 4, 2) := by decide +kernel
theorem dX11_see_94 : decode cX11_see 94 = .ok (.ifCond .eq 7, 3) := by decide +kernel
theorem dX11_see_97 : decode cX11_see 97 = .ok (.iconst 1, 1) := by decide +kernel
theorem dX11_see_98 : decode cX11_see 98 = .ok (.goto 4, 3) := by decide +kernel
theorem dX11_see_101 : decode cX11_see 101 = .ok (.iconst 0, 1) := by decide +kernel
theorem dX11_see_102 : decode cX11_see 102 = .ok (.iastore, 1) := by decide +kernel
theorem dX11_see_103 : decode cX11_see 103 = .ok (.aload_n 0, 1) := by decide +kernel
theorem dX11_see_104 : decode cX11_see 104 = .ok (.dup, 1) := by decide +kernel
theorem dX11_see_105 : decode cX11_see 105 = .ok (.getfield 154, 3) := by decide +kernel
theorem dX11_see_108 : decode cX11_see 108 = .ok (.iconst 1, 1) := by decide +kernel
theorem dX11_see_109 : decode cX11_see 109 = .ok (.iadd, 1) := by decide +kernel
theorem dX11_see_110 : decode cX11_see 110 = .ok (.putfield 154, 3) := by decide +kernel
theorem dX11_see_113 : decode cX11_see 113 = .ok (.aload_n 0, 1) := by decide +kernel
theorem dX11_see_114 : decode cX11_see 114 = .ok (.getfield 154, 3) := by decide +kernel
theorem dX11_see_117 : decode cX11_see 117 = .ok (.ireturn, 1) := by decide +kernel
theorem dX11_forget_0 : decode cX11_forget 0 = .ok (.aload_n 0, 1) := by decide +kernel
theorem dX11_forget_1 : decode cX11_forget 1 = .ok (.getfield 154, 3) := by decide +kernel
theorem dX11_forget_4 : decode cX11_forget 4 = .ok (.istore_n 1, 1) := by decide +kernel
theorem dX11_forget_5 : decode cX11_forget 5 = .ok (.aload_n 0, 1) := by decide +kernel
theorem dX11_forget_6 : decode cX11_forget 6 = .ok (.iconst 0, 1) := by decide +kernel
theorem dX11_forget_7 : decode cX11_forget 7 = .ok (.putfield 154, 3) := by decide +kernel
theorem dX11_forget_10 : decode cX11_forget 10 = .ok (.iload_n 1, 1) := by decide +kernel
theorem dX11_forget_11 : decode cX11_forget 11 = .ok (.ireturn, 1) := by decide +kernel
theorem dX11_isSo_0 : decode cX11_isSo 0 = .ok (.iconst 1, 1) := by decide +kernel
theorem dX11_isSo_1 : decode cX11_isSo 1 = .ok (.istore_n 3, 1) := by decide +kernel
theorem dX11_isSo_2 : decode cX11_isSo 2 = .ok (.iconst 0, 1) := by decide +kernel
theorem dX11_isSo_3 : decode cX11_isSo 3 = .ok (.istore 4, 2) := by decide +kernel
theorem dX11_isSo_5 : decode cX11_isSo 5 = .ok (.iload 4, 2) := by decide +kernel
theorem dX11_isSo_7 : decode cX11_isSo 7 = .ok (.aload_n 0, 1) := by decide +kernel
theorem dX11_isSo_8 : decode cX11_isSo 8 = .ok (.getfield 154, 3) := by decide +kernel
theorem dX11_isSo_11 : decode cX11_isSo 11 = .ok (.if_icmp .ge 107, 3) := by decide +kernel
theorem dX11_isSo_14 : decode cX11_isSo 14 = .ok (.aload_n 0, 1) := by decide +kernel
theorem dX11_isSo_15 : decode cX11_isSo 15 = .ok (.getfield 28, 3) := by decide +kernel
theorem dX11_isSo_18 : decode cX11_isSo 18 = .ok (.iconst 4, 1) := by decide +kernel
theorem dX11_isSo_19 : decode cX11_isSo 19 = .ok (.iload 4, 2) := by decide +kernel
theorem dX11_isSo_21 : decode cX11_isSo 21 = .ok (.imul, 1) := by decide +kernel
theorem dX11_isSo_22 : decode cX11_isSo 22 = .ok (.iconst 2, 1) := by decide +kernel
theorem dX11_isSo_23 : decode cX11_isSo 23 = .ok (.iadd, 1) := by decide +kernel
theorem dX11_isSo_24 : decode cX11_isSo 24 = .ok (.iaload, 1) := by decide +kernel
theorem dX11_isSo_25 : decode cX11_isSo 25 = .ok (.iload_n 2, 1) := by decide +kernel
theorem dX11_isSo_26 : decode cX11_isSo 26 = .ok (.if_icmp .ne 86, 3) := by decide +kernel
theorem dX11_isSo_29 : decode cX11_isSo 29 = .ok (.iload_n 1, 1) := by decide +kernel
theorem dX11_isSo_30 : decode cX11_isSo 30 = .ok (.ifCond .lt 18, 3) := by decide +kernel
theorem dX11_isSo_33 : decode cX11_isSo 33 = .ok (.aload_n 0, 1) := by decide +kernel
theorem dX11_isSo_34 : decode cX11_isSo 34 = .ok (.getfield 28, 3) := by decide +kernel
theorem dX11_isSo_37 : decode cX11_isSo 37 = .ok (.iconst 4, 1) := by decide +kernel
theorem dX11_isSo_38 : decode cX11_isSo 38 = .ok (.iload 4, 2) := by decide +kernel
theorem dX11_isSo_40 : decode cX11_isSo 40 = .ok (.imul, 1) := by decide +kernel
theorem dX11_isSo_41 : decode cX11_isSo 41 = .ok (.iconst 1, 1) := by decide +kernel
theorem dX11_isSo_42 : decode cX11_isSo 42 = .ok (.iadd, 1) := by decide +kernel
theorem dX11_isSo_43 : decode cX11_isSo 43 = .ok (.iaload, 1) := by decide +kernel
theorem dX11_isSo_44 : decode cX11_isSo 44 = .ok (.iload_n 1, 1) := by decide +kernel
theorem dX11_isSo_45 : decode cX11_isSo 45 = .ok (.if_icmp .ne 67, 3) := by decide +kernel
theorem dX11_isSo_48 : decode cX11_isSo 48 = .ok (.iload_n 3, 1) := by decide +kernel
theorem dX11_isSo_49 : decode cX11_isSo 49 = .ok (.ifCond .eq 61, 3) := by decide +kernel
theorem dX11_isSo_52 : decode cX11_isSo 52 = .ok (.aload_n 0, 1) := by decide +kernel
theorem dX11_isSo_53 : decode cX11_isSo 53 = .ok (.getfield 49, 3) := by decide +kernel
theorem dX11_isSo_56 : decode cX11_isSo 56 = .ok (.bipush 17, 2) := by decide +kernel
theorem dX11_isSo_58 : decode cX11_isSo 58 = .ok (.aload_n 0, 1) := by decide +kernel
theorem dX11_isSo_59 : decode cX11_isSo 59 = .ok (.getfield 28, 3) := by decide +kernel
theorem dX11_isSo_62 : decode cX11_isSo 62 = .ok (.iconst 4, 1) := by decide +kernel
theorem dX11_isSo_63 : decode cX11_isSo 63 = .ok (.iload 4, 2) := by decide +kernel
theorem dX11_isSo_65 : decode cX11_isSo 65 = .ok (.imul, 1) := by decide +kernel
theorem dX11_isSo_66 : decode cX11_isSo 66 = .ok (.iconst 1, 1) := by decide +kernel
theorem dX11_isSo_67 : decode cX11_isSo 67 = .ok (.iadd, 1) := by decide +kernel
theorem dX11_isSo_68 : decode cX11_isSo 68 = .ok (.iaload, 1) := by decide +kernel
theorem dX11_isSo_69 : decode cX11_isSo 69 = .ok (.iadd, 1) := by decide +kernel
theorem dX11_isSo_70 : decode cX11_isSo 70 = .ok (.iaload, 1) := by decide +kernel
theorem dX11_isSo_71 : decode cX11_isSo 71 = .ok (.aload_n 0, 1) := by decide +kernel
theorem dX11_isSo_72 : decode cX11_isSo 72 = .ok (.getfield 28, 3) := by decide +kernel
theorem dX11_isSo_75 : decode cX11_isSo 75 = .ok (.iconst 4, 1) := by decide +kernel
theorem dX11_isSo_76 : decode cX11_isSo 76 = .ok (.iload 4, 2) := by decide +kernel
theorem dX11_isSo_78 : decode cX11_isSo 78 = .ok (.imul, 1) := by decide +kernel
theorem dX11_isSo_79 : decode cX11_isSo 79 = .ok (.iaload, 1) := by decide +kernel
theorem dX11_isSo_80 : decode cX11_isSo 80 = .ok (.invokestatic 167, 3) := by decide +kernel
theorem dX11_isSo_83 : decode cX11_isSo 83 = .ok (.aload_n 0, 1) := by decide +kernel
theorem dX11_isSo_84 : decode cX11_isSo 84 = .ok (.getfield 28, 3) := by decide +kernel
theorem dX11_isSo_87 : decode cX11_isSo 87 = .ok (.iconst 4, 1) := by decide +kernel
theorem dX11_isSo_88 : decode cX11_isSo 88 = .ok (.iload 4, 2) := by decide +kernel
theorem dX11_isSo_90 : decode cX11_isSo 90 = .ok (.imul, 1) := by decide +kernel
theorem dX11_isSo_91 : decode cX11_isSo 91 = .ok (.iconst 3, 1) := by decide +kernel
theorem dX11_isSo_92 : decode cX11_isSo 92 = .ok (.iadd, 1) := by decide +kernel
theorem dX11_isSo_93 : decode cX11_isSo 93 = .ok (.iaload, 1) := by decide +kernel
theorem dX11_isSo_94 : decode cX11_isSo 94 = .ok (.iconst 1, 1) := by decide +kernel
theorem dX11_isSo_95 : decode cX11_isSo 95 = .ok (.if_icmp .ne 7, 3) := by decide +kernel
theorem dX11_isSo_98 : decode cX11_isSo 98 = .ok (.iconst 1, 1) := by decide +kernel
theorem dX11_isSo_99 : decode cX11_isSo 99 = .ok (.goto 4, 3) := by decide +kernel
theorem dX11_isSo_102 : decode cX11_isSo 102 = .ok (.iconst 0, 1) := by decide +kernel
theorem dX11_isSo_103 : decode cX11_isSo 103 = .ok (.if_icmp .ne 7, 3) := by decide +kernel
theorem dX11_isSo_106 : decode cX11_isSo 106 = .ok (.iconst 1, 1) := by decide +kernel
theorem dX11_isSo_107 : decode cX11_isSo 107 = .ok (.goto 4, 3) := by decide +kernel
theorem dX11_isSo_110 : decode cX11_isSo 110 = .ok (.iconst 0, 1) := by decide +kernel
theorem dX11_isSo_111 : decode cX11_isSo 111 = .ok (.istore_n 3, 1) := by decide +kernel
theorem dX11_isSo_112 : decode cX11_isSo 112 = .ok (.iinc 4 1, 3) := by decide +kernel
theorem dX11_isSo_115 : decode cX11_isSo 115 = .ok (.goto (-110), 3) := by decide +kernel
theorem dX11_isSo_118 : decode cX11_isSo 118 = .ok (.iload_n 3, 1) := by decide +kernel
theorem dX11_isSo_119 : decode cX11_isSo 119 = .ok (.ireturn, 1) := by decide +kernel
theorem dX11_isSoAll_0 : decode cX11_isSoAll 0 = .ok (.aload_n 0, 1) := by decide +kernel
theorem dX11_isSoAll_1 : decode cX11_isSoAll 1 = .ok (.iload_n 1, 1) := by decide +kernel
theorem dX11_isSoAll_2 : decode cX11_isSoAll 2 = .ok (.iconst 0, 1) := by decide +kernel
theorem dX11_isSoAll_3 : decode cX11_isSoAll 3 = .ok (.invokevirtual 238, 3) := by decide +kernel
theorem dX11_isSoAll_6 : decode cX11_isSoAll 6 = .ok (.istore_n 3, 1) := by decide +kernel
theorem dX11_isSoAll_7 : decode cX11_isSoAll 7 = .ok (.iconst 1, 1) := by decide +kernel
theorem dX11_isSoAll_8 : decode cX11_isSoAll 8 = .ok (.istore 4, 2) := by decide +kernel
theorem dX11_isSoAll_10 : decode cX11_isSoAll 10 = .ok (.iload 4, 2) := by decide +kernel
theorem dX11_isSoAll_12 : decode cX11_isSoAll 12 = .ok (.bipush 30, 2) := by decide +kernel
theorem dX11_isSoAll_14 : decode cX11_isSoAll 14 = .ok (.if_icmp .gt 49, 3) := by decide +kernel
theorem dX11_isSoAll_17 : decode cX11_isSoAll 17 = .ok (.iload_n 3, 1) := by decide +kernel
theorem dX11_isSoAll_18 : decode cX11_isSoAll 18 = .ok (.ifCond .eq 45, 3) := by decide +kernel
theorem dX11_isSoAll_21 : decode cX11_isSoAll 21 = .ok (.aload_n 0, 1) := by decide +kernel
theorem dX11_isSoAll_22 : decode cX11_isSoAll 22 = .ok (.iload 4, 2) := by decide +kernel
theorem dX11_isSoAll_24 : decode cX11_isSoAll 24 = .ok (.iconst 1, 1) := by decide +kernel
theorem dX11_isSoAll_25 : decode cX11_isSoAll 25 = .ok (.if_icmp .ne 11, 3) := by decide +kernel
theorem dX11_isSoAll_28 : decode cX11_isSoAll 28 = .ok (.iload_n 2, 1) := by decide +kernel
theorem dX11_isSoAll_29 : decode cX11_isSoAll 29 = .ok (.ifCond .lt 7, 3) := by decide +kernel
theorem dX11_isSoAll_32 : decode cX11_isSoAll 32 = .ok (.iload_n 2, 1) := by decide +kernel
theorem dX11_isSoAll_33 : decode cX11_isSoAll 33 = .ok (.goto 13, 3) := by decide +kernel
theorem dX11_isSoAll_36 : decode cX11_isSoAll 36 = .ok (.aload_n 0, 1) := by decide +kernel
theorem dX11_isSoAll_37 : decode cX11_isSoAll 37 = .ok (.aload_n 0, 1) := by decide +kernel
theorem dX11_isSoAll_38 : decode cX11_isSoAll 38 = .ok (.getfield 49, 3) := by decide +kernel
theorem dX11_isSoAll_41 : decode cX11_isSoAll 41 = .ok (.iconst 0, 1) := by decide +kernel
theorem dX11_isSoAll_42 : decode cX11_isSoAll 42 = .ok (.iaload, 1) := by decide +kernel
theorem dX11_isSoAll_43 : decode cX11_isSoAll 43 = .ok (.invokevirtual 181, 3) := by decide +kernel
theorem dX11_isSoAll_46 : decode cX11_isSoAll 46 = .ok (.invokevirtual 184, 3) := by decide +kernel
theorem dX11_isSoAll_49 : decode cX11_isSoAll 49 = .ok (.aload_n 0, 1) := by decide +kernel
theorem dX11_isSoAll_50 : decode cX11_isSoAll 50 = .ok (.iload_n 1, 1) := by decide +kernel
theorem dX11_isSoAll_51 : decode cX11_isSoAll 51 = .ok (.iload 4, 2) := by decide +kernel
theorem dX11_isSoAll_53 : decode cX11_isSoAll 53 = .ok (.invokevirtual 238, 3) := by decide +kernel
theorem dX11_isSoAll_56 : decode cX11_isSoAll 56 = .ok (.istore_n 3, 1) := by decide +kernel
theorem dX11_isSoAll_57 : decode cX11_isSoAll 57 = .ok (.iinc 4 1, 3) := by decide +kernel
theorem dX11_isSoAll_60 : decode cX11_isSoAll 60 = .ok (.goto (-50), 3) := by decide +kernel
theorem dX11_isSoAll_63 : decode cX11_isSoAll 63 = .ok (.iload_n 3, 1) := by decide +kernel
theorem dX11_isSoAll_64 : decode cX11_isSoAll 64 = .ok (.ireturn, 1) := by decide +kernel
theorem dX11_began_0 : decode cX11_began 0 = .ok (.aload_n 0, 1) := by decide +kernel
theorem dX11_began_1 : decode cX11_began 1 = .ok (.iload_n 1, 1) := by decide +kernel
theorem dX11_began_2 : decode cX11_began 2 = .ok (.invokevirtual 194, 3) := by decide +kernel
theorem dX11_began_5 : decode cX11_began 5 = .ok (.ifCond .ne 5, 3) := by decide +kernel
theorem dX11_began_8 : decode cX11_began 8 = .ok (.iconst (-1), 1) := by decide +kernel
theorem dX11_began_9 : decode cX11_began 9 = .ok (.ireturn, 1) := by decide +kernel
theorem dX11_began_10 : decode cX11_began 10 = .ok (.iconst 0, 1) := by decide +kernel
theorem dX11_began_11 : decode cX11_began 11 = .ok (.istore_n 2, 1) := by decide +kernel
theorem dX11_began_12 : decode cX11_began 12 = .ok (.iconst 0, 1) := by decide +kernel
theorem dX11_began_13 : decode cX11_began 13 = .ok (.istore_n 3, 1) := by decide +kernel
theorem dX11_began_14 : decode cX11_began 14 = .ok (.iload_n 3, 1) := by decide +kernel
theorem dX11_began_15 : decode cX11_began 15 = .ok (.aload_n 0, 1) := by decide +kernel
theorem dX11_began_16 : decode cX11_began 16 = .ok (.getfield 72, 3) := by decide +kernel
theorem dX11_began_19 : decode cX11_began 19 = .ok (.if_icmp .ge 44, 3) := by decide +kernel
theorem dX11_began_22 : decode cX11_began 22 = .ok (.aload_n 0, 1) := by decide +kernel
theorem dX11_began_23 : decode cX11_began 23 = .ok (.invokevirtual 160, 3) := by decide +kernel
theorem dX11_began_26 : decode cX11_began 26 = .ok (.aload_n 0, 1) := by decide +kernel
theorem dX11_began_27 : decode cX11_began 27 = .ok (.getfield 49, 3) := by decide +kernel
theorem dX11_began_30 : decode cX11_began 30 = .ok (.bipush 17, 2) := by decide +kernel
theorem dX11_began_32 : decode cX11_began 32 = .ok (.iload_n 1, 1) := by decide +kernel
theorem dX11_began_33 : decode cX11_began 33 = .ok (.iadd, 1) := by decide +kernel
theorem dX11_began_34 : decode cX11_began 34 = .ok (.iconst 1, 1) := by decide +kernel
theorem dX11_began_35 : decode cX11_began 35 = .ok (.iload_n 3, 1) := by decide +kernel
theorem dX11_began_36 : decode cX11_began 36 = .ok (.ishl, 1) := by decide +kernel
theorem dX11_began_37 : decode cX11_began 37 = .ok (.iastore, 1) := by decide +kernel
theorem dX11_began_38 : decode cX11_began 38 = .ok (.iload_n 2, 1) := by decide +kernel
theorem dX11_began_39 : decode cX11_began 39 = .ok (.aload_n 0, 1) := by decide +kernel
theorem dX11_began_40 : decode cX11_began 40 = .ok (.iload_n 1, 1) := by decide +kernel
theorem dX11_began_41 : decode cX11_began 41 = .ok (.iconst (-1), 1) := by decide +kernel
theorem dX11_began_42 : decode cX11_began 42 = .ok (.invokevirtual 241, 3) := by decide +kernel
theorem dX11_began_45 : decode cX11_began 45 = .ok (.ifCond .eq 9, 3) := by decide +kernel
theorem dX11_began_48 : decode cX11_began 48 = .ok (.iconst 1, 1) := by decide +kernel
theorem dX11_began_49 : decode cX11_began 49 = .ok (.iload_n 3, 1) := by decide +kernel
theorem dX11_began_50 : decode cX11_began 50 = .ok (.ishl, 1) := by decide +kernel
theorem dX11_began_51 : decode cX11_began 51 = .ok (.goto 4, 3) := by decide +kernel
theorem dX11_began_54 : decode cX11_began 54 = .ok (.iconst 0, 1) := by decide +kernel
theorem dX11_began_55 : decode cX11_began 55 = .ok (.ior, 1) := by decide +kernel
theorem dX11_began_56 : decode cX11_began 56 = .ok (.istore_n 2, 1) := by decide +kernel
theorem dX11_began_57 : decode cX11_began 57 = .ok (.iinc 3 1, 3) := by decide +kernel
theorem dX11_began_60 : decode cX11_began 60 = .ok (.goto (-46), 3) := by decide +kernel
theorem dX11_began_63 : decode cX11_began 63 = .ok (.iload_n 2, 1) := by decide +kernel
theorem dX11_began_64 : decode cX11_began 64 = .ok (.ireturn, 1) := by decide +kernel
theorem dX11_blew_0 : decode cX11_blew 0 = .ok (.iconst 0, 1) := by decide +kernel
theorem dX11_blew_1 : decode cX11_blew 1 = .ok (.istore_n 1, 1) := by decide +kernel
theorem dX11_blew_2 : decode cX11_blew 2 = .ok (.iconst 0, 1) := by decide +kernel
theorem dX11_blew_3 : decode cX11_blew 3 = .ok (.istore_n 2, 1) := by decide +kernel
theorem dX11_blew_4 : decode cX11_blew 4 = .ok (.iload_n 2, 1) := by decide +kernel
theorem dX11_blew_5 : decode cX11_blew 5 = .ok (.iconst 4, 1) := by decide +kernel
theorem dX11_blew_6 : decode cX11_blew 6 = .ok (.if_icmp .gt 32, 3) := by decide +kernel
theorem dX11_blew_9 : decode cX11_blew 9 = .ok (.aload_n 0, 1) := by decide +kernel
theorem dX11_blew_10 : decode cX11_blew 10 = .ok (.invokevirtual 160, 3) := by decide +kernel
theorem dX11_blew_13 : decode cX11_blew 13 = .ok (.iload_n 1, 1) := by decide +kernel
theorem dX11_blew_14 : decode cX11_blew 14 = .ok (.aload_n 0, 1) := by decide +kernel
theorem dX11_blew_15 : decode cX11_blew 15 = .ok (.iconst (-1), 1) := by decide +kernel
theorem dX11_blew_16 : decode cX11_blew 16 = .ok (.iload_n 2, 1) := by decide +kernel
theorem dX11_blew_17 : decode cX11_blew 17 = .ok (.invokevirtual 241, 3) := by decide +kernel
theorem dX11_blew_20 : decode cX11_blew 20 = .ok (.ifCond .eq 9, 3) := by decide +kernel
theorem dX11_blew_23 : decode cX11_blew 23 = .ok (.iconst 1, 1) := by decide +kernel
theorem dX11_blew_24 : decode cX11_blew 24 = .ok (.iload_n 2, 1) := by decide +kernel
theorem dX11_blew_25 : decode cX11_blew 25 = .ok (.ishl, 1) := by decide +kernel
theorem dX11_blew_26 : decode cX11_blew 26 = .ok (.goto 4, 3) := by decide +kernel
theorem dX11_blew_29 : decode cX11_blew 29 = .ok (.iconst 0, 1) := by decide +kernel
theorem dX11_blew_30 : decode cX11_blew 30 = .ok (.ior, 1) := by decide +kernel
theorem dX11_blew_31 : decode cX11_blew 31 = .ok (.istore_n 1, 1) := by decide +kernel
theorem dX11_blew_32 : decode cX11_blew 32 = .ok (.iinc 2 1, 3) := by decide +kernel
theorem dX11_blew_35 : decode cX11_blew 35 = .ok (.goto (-31), 3) := by decide +kernel
theorem dX11_blew_38 : decode cX11_blew 38 = .ok (.iload_n 1, 1) := by decide +kernel
theorem dX11_blew_39 : decode cX11_blew 39 = .ok (.ireturn, 1) := by decide +kernel
theorem dX11_gusts_0 : decode cX11_gusts 0 = .ok (.aload_n 0, 1) := by decide +kernel
theorem dX11_gusts_1 : decode cX11_gusts 1 = .ok (.iload_n 1, 1) := by decide +kernel
theorem dX11_gusts_2 : decode cX11_gusts 2 = .ok (.invokevirtual 188, 3) := by decide +kernel
theorem dX11_gusts_5 : decode cX11_gusts 5 = .ok (.ifCond .eq 30, 3) := by decide +kernel
theorem dX11_gusts_8 : decode cX11_gusts 8 = .ok (.aload_n 0, 1) := by decide +kernel
theorem dX11_gusts_9 : decode cX11_gusts 9 = .ok (.iload_n 2, 1) := by decide +kernel
theorem dX11_gusts_10 : decode cX11_gusts 10 = .ok (.invokevirtual 194, 3) := by decide +kernel
theorem dX11_gusts_13 : decode cX11_gusts 13 = .ok (.ifCond .eq 22, 3) := by decide +kernel
theorem dX11_gusts_16 : decode cX11_gusts 16 = .ok (.iload_n 3, 1) := by decide +kernel
theorem dX11_gusts_17 : decode cX11_gusts 17 = .ok (.iconst 0, 1) := by decide +kernel
theorem dX11_gusts_18 : decode cX11_gusts 18 = .ok (.iconst 4, 1) := by decide +kernel
theorem dX11_gusts_19 : decode cX11_gusts 19 = .ok (.invokestatic 75, 3) := by decide +kernel
theorem dX11_gusts_22 : decode cX11_gusts 22 = .ok (.ifCond .eq 13, 3) := by decide +kernel
theorem dX11_gusts_25 : decode cX11_gusts 25 = .ok (.iload 4, 2) := by decide +kernel
theorem dX11_gusts_27 : decode cX11_gusts 27 = .ok (.iconst 0, 1) := by decide +kernel
theorem dX11_gusts_28 : decode cX11_gusts 28 = .ok (.iconst 1, 1) := by decide +kernel
theorem dX11_gusts_29 : decode cX11_gusts 29 = .ok (.invokestatic 75, 3) := by decide +kernel
theorem dX11_gusts_32 : decode cX11_gusts 32 = .ok (.ifCond .ne 5, 3) := by decide +kernel
theorem dX11_gusts_35 : decode cX11_gusts 35 = .ok (.iconst (-1), 1) := by decide +kernel
theorem dX11_gusts_36 : decode cX11_gusts 36 = .ok (.ireturn, 1) := by decide +kernel
theorem dX11_gusts_37 : decode cX11_gusts 37 = .ok (.iconst 1, 1) := by decide +kernel
theorem dX11_gusts_38 : decode cX11_gusts 38 = .ok (.iconst 2, 1) := by decide +kernel
theorem dX11_gusts_39 : decode cX11_gusts 39 = .ok (.iload_n 3, 1) := by decide +kernel
theorem dX11_gusts_40 : decode cX11_gusts 40 = .ok (.imul, 1) := by decide +kernel
theorem dX11_gusts_41 : decode cX11_gusts 41 = .ok (.ishl, 1) := by decide +kernel
theorem dX11_gusts_42 : decode cX11_gusts 42 = .ok (.istore 5, 2) := by decide +kernel
theorem dX11_gusts_44 : decode cX11_gusts 44 = .ok (.iconst 0, 1) := by decide +kernel
theorem dX11_gusts_45 : decode cX11_gusts 45 = .ok (.istore 6, 2) := by decide +kernel
theorem dX11_gusts_47 : decode cX11_gusts 47 = .ok (.iconst 0, 1) := by decide +kernel
theorem dX11_gusts_48 : decode cX11_gusts 48 = .ok (.istore 7, 2) := by decide +kernel
theorem dX11_gusts_50 : decode cX11_gusts 50 = .ok (.iload 7, 2) := by decide +kernel
theorem dX11_gusts_52 : decode cX11_gusts 52 = .ok (.iload 5, 2) := by decide +kernel
theorem dX11_gusts_54 : decode cX11_gusts 54 = .ok (.if_icmp .ge 70, 3) := by decide +kernel
theorem dX11_gusts_57 : decode cX11_gusts 57 = .ok (.aload_n 0, 1) := by decide +kernel
theorem dX11_gusts_58 : decode cX11_gusts 58 = .ok (.iload_n 2, 1) := by decide +kernel
theorem dX11_gusts_59 : decode cX11_gusts 59 = .ok (.invokevirtual 206, 3) := by decide +kernel
theorem dX11_gusts_62 : decode cX11_gusts 62 = .ok (.iconst 0, 1) := by decide +kernel
theorem dX11_gusts_63 : decode cX11_gusts 63 = .ok (.istore 8, 2) := by decide +kernel
theorem dX11_gusts_65 : decode cX11_gusts 65 = .ok (.iload 8, 2) := by decide +kernel
theorem dX11_gusts_67 : decode cX11_gusts 67 = .ok (.iload_n 3, 1) := by decide +kernel
theorem dX11_gusts_68 : decode cX11_gusts 68 = .ok (.if_icmp .ge 24, 3) := by decide +kernel
theorem dX11_gusts_71 : decode cX11_gusts 71 = .ok (.aload_n 0, 1) := by decide +kernel
theorem dX11_gusts_72 : decode cX11_gusts 72 = .ok (.iconst 1, 1) := by decide +kernel
theorem dX11_gusts_73 : decode cX11_gusts 73 = .ok (.iload 7, 2) := by decide +kernel
theorem dX11_gusts_75 : decode cX11_gusts 75 = .ok (.iconst 2, 1) := by decide +kernel
theorem dX11_gusts_76 : decode cX11_gusts 76 = .ok (.iload 8, 2) := by decide +kernel
theorem dX11_gusts_78 : decode cX11_gusts 78 = .ok (.imul, 1) := by decide +kernel
theorem dX11_gusts_79 : decode cX11_gusts 79 = .ok (.ishr, 1) := by decide +kernel
theorem dX11_gusts_80 : decode cX11_gusts 80 = .ok (.iconst 3, 1) := by decide +kernel
theorem dX11_gusts_81 : decode cX11_gusts 81 = .ok (.iand, 1) := by decide +kernel
theorem dX11_gusts_82 : decode cX11_gusts 82 = .ok (.iadd, 1) := by decide +kernel
theorem dX11_gusts_83 : decode cX11_gusts 83 = .ok (.invokevirtual 184, 3) := by decide +kernel
theorem dX11_gusts_86 : decode cX11_gusts 86 = .ok (.iinc 8 1, 3) := by decide +kernel
theorem dX11_gusts_89 : decode cX11_gusts 89 = .ok (.goto (-24), 3) := by decide +kernel
theorem dX11_gusts_92 : decode cX11_gusts 92 = .ok (.iload 6, 2) := by decide +kernel
theorem dX11_gusts_94 : decode cX11_gusts 94 = .ok (.aload_n 0, 1) := by decide +kernel
theorem dX11_gusts_95 : decode cX11_gusts 95 = .ok (.getfield 49, 3) := by decide +kernel
theorem dX11_gusts_98 : decode cX11_gusts 98 = .ok (.bipush 17, 2) := by decide +kernel
theorem dX11_gusts_100 : decode cX11_gusts 100 = .ok (.iload_n 2, 1) := by decide +kernel
theorem dX11_gusts_101 : decode cX11_gusts 101 = .ok (.iadd, 1) := by decide +kernel
theorem dX11_gusts_102 : decode cX11_gusts 102 = .ok (.iaload, 1) := by decide +kernel
theorem dX11_gusts_103 : decode cX11_gusts 103 = .ok (.iload_n 1, 1) := by decide +kernel
theorem dX11_gusts_104 : decode cX11_gusts 104 = .ok (.invokestatic 167, 3) := by decide +kernel
theorem dX11_gusts_107 : decode cX11_gusts 107 = .ok (.ifCond .eq 7, 3) := by decide +kernel
theorem dX11_gusts_110 : decode cX11_gusts 110 = .ok (.iconst 1, 1) := by decide +kernel
theorem dX11_gusts_111 : decode cX11_gusts 111 = .ok (.goto 4, 3) := by decide +kernel
theorem dX11_gusts_114 : decode cX11_gusts 114 = .ok (.iconst 0, 1) := by decide +kernel
theorem dX11_gusts_115 : decode cX11_gusts 115 = .ok (.iadd, 1) := by decide +kernel
theorem dX11_gusts_116 : decode cX11_gusts 116 = .ok (.istore 6, 2) := by decide +kernel
theorem dX11_gusts_118 : decode cX11_gusts 118 = .ok (.iinc 7 1, 3) := by decide +kernel
theorem dX11_gusts_121 : decode cX11_gusts 121 = .ok (.goto (-71), 3) := by decide +kernel
theorem dX11_gusts_124 : decode cX11_gusts 124 = .ok (.iload 6, 2) := by decide +kernel
theorem dX11_gusts_126 : decode cX11_gusts 126 = .ok (.istore 7, 2) := by decide +kernel
theorem dX11_gusts_128 : decode cX11_gusts 128 = .ok (.iload 5, 2) := by decide +kernel
theorem dX11_gusts_130 : decode cX11_gusts 130 = .ok (.istore 8, 2) := by decide +kernel
theorem dX11_gusts_132 : decode cX11_gusts 132 = .ok (.iload 8, 2) := by decide +kernel
theorem dX11_gusts_134 : decode cX11_gusts 134 = .ok (.ifCond .le 21, 3) := by decide +kernel
theorem dX11_gusts_137 : decode cX11_gusts 137 = .ok (.iload 7, 2) := by decide +kernel
theorem dX11_gusts_139 : decode cX11_gusts 139 = .ok (.iload 8, 2) := by decide +kernel
theorem dX11_gusts_141 : decode cX11_gusts 141 = .ok (.irem, 1) := by decide +kernel
theorem dX11_gusts_142 : decode cX11_gusts 142 = .ok (.istore 9, 2) := by decide +kernel
theorem dX11_gusts_144 : decode cX11_gusts 144 = .ok (.iload 8, 2) := by decide +kernel
theorem dX11_gusts_146 : decode cX11_gusts 146 = .ok (.istore 7, 2) := by decide +kernel
theorem dX11_gusts_148 : decode cX11_gusts 148 = .ok (.iload 9, 2) := by decide +kernel
theorem dX11_gusts_150 : decode cX11_gusts 150 = .ok (.istore 8, 2) := by decide +kernel
theorem dX11_gusts_152 : decode cX11_gusts 152 = .ok (.goto (-20), 3) := by decide +kernel
theorem dX11_gusts_155 : decode cX11_gusts 155 = .ok (.iload 4, 2) := by decide +kernel
theorem dX11_gusts_157 : decode cX11_gusts 157 = .ok (.ifCond .ne 8, 3) := by decide +kernel
theorem dX11_gusts_160 : decode cX11_gusts 160 = .ok (.iload 6, 2) := by decide +kernel
theorem dX11_gusts_162 : decode cX11_gusts 162 = .ok (.goto 5, 3) := by decide +kernel
theorem dX11_gusts_165 : decode cX11_gusts 165 = .ok (.iload 5, 2) := by decide +kernel
theorem dX11_gusts_167 : decode cX11_gusts 167 = .ok (.iload 7, 2) := by decide +kernel
theorem dX11_gusts_169 : decode cX11_gusts 169 = .ok (.idiv, 1) := by decide +kernel
theorem dX11_gusts_170 : decode cX11_gusts 170 = .ok (.ireturn, 1) := by decide +kernel
theorem dX11_knowers_0 : decode cX11_knowers 0 = .ok (.iconst 0, 1) := by decide +kernel
theorem dX11_knowers_1 : decode cX11_knowers 1 = .ok (.istore_n 1, 1) := by decide +kernel
theorem dX11_knowers_2 : decode cX11_knowers 2 = .ok (.iconst 0, 1) := by decide +kernel
theorem dX11_knowers_3 : decode cX11_knowers 3 = .ok (.istore_n 2, 1) := by decide +kernel
theorem dX11_knowers_4 : decode cX11_knowers 4 = .ok (.iload_n 2, 1) := by decide +kernel
theorem dX11_knowers_5 : decode cX11_knowers 5 = .ok (.aload_n 0, 1) := by decide +kernel
theorem dX11_knowers_6 : decode cX11_knowers 6 = .ok (.getfield 79, 3) := by decide +kernel
theorem dX11_knowers_9 : decode cX11_knowers 9 = .ok (.if_icmp .ge 21, 3) := by decide +kernel
theorem dX11_knowers_12 : decode cX11_knowers 12 = .ok (.iload_n 1, 1) := by decide +kernel
theorem dX11_knowers_13 : decode cX11_knowers 13 = .ok (.aload_n 0, 1) := by decide +kernel
theorem dX11_knowers_14 : decode cX11_knowers 14 = .ok (.getfield 49, 3) := by decide +kernel
theorem dX11_knowers_17 : decode cX11_knowers 17 = .ok (.bipush 17, 2) := by decide +kernel
theorem dX11_knowers_19 : decode cX11_knowers 19 = .ok (.iload_n 2, 1) := by decide +kernel
theorem dX11_knowers_20 : decode cX11_knowers 20 = .ok (.iadd, 1) := by decide +kernel
theorem dX11_knowers_21 : decode cX11_knowers 21 = .ok (.iaload, 1) := by decide +kernel
theorem dX11_knowers_22 : decode cX11_knowers 22 = .ok (.ior, 1) := by decide +kernel
theorem dX11_knowers_23 : decode cX11_knowers 23 = .ok (.istore_n 1, 1) := by decide +kernel
theorem dX11_knowers_24 : decode cX11_knowers 24 = .ok (.iinc 2 1, 3) := by decide +kernel
theorem dX11_knowers_27 : decode cX11_knowers 27 = .ok (.goto (-23), 3) := by decide +kernel
theorem dX11_knowers_30 : decode cX11_knowers 30 = .ok (.iload_n 1, 1) := by decide +kernel
theorem dX11_knowers_31 : decode cX11_knowers 31 = .ok (.invokestatic 197, 3) := by decide +kernel
theorem dX11_knowers_34 : decode cX11_knowers 34 = .ok (.ireturn, 1) := by decide +kernel
theorem dX11_allKnown_0 : decode cX11_allKnown 0 = .ok (.iconst 0, 1) := by decide +kernel
theorem dX11_allKnown_1 : decode cX11_allKnown 1 = .ok (.istore_n 1, 1) := by decide +kernel
theorem dX11_allKnown_2 : decode cX11_allKnown 2 = .ok (.iconst 0, 1) := by decide +kernel
theorem dX11_allKnown_3 : decode cX11_allKnown 3 = .ok (.istore_n 2, 1) := by decide +kernel
theorem dX11_allKnown_4 : decode cX11_allKnown 4 = .ok (.iload_n 2, 1) := by decide +kernel
theorem dX11_allKnown_5 : decode cX11_allKnown 5 = .ok (.aload_n 0, 1) := by decide +kernel
theorem dX11_allKnown_6 : decode cX11_allKnown 6 = .ok (.getfield 79, 3) := by decide +kernel
theorem dX11_allKnown_9 : decode cX11_allKnown 9 = .ok (.if_icmp .ge 24, 3) := by decide +kernel
theorem dX11_allKnown_12 : decode cX11_allKnown 12 = .ok (.iload_n 1, 1) := by decide +kernel
theorem dX11_allKnown_13 : decode cX11_allKnown 13 = .ok (.aload_n 0, 1) := by decide +kernel
theorem dX11_allKnown_14 : decode cX11_allKnown 14 = .ok (.getfield 49, 3) := by decide +kernel
theorem dX11_allKnown_17 : decode cX11_allKnown 17 = .ok (.bipush 17, 2) := by decide +kernel
theorem dX11_allKnown_19 : decode cX11_allKnown 19 = .ok (.iload_n 2, 1) := by decide +kernel
theorem dX11_allKnown_20 : decode cX11_allKnown 20 = .ok (.iadd, 1) := by decide +kernel
theorem dX11_allKnown_21 : decode cX11_allKnown 21 = .ok (.iaload, 1) := by decide +kernel
theorem dX11_allKnown_22 : decode cX11_allKnown 22 = .ok (.invokestatic 197, 3) := by decide +kernel
theorem dX11_allKnown_25 : decode cX11_allKnown 25 = .ok (.iadd, 1) := by decide +kernel
theorem dX11_allKnown_26 : decode cX11_allKnown 26 = .ok (.istore_n 1, 1) := by decide +kernel
theorem dX11_allKnown_27 : decode cX11_allKnown 27 = .ok (.iinc 2 1, 3) := by decide +kernel
theorem dX11_allKnown_30 : decode cX11_allKnown 30 = .ok (.goto (-26), 3) := by decide +kernel
theorem dX11_allKnown_33 : decode cX11_allKnown 33 = .ok (.iload_n 1, 1) := by decide +kernel
theorem dX11_allKnown_34 : decode cX11_allKnown 34 = .ok (.ireturn, 1) := by decide +kernel
theorem dX11_year_0 : decode cX11_year 0 = .ok (.iload_n 1, 1) := by decide +kernel
theorem dX11_year_1 : decode cX11_year 1 = .ok (.iconst 0, 1) := by decide +kernel
theorem dX11_year_2 : decode cX11_year 2 = .ok (.sipush 9999, 3) := by decide +kernel
theorem dX11_year_5 : decode cX11_year 5 = .ok (.invokestatic 75, 3) := by decide +kernel
theorem dX11_year_8 : decode cX11_year 8 = .ok (.ifCond .eq 22, 3) := by decide +kernel
theorem dX11_year_11 : decode cX11_year 11 = .ok (.iload_n 2, 1) := by decide +kernel
theorem dX11_year_12 : decode cX11_year 12 = .ok (.iconst 1, 1) := by decide +kernel
theorem dX11_year_13 : decode cX11_year 13 = .ok (.bipush 60, 2) := by decide +kernel
theorem dX11_year_15 : decode cX11_year 15 = .ok (.invokestatic 75, 3) := by decide +kernel
theorem dX11_year_18 : decode cX11_year 18 = .ok (.ifCond .eq 12, 3) := by decide +kernel
theorem dX11_year_21 : decode cX11_year 21 = .ok (.iload_n 3, 1) := by decide +kernel
theorem dX11_year_22 : decode cX11_year 22 = .ok (.iconst 0, 1) := by decide +kernel
theorem dX11_year_23 : decode cX11_year 23 = .ok (.iconst 1, 1) := by decide +kernel
theorem dX11_year_24 : decode cX11_year 24 = .ok (.invokestatic 75, 3) := by decide +kernel
theorem dX11_year_27 : decode cX11_year 27 = .ok (.ifCond .ne 5, 3) := by decide +kernel
theorem dX11_year_30 : decode cX11_year 30 = .ok (.iconst (-1), 1) := by decide +kernel
theorem dX11_year_31 : decode cX11_year 31 = .ok (.ireturn, 1) := by decide +kernel
theorem dX11_year_32 : decode cX11_year 32 = .ok (.aload_n 0, 1) := by decide +kernel
theorem dX11_year_33 : decode cX11_year 33 = .ok (.invokevirtual 160, 3) := by decide +kernel
theorem dX11_year_36 : decode cX11_year 36 = .ok (.aload_n 0, 1) := by decide +kernel
theorem dX11_year_37 : decode cX11_year 37 = .ok (.invokevirtual 244, 3) := by decide +kernel
theorem dX11_year_40 : decode cX11_year 40 = .ok (.istore 4, 2) := by decide +kernel
theorem dX11_year_42 : decode cX11_year 42 = .ok (.iconst 0, 1) := by decide +kernel
theorem dX11_year_43 : decode cX11_year 43 = .ok (.istore 5, 2) := by decide +kernel
theorem dX11_year_45 : decode cX11_year 45 = .ok (.iload 5, 2) := by decide +kernel
theorem dX11_year_47 : decode cX11_year 47 = .ok (.iload_n 2, 1) := by decide +kernel
theorem dX11_year_48 : decode cX11_year 48 = .ok (.if_icmp .ge 70, 3) := by decide +kernel
theorem dX11_year_51 : decode cX11_year 51 = .ok (.ldc2_w 247, 3) := by decide +kernel
theorem dX11_year_54 : decode cX11_year 54 = .ok (.iload_n 1, 1) := by decide +kernel
theorem dX11_year_55 : decode cX11_year 55 = .ok (.i2l, 1) := by decide +kernel
theorem dX11_year_56 : decode cX11_year 56 = .ok (.lmul, 1) := by decide +kernel
theorem dX11_year_57 : decode cX11_year 57 = .ok (.ldc2_w 249, 3) := by decide +kernel
theorem dX11_year_60 : decode cX11_year 60 = .ok (.iload 5, 2) := by decide +kernel
theorem dX11_year_62 : decode cX11_year 62 = .ok (.i2l, 1) := by decide +kernel
theorem dX11_year_63 : decode cX11_year 63 = .ok (.lmul, 1) := by decide +kernel
theorem dX11_year_64 : decode cX11_year 64 = .ok (.ladd, 1) := by decide +kernel
theorem dX11_year_65 : decode cX11_year 65 = .ok (.lconst 1, 1) := by decide +kernel
theorem dX11_year_66 : decode cX11_year 66 = .ok (.ladd, 1) := by decide +kernel
theorem dX11_year_67 : decode cX11_year 67 = .ok (.lstore 6, 2) := by decide +kernel
theorem dX11_year_69 : decode cX11_year 69 = .ok (.lload 6, 2) := by decide +kernel
theorem dX11_year_71 : decode cX11_year 71 = .ok (.lload 6, 2) := by decide +kernel
theorem dX11_year_73 : decode cX11_year 73 = .ok (.lmul, 1) := by decide +kernel
theorem dX11_year_74 : decode cX11_year 74 = .ok (.ldc2_w 251, 3) := by decide +kernel
theorem dX11_year_77 : decode cX11_year 77 = .ok (.lrem, 1) := by decide +kernel
theorem dX11_year_78 : decode cX11_year 78 = .ok (.ldc2_w 253, 3) := by decide +kernel
theorem dX11_year_81 : decode cX11_year 81 = .ok (.ldiv, 1) := by decide +kernel
theorem dX11_year_82 : decode cX11_year 82 = .ok (.l2i, 1) := by decide +kernel
theorem dX11_year_83 : decode cX11_year 83 = .ok (.istore 8, 2) := by decide +kernel
theorem dX11_year_85 : decode cX11_year 85 = .ok (.aload_n 0, 1) := by decide +kernel
theorem dX11_year_86 : decode cX11_year 86 = .ok (.getfield 49, 3) := by decide +kernel
theorem dX11_year_89 : decode cX11_year 89 = .ok (.iconst 1, 1) := by decide +kernel
theorem dX11_year_90 : decode cX11_year 90 = .ok (.iload 8, 2) := by decide +kernel
theorem dX11_year_92 : decode cX11_year 92 = .ok (.aload_n 0, 1) := by decide +kernel
theorem dX11_year_93 : decode cX11_year 93 = .ok (.getfield 72, 3) := by decide +kernel
theorem dX11_year_96 : decode cX11_year 96 = .ok (.irem, 1) := by decide +kernel
theorem dX11_year_97 : decode cX11_year 97 = .ok (.iadd, 1) := by decide +kernel
theorem dX11_year_98 : decode cX11_year 98 = .ok (.iload 8, 2) := by decide +kernel
theorem dX11_year_100 : decode cX11_year 100 = .ok (.bipush 16, 2) := by decide +kernel
theorem dX11_year_102 : decode cX11_year 102 = .ok (.idiv, 1) := by decide +kernel
theorem dX11_year_103 : decode cX11_year 103 = .ok (.bipush 7, 2) := by decide +kernel
theorem dX11_year_105 : decode cX11_year 105 = .ok (.irem, 1) := by decide +kernel
theorem dX11_year_106 : decode cX11_year 106 = .ok (.iastore, 1) := by decide +kernel
theorem dX11_year_107 : decode cX11_year 107 = .ok (.aload_n 0, 1) := by decide +kernel
theorem dX11_year_108 : decode cX11_year 108 = .ok (.iconst 1, 1) := by decide +kernel
theorem dX11_year_109 : decode cX11_year 109 = .ok (.invokevirtual 203, 3) := by decide +kernel
theorem dX11_year_112 : decode cX11_year 112 = .ok (.iinc 5 1, 3) := by decide +kernel
theorem dX11_year_115 : decode cX11_year 115 = .ok (.goto (-70), 3) := by decide +kernel
theorem dX11_year_118 : decode cX11_year 118 = .ok (.iload_n 3, 1) := by decide +kernel
theorem dX11_year_119 : decode cX11_year 119 = .ok (.ifCond .ne 10, 3) := by decide +kernel
theorem dX11_year_122 : decode cX11_year 122 = .ok (.aload_n 0, 1) := by decide +kernel
theorem dX11_year_123 : decode cX11_year 123 = .ok (.invokevirtual 255, 3) := by decide +kernel
theorem dX11_year_126 : decode cX11_year 126 = .ok (.goto 10, 3) := by decide +kernel
theorem dX11_year_129 : decode cX11_year 129 = .ok (.aload_n 0, 1) := by decide +kernel
theorem dX11_year_130 : decode cX11_year 130 = .ok (.invokevirtual 244, 3) := by decide +kernel
theorem dX11_year_133 : decode cX11_year 133 = .ok (.iload 4, 2) := by decide +kernel
theorem dX11_year_135 : decode cX11_year 135 = .ok (.isub, 1) := by decide +kernel
theorem dX11_year_136 : decode cX11_year 136 = .ok (.ireturn, 1) := by decide +kernel
theorem dX11_keep_0 : decode cX11_keep 0 = .ok (.aload_n 0, 1) := by decide +kernel
theorem dX11_keep_1 : decode cX11_keep 1 = .ok (.getfield 151, 3) := by decide +kernel
theorem dX11_keep_4 : decode cX11_keep 4 = .ok (.iconst 2, 1) := by decide +kernel
theorem dX11_keep_5 : decode cX11_keep 5 = .ok (.if_icmp .ne 6, 3) := by decide +kernel
theorem dX11_keep_8 : decode cX11_keep 8 = .ok (.bipush (-3), 2) := by decide +kernel
theorem dX11_keep_10 : decode cX11_keep 10 = .ok (.ireturn, 1) := by decide +kernel
theorem dX11_keep_11 : decode cX11_keep 11 = .ok (.aload_n 0, 1) := by decide +kernel
theorem dX11_keep_12 : decode cX11_keep 12 = .ok (.getfield 25, 3) := by decide +kernel
theorem dX11_keep_15 : decode cX11_keep 15 = .ok (.bipush 22, 2) := by decide +kernel
theorem dX11_keep_17 : decode cX11_keep 17 = .ok (.aload_n 0, 1) := by decide +kernel
theorem dX11_keep_18 : decode cX11_keep 18 = .ok (.getfield 151, 3) := by decide +kernel
theorem dX11_keep_21 : decode cX11_keep 21 = .ok (.imul, 1) := by decide +kernel
theorem dX11_keep_22 : decode cX11_keep 22 = .ok (.aload_n 0, 1) := by decide +kernel
theorem dX11_keep_23 : decode cX11_keep 23 = .ok (.getfield 19, 3) := by decide +kernel
theorem dX11_keep_26 : decode cX11_keep 26 = .ok (.iconst 0, 1) := by decide +kernel
theorem dX11_keep_27 : decode cX11_keep 27 = .ok (.bipush 22, 2) := by decide +kernel
theorem dX11_keep_29 : decode cX11_keep 29 = .ok (.invokestatic 141, 3) := by decide +kernel
theorem dX11_keep_32 : decode cX11_keep 32 = .ok (.aload_n 0, 1) := by decide +kernel
theorem dX11_keep_33 : decode cX11_keep 33 = .ok (.dup, 1) := by decide +kernel
theorem dX11_keep_34 : decode cX11_keep 34 = .ok (.getfield 151, 3) := by decide +kernel
theorem dX11_keep_37 : decode cX11_keep 37 = .ok (.iconst 1, 1) := by decide +kernel
theorem dX11_keep_38 : decode cX11_keep 38 = .ok (.iadd, 1) := by decide +kernel
theorem dX11_keep_39 : decode cX11_keep 39 = .ok (.putfield 151, 3) := by decide +kernel
theorem dX11_keep_42 : decode cX11_keep 42 = .ok (.aload_n 0, 1) := by decide +kernel
theorem dX11_keep_43 : decode cX11_keep 43 = .ok (.getfield 151, 3) := by decide +kernel
theorem dX11_keep_46 : decode cX11_keep 46 = .ok (.ireturn, 1) := by decide +kernel
theorem dX11_back_0 : decode cX11_back 0 = .ok (.aload_n 0, 1) := by decide +kernel
theorem dX11_back_1 : decode cX11_back 1 = .ok (.getfield 151, 3) := by decide +kernel
theorem dX11_back_4 : decode cX11_back 4 = .ok (.ifCond .ne 6, 3) := by decide +kernel
theorem dX11_back_7 : decode cX11_back 7 = .ok (.bipush (-2), 2) := by decide +kernel
theorem dX11_back_9 : decode cX11_back 9 = .ok (.ireturn, 1) := by decide +kernel
theorem dX11_back_10 : decode cX11_back 10 = .ok (.aload_n 0, 1) := by decide +kernel
theorem dX11_back_11 : decode cX11_back 11 = .ok (.dup, 1) := by decide +kernel
theorem dX11_back_12 : decode cX11_back 12 = .ok (.getfield 151, 3) := by decide +kernel
theorem dX11_back_15 : decode cX11_back 15 = .ok (.iconst 1, 1) := by decide +kernel
theorem dX11_back_16 : decode cX11_back 16 = .ok (.isub, 1) := by decide +kernel
theorem dX11_back_17 : decode cX11_back 17 = .ok (.putfield 151, 3) := by decide +kernel
theorem dX11_back_20 : decode cX11_back 20 = .ok (.aload_n 0, 1) := by decide +kernel
theorem dX11_back_21 : decode cX11_back 21 = .ok (.getfield 19, 3) := by decide +kernel
theorem dX11_back_24 : decode cX11_back 24 = .ok (.iconst 0, 1) := by decide +kernel
theorem dX11_back_25 : decode cX11_back 25 = .ok (.aload_n 0, 1) := by decide +kernel
theorem dX11_back_26 : decode cX11_back 26 = .ok (.getfield 25, 3) := by decide +kernel
theorem dX11_back_29 : decode cX11_back 29 = .ok (.bipush 22, 2) := by decide +kernel
theorem dX11_back_31 : decode cX11_back 31 = .ok (.aload_n 0, 1) := by decide +kernel
theorem dX11_back_32 : decode cX11_back 32 = .ok (.getfield 151, 3) := by decide +kernel
theorem dX11_back_35 : decode cX11_back 35 = .ok (.imul, 1) := by decide +kernel
theorem dX11_back_36 : decode cX11_back 36 = .ok (.bipush 22, 2) := by decide +kernel
theorem dX11_back_38 : decode cX11_back 38 = .ok (.invokestatic 141, 3) := by decide +kernel
theorem dX11_back_41 : decode cX11_back 41 = .ok (.aload_n 0, 1) := by decide +kernel
theorem dX11_back_42 : decode cX11_back 42 = .ok (.iconst 0, 1) := by decide +kernel
theorem dX11_back_43 : decode cX11_back 43 = .ok (.putfield 148, 3) := by decide +kernel
theorem dX11_back_46 : decode cX11_back 46 = .ok (.aload_n 0, 1) := by decide +kernel
theorem dX11_back_47 : decode cX11_back 47 = .ok (.getfield 151, 3) := by decide +kernel
theorem dX11_back_50 : decode cX11_back 50 = .ok (.ireturn, 1) := by decide +kernel
theorem dX11_count_0 : decode cX11_count 0 = .ok (.aload_n 0, 1) := by decide +kernel
theorem dX11_count_1 : decode cX11_count 1 = .ok (.invokevirtual 160, 3) := by decide +kernel
theorem dX11_count_4 : decode cX11_count 4 = .ok (.iload_n 1, 1) := by decide +kernel
theorem dX11_count_5 : decode cX11_count 5 = .ok (.tableswitch 107 0 9 #[55, 60, 65, 70, 75, 82, 87, 92, 97, 102], 55) := by decide +kernel
theorem dX11_count_60 : decode cX11_count 60 = .ok (.aload_n 0, 1) := by decide +kernel
theorem dX11_count_61 : decode cX11_count 61 = .ok (.getfield 72, 3) := by decide +kernel
theorem dX11_count_64 : decode cX11_count 64 = .ok (.ireturn, 1) := by decide +kernel
theorem dX11_count_65 : decode cX11_count 65 = .ok (.aload_n 0, 1) := by decide +kernel
theorem dX11_count_66 : decode cX11_count 66 = .ok (.getfield 135, 3) := by decide +kernel
theorem dX11_count_69 : decode cX11_count 69 = .ok (.ireturn, 1) := by decide +kernel
theorem dX11_count_70 : decode cX11_count 70 = .ok (.aload_n 0, 1) := by decide +kernel
theorem dX11_count_71 : decode cX11_count 71 = .ok (.getfield 79, 3) := by decide +kernel
theorem dX11_count_74 : decode cX11_count 74 = .ok (.ireturn, 1) := by decide +kernel
theorem dX11_count_75 : decode cX11_count 75 = .ok (.aload_n 0, 1) := by decide +kernel
theorem dX11_count_76 : decode cX11_count 76 = .ok (.getfield 145, 3) := by decide +kernel
theorem dX11_count_79 : decode cX11_count 79 = .ok (.ireturn, 1) := by decide +kernel
theorem dX11_count_80 : decode cX11_count 80 = .ok (.aload_n 0, 1) := by decide +kernel
theorem dX11_count_81 : decode cX11_count 81 = .ok (.getfield 19, 3) := by decide +kernel
theorem dX11_count_84 : decode cX11_count 84 = .ok (.iconst 0, 1) := by decide +kernel
theorem dX11_count_85 : decode cX11_count 85 = .ok (.iaload, 1) := by decide +kernel
theorem dX11_count_86 : decode cX11_count 86 = .ok (.ireturn, 1) := by decide +kernel
theorem dX11_count_87 : decode cX11_count 87 = .ok (.aload_n 0, 1) := by decide +kernel
theorem dX11_count_88 : decode cX11_count 88 = .ok (.invokevirtual 255, 3) := by decide +kernel
theorem dX11_count_91 : decode cX11_count 91 = .ok (.ireturn, 1) := by decide +kernel
theorem dX11_count_92 : decode cX11_count 92 = .ok (.aload_n 0, 1) := by decide +kernel
theorem dX11_count_93 : decode cX11_count 93 = .ok (.getfield 154, 3) := by decide +kernel
theorem dX11_count_96 : decode cX11_count 96 = .ok (.ireturn, 1) := by decide +kernel
theorem dX11_count_97 : decode cX11_count 97 = .ok (.aload_n 0, 1) := by decide +kernel
theorem dX11_count_98 : decode cX11_count 98 = .ok (.getfield 148, 3) := by decide +kernel
theorem dX11_count_101 : decode cX11_count 101 = .ok (.ireturn, 1) := by decide +kernel
theorem dX11_count_102 : decode cX11_count 102 = .ok (.aload_n 0, 1) := by decide +kernel
theorem dX11_count_103 : decode cX11_count 103 = .ok (.getfield 151, 3) := by decide +kernel
theorem dX11_count_106 : decode cX11_count 106 = .ok (.ireturn, 1) := by decide +kernel
theorem dX11_count_107 : decode cX11_count 107 = .ok (.aload_n 0, 1) := by decide +kernel
theorem dX11_count_108 : decode cX11_count 108 = .ok (.getfield 82, 3) := by decide +kernel
theorem dX11_count_111 : decode cX11_count 111 = .ok (.ireturn, 1) := by decide +kernel
theorem dX11_count_112 : decode cX11_count 112 = .ok (.iconst (-1), 1) := by decide +kernel
theorem dX11_count_113 : decode cX11_count 113 = .ok (.ireturn, 1) := by decide +kernel
theorem dJ6_bitCount_0f7a4_0 : decode cJ6_bitCount_0f7a4 0 = .ok (.iload_n 0, 1) := by decide +kernel
theorem dJ6_bitCount_0f7a4_1 : decode cJ6_bitCount_0f7a4 1 = .ok (.iload_n 0, 1) := by decide +kernel
theorem dJ6_bitCount_0f7a4_2 : decode cJ6_bitCount_0f7a4 2 = .ok (.iconst 1, 1) := by decide +kernel
theorem dJ6_bitCount_0f7a4_3 : decode cJ6_bitCount_0f7a4 3 = .ok (.iushr, 1) := by decide +kernel
theorem dJ6_bitCount_0f7a4_4 : decode cJ6_bitCount_0f7a4 4 = .ok (.ldc_w 265, 3) := by decide +kernel
theorem dJ6_bitCount_0f7a4_7 : decode cJ6_bitCount_0f7a4 7 = .ok (.iand, 1) := by decide +kernel
theorem dJ6_bitCount_0f7a4_8 : decode cJ6_bitCount_0f7a4 8 = .ok (.isub, 1) := by decide +kernel
theorem dJ6_bitCount_0f7a4_9 : decode cJ6_bitCount_0f7a4 9 = .ok (.istore_n 0, 1) := by decide +kernel
theorem dJ6_bitCount_0f7a4_10 : decode cJ6_bitCount_0f7a4 10 = .ok (.iload_n 0, 1) := by decide +kernel
theorem dJ6_bitCount_0f7a4_11 : decode cJ6_bitCount_0f7a4 11 = .ok (.ldc_w 266, 3) := by decide +kernel
theorem dJ6_bitCount_0f7a4_14 : decode cJ6_bitCount_0f7a4 14 = .ok (.iand, 1) := by decide +kernel
theorem dJ6_bitCount_0f7a4_15 : decode cJ6_bitCount_0f7a4 15 = .ok (.iload_n 0, 1) := by decide +kernel
theorem dJ6_bitCount_0f7a4_16 : decode cJ6_bitCount_0f7a4 16 = .ok (.iconst 2, 1) := by decide +kernel
theorem dJ6_bitCount_0f7a4_17 : decode cJ6_bitCount_0f7a4 17 = .ok (.iushr, 1) := by decide +kernel
theorem dJ6_bitCount_0f7a4_18 : decode cJ6_bitCount_0f7a4 18 = .ok (.ldc_w 266, 3) := by decide +kernel
theorem dJ6_bitCount_0f7a4_21 : decode cJ6_bitCount_0f7a4 21 = .ok (.iand, 1) := by decide +kernel
theorem dJ6_bitCount_0f7a4_22 : decode cJ6_bitCount_0f7a4 22 = .ok (.iadd, 1) := by decide +kernel
theorem dJ6_bitCount_0f7a4_23 : decode cJ6_bitCount_0f7a4 23 = .ok (.istore_n 0, 1) := by decide +kernel
theorem dJ6_bitCount_0f7a4_24 : decode cJ6_bitCount_0f7a4 24 = .ok (.iload_n 0, 1) := by decide +kernel
theorem dJ6_bitCount_0f7a4_25 : decode cJ6_bitCount_0f7a4 25 = .ok (.iload_n 0, 1) := by decide +kernel
theorem dJ6_bitCount_0f7a4_26 : decode cJ6_bitCount_0f7a4 26 = .ok (.iconst 4, 1) := by decide +kernel
theorem dJ6_bitCount_0f7a4_27 : decode cJ6_bitCount_0f7a4 27 = .ok (.iushr, 1) := by decide +kernel
theorem dJ6_bitCount_0f7a4_28 : decode cJ6_bitCount_0f7a4 28 = .ok (.iadd, 1) := by decide +kernel
theorem dJ6_bitCount_0f7a4_29 : decode cJ6_bitCount_0f7a4 29 = .ok (.ldc_w 267, 3) := by decide +kernel
theorem dJ6_bitCount_0f7a4_32 : decode cJ6_bitCount_0f7a4 32 = .ok (.iand, 1) := by decide +kernel
theorem dJ6_bitCount_0f7a4_33 : decode cJ6_bitCount_0f7a4 33 = .ok (.istore_n 0, 1) := by decide +kernel
theorem dJ6_bitCount_0f7a4_34 : decode cJ6_bitCount_0f7a4 34 = .ok (.iload_n 0, 1) := by decide +kernel
theorem dJ6_bitCount_0f7a4_35 : decode cJ6_bitCount_0f7a4 35 = .ok (.iload_n 0, 1) := by decide +kernel
theorem dJ6_bitCount_0f7a4_36 : decode cJ6_bitCount_0f7a4 36 = .ok (.bipush 8, 2) := by decide +kernel
theorem dJ6_bitCount_0f7a4_38 : decode cJ6_bitCount_0f7a4 38 = .ok (.iushr, 1) := by decide +kernel
theorem dJ6_bitCount_0f7a4_39 : decode cJ6_bitCount_0f7a4 39 = .ok (.iadd, 1) := by decide +kernel
theorem dJ6_bitCount_0f7a4_40 : decode cJ6_bitCount_0f7a4 40 = .ok (.istore_n 0, 1) := by decide +kernel
theorem dJ6_bitCount_0f7a4_41 : decode cJ6_bitCount_0f7a4 41 = .ok (.iload_n 0, 1) := by decide +kernel
theorem dJ6_bitCount_0f7a4_42 : decode cJ6_bitCount_0f7a4 42 = .ok (.iload_n 0, 1) := by decide +kernel
theorem dJ6_bitCount_0f7a4_43 : decode cJ6_bitCount_0f7a4 43 = .ok (.bipush 16, 2) := by decide +kernel
theorem dJ6_bitCount_0f7a4_45 : decode cJ6_bitCount_0f7a4 45 = .ok (.iushr, 1) := by decide +kernel
theorem dJ6_bitCount_0f7a4_46 : decode cJ6_bitCount_0f7a4 46 = .ok (.iadd, 1) := by decide +kernel
theorem dJ6_bitCount_0f7a4_47 : decode cJ6_bitCount_0f7a4 47 = .ok (.istore_n 0, 1) := by decide +kernel
theorem dJ6_bitCount_0f7a4_48 : decode cJ6_bitCount_0f7a4 48 = .ok (.iload_n 0, 1) := by decide +kernel
theorem dJ6_bitCount_0f7a4_49 : decode cJ6_bitCount_0f7a4 49 = .ok (.bipush 63, 2) := by decide +kernel
theorem dJ6_bitCount_0f7a4_51 : decode cJ6_bitCount_0f7a4 51 = .ok (.iand, 1) := by decide +kernel
theorem dJ6_bitCount_0f7a4_52 : decode cJ6_bitCount_0f7a4 52 = .ok (.ireturn, 1) := by decide +kernel
theorem dJ9_floorMod_7cf53_0 : decode cJ9_floorMod_7cf53 0 = .ok (.iload_n 0, 1) := by decide +kernel
theorem dJ9_floorMod_7cf53_1 : decode cJ9_floorMod_7cf53 1 = .ok (.iload_n 1, 1) := by decide +kernel
theorem dJ9_floorMod_7cf53_2 : decode cJ9_floorMod_7cf53 2 = .ok (.irem, 1) := by decide +kernel
theorem dJ9_floorMod_7cf53_3 : decode cJ9_floorMod_7cf53 3 = .ok (.istore_n 2, 1) := by decide +kernel
theorem dJ9_floorMod_7cf53_4 : decode cJ9_floorMod_7cf53 4 = .ok (.iload_n 0, 1) := by decide +kernel
theorem dJ9_floorMod_7cf53_5 : decode cJ9_floorMod_7cf53 5 = .ok (.iload_n 1, 1) := by decide +kernel
theorem dJ9_floorMod_7cf53_6 : decode cJ9_floorMod_7cf53 6 = .ok (.ixor, 1) := by decide +kernel
theorem dJ9_floorMod_7cf53_7 : decode cJ9_floorMod_7cf53 7 = .ok (.ifCond .ge 11, 3) := by decide +kernel
theorem dJ9_floorMod_7cf53_10 : decode cJ9_floorMod_7cf53 10 = .ok (.iload_n 2, 1) := by decide +kernel
theorem dJ9_floorMod_7cf53_11 : decode cJ9_floorMod_7cf53 11 = .ok (.ifCond .eq 7, 3) := by decide +kernel
theorem dJ9_floorMod_7cf53_14 : decode cJ9_floorMod_7cf53 14 = .ok (.iload_n 2, 1) := by decide +kernel
theorem dJ9_floorMod_7cf53_15 : decode cJ9_floorMod_7cf53 15 = .ok (.iload_n 1, 1) := by decide +kernel
theorem dJ9_floorMod_7cf53_16 : decode cJ9_floorMod_7cf53 16 = .ok (.iadd, 1) := by decide +kernel
theorem dJ9_floorMod_7cf53_17 : decode cJ9_floorMod_7cf53 17 = .ok (.ireturn, 1) := by decide +kernel
theorem dJ9_floorMod_7cf53_18 : decode cJ9_floorMod_7cf53 18 = .ok (.iload_n 2, 1) := by decide +kernel
theorem dJ9_floorMod_7cf53_19 : decode cJ9_floorMod_7cf53 19 = .ok (.ireturn, 1) := by decide +kernel
theorem dJ9_max_7cf53_0 : decode cJ9_max_7cf53 0 = .ok (.iload_n 0, 1) := by decide +kernel
theorem dJ9_max_7cf53_1 : decode cJ9_max_7cf53 1 = .ok (.iload_n 1, 1) := by decide +kernel
theorem dJ9_max_7cf53_2 : decode cJ9_max_7cf53 2 = .ok (.if_icmp .lt 7, 3) := by decide +kernel
theorem dJ9_max_7cf53_5 : decode cJ9_max_7cf53 5 = .ok (.iload_n 0, 1) := by decide +kernel
theorem dJ9_max_7cf53_6 : decode cJ9_max_7cf53 6 = .ok (.goto 4, 3) := by decide +kernel
theorem dJ9_max_7cf53_9 : decode cJ9_max_7cf53 9 = .ok (.iload_n 1, 1) := by decide +kernel
theorem dJ9_max_7cf53_10 : decode cJ9_max_7cf53 10 = .ok (.ireturn, 1) := by decide +kernel
theorem dJ9_min_7cf53_0 : decode cJ9_min_7cf53 0 = .ok (.iload_n 0, 1) := by decide +kernel
theorem dJ9_min_7cf53_1 : decode cJ9_min_7cf53 1 = .ok (.iload_n 1, 1) := by decide +kernel
theorem dJ9_min_7cf53_2 : decode cJ9_min_7cf53 2 = .ok (.if_icmp .gt 7, 3) := by decide +kernel
theorem dJ9_min_7cf53_5 : decode cJ9_min_7cf53 5 = .ok (.iload_n 0, 1) := by decide +kernel
theorem dJ9_min_7cf53_6 : decode cJ9_min_7cf53 6 = .ok (.goto 4, 3) := by decide +kernel
theorem dJ9_min_7cf53_9 : decode cJ9_min_7cf53 9 = .ok (.iload_n 1, 1) := by decide +kernel
theorem dJ9_min_7cf53_10 : decode cJ9_min_7cf53 10 = .ok (.ireturn, 1) := by decide +kernel
theorem dJ0_length_8abf5_0 : decode cJ0_length_8abf5 0 = .ok (.aload_n 0, 1) := by decide +kernel
theorem dJ0_length_8abf5_1 : decode cJ0_length_8abf5 1 = .ok (.getfield 9, 3) := by decide +kernel
theorem dJ0_length_8abf5_4 : decode cJ0_length_8abf5 4 = .ok (.arraylength, 1) := by decide +kernel
theorem dJ0_length_8abf5_5 : decode cJ0_length_8abf5 5 = .ok (.aload_n 0, 1) := by decide +kernel
theorem dJ0_length_8abf5_6 : decode cJ0_length_8abf5 6 = .ok (.invokevirtual 335, 3) := by decide +kernel
theorem dJ0_length_8abf5_9 : decode cJ0_length_8abf5 9 = .ok (.ishr, 1) := by decide +kernel
theorem dJ0_length_8abf5_10 : decode cJ0_length_8abf5 10 = .ok (.ireturn, 1) := by decide +kernel
theorem dJ0_charAt_5068e_0 : decode cJ0_charAt_5068e 0 = .ok (.aload_n 0, 1) := by decide +kernel
theorem dJ0_charAt_5068e_1 : decode cJ0_charAt_5068e 1 = .ok (.invokevirtual 492, 3) := by decide +kernel
theorem dJ0_charAt_5068e_4 : decode cJ0_charAt_5068e 4 = .ok (.ifCond .eq 12, 3) := by decide +kernel
theorem dJ0_charAt_5068e_7 : decode cJ0_charAt_5068e 7 = .ok (.aload_n 0, 1) := by decide +kernel
theorem dJ0_charAt_5068e_8 : decode cJ0_charAt_5068e 8 = .ok (.getfield 9, 3) := by decide +kernel
theorem dJ0_charAt_5068e_11 : decode cJ0_charAt_5068e 11 = .ok (.iload_n 1, 1) := by decide +kernel
theorem dJ0_charAt_5068e_12 : decode cJ0_charAt_5068e 12 = .ok (.invokestatic 495, 3) := by decide +kernel
theorem dJ0_charAt_5068e_15 : decode cJ0_charAt_5068e 15 = .ok (.ireturn, 1) := by decide +kernel
theorem dJ0_charAt_5068e_16 : decode cJ0_charAt_5068e 16 = .ok (.aload_n 0, 1) := by decide +kernel
theorem dJ0_charAt_5068e_17 : decode cJ0_charAt_5068e 17 = .ok (.getfield 9, 3) := by decide +kernel
theorem dJ0_charAt_5068e_20 : decode cJ0_charAt_5068e 20 = .ok (.iload_n 1, 1) := by decide +kernel
theorem dJ0_charAt_5068e_21 : decode cJ0_charAt_5068e 21 = .ok (.invokestatic 498, 3) := by decide +kernel
theorem dJ0_charAt_5068e_24 : decode cJ0_charAt_5068e 24 = .ok (.ireturn, 1) := by decide +kernel
theorem dJ0_coder_7d493_0 : decode cJ0_coder_7d493 0 = .ok (.getstatic 38, 3) := by decide +kernel
theorem dJ0_coder_7d493_3 : decode cJ0_coder_7d493 3 = .ok (.ifCond .eq 10, 3) := by decide +kernel
theorem dJ0_coder_7d493_6 : decode cJ0_coder_7d493 6 = .ok (.aload_n 0, 1) := by decide +kernel
theorem dJ0_coder_7d493_7 : decode cJ0_coder_7d493 7 = .ok (.getfield 15, 3) := by decide +kernel
theorem dJ0_coder_7d493_10 : decode cJ0_coder_7d493 10 = .ok (.goto 4, 3) := by decide +kernel
theorem dJ0_coder_7d493_13 : decode cJ0_coder_7d493 13 = .ok (.iconst 1, 1) := by decide +kernel
theorem dJ0_coder_7d493_14 : decode cJ0_coder_7d493 14 = .ok (.ireturn, 1) := by decide +kernel
theorem dJ0_isLatin1_aae02_0 : decode cJ0_isLatin1_aae02 0 = .ok (.getstatic 38, 3) := by decide +kernel
theorem dJ0_isLatin1_aae02_3 : decode cJ0_isLatin1_aae02 3 = .ok (.ifCond .eq 14, 3) := by decide +kernel
theorem dJ0_isLatin1_aae02_6 : decode cJ0_isLatin1_aae02 6 = .ok (.aload_n 0, 1) := by decide +kernel
theorem dJ0_isLatin1_aae02_7 : decode cJ0_isLatin1_aae02 7 = .ok (.getfield 15, 3) := by decide +kernel
theorem dJ0_isLatin1_aae02_10 : decode cJ0_isLatin1_aae02 10 = .ok (.ifCond .ne 7, 3) := by decide +kernel
theorem dJ0_isLatin1_aae02_13 : decode cJ0_isLatin1_aae02 13 = .ok (.iconst 1, 1) := by decide +kernel
theorem dJ0_isLatin1_aae02_14 : decode cJ0_isLatin1_aae02 14 = .ok (.goto 4, 3) := by decide +kernel
theorem dJ0_isLatin1_aae02_17 : decode cJ0_isLatin1_aae02 17 = .ok (.iconst 0, 1) := by decide +kernel
theorem dJ0_isLatin1_aae02_18 : decode cJ0_isLatin1_aae02 18 = .ok (.ireturn, 1) := by decide +kernel
theorem dJ0_checkIndex_df160_0 : decode cJ0_checkIndex_df160 0 = .ok (.iload_n 0, 1) := by decide +kernel
theorem dJ0_checkIndex_df160_1 : decode cJ0_checkIndex_df160 1 = .ok (.iload_n 1, 1) := by decide +kernel
theorem dJ0_checkIndex_df160_2 : decode cJ0_checkIndex_df160 2 = .ok (.getstatic 1053, 3) := by decide +kernel
theorem dJ0_checkIndex_df160_5 : decode cJ0_checkIndex_df160 5 = .ok (.invokestatic 1059, 3) := by decide +kernel
theorem dJ0_checkIndex_df160_8 : decode cJ0_checkIndex_df160 8 = .ok (.pop, 1) := by decide +kernel
theorem dJ0_checkIndex_df160_9 : decode cJ0_checkIndex_df160 9 = .ok (.return_, 1) := by decide +kernel
theorem dJ1_charAt_3b067_0 : decode cJ1_charAt_3b067 0 = .ok (.iload_n 1, 1) := by decide +kernel
theorem dJ1_charAt_3b067_1 : decode cJ1_charAt_3b067 1 = .ok (.aload_n 0, 1) := by decide +kernel
theorem dJ1_charAt_3b067_2 : decode cJ1_charAt_3b067 2 = .ok (.arraylength, 1) := by decide +kernel
theorem dJ1_charAt_3b067_3 : decode cJ1_charAt_3b067 3 = .ok (.invokestatic 9, 3) := by decide +kernel
theorem dJ1_charAt_3b067_6 : decode cJ1_charAt_3b067 6 = .ok (.aload_n 0, 1) := by decide +kernel
theorem dJ1_charAt_3b067_7 : decode cJ1_charAt_3b067 7 = .ok (.iload_n 1, 1) := by decide +kernel
theorem dJ1_charAt_3b067_8 : decode cJ1_charAt_3b067 8 = .ok (.baload, 1) := by decide +kernel
theorem dJ1_charAt_3b067_9 : decode cJ1_charAt_3b067 9 = .ok (.sipush 255, 3) := by decide +kernel
theorem dJ1_charAt_3b067_12 : decode cJ1_charAt_3b067 12 = .ok (.iand, 1) := by decide +kernel
theorem dJ1_charAt_3b067_13 : decode cJ1_charAt_3b067 13 = .ok (.i2c, 1) := by decide +kernel
theorem dJ1_charAt_3b067_14 : decode cJ1_charAt_3b067 14 = .ok (.ireturn, 1) := by decide +kernel
theorem dJ2_getChar_3b067_0 : decode cJ2_getChar_3b067 0 = .ok (.getstatic 44, 3) := by decide +kernel
theorem dJ2_getChar_3b067_3 : decode cJ2_getChar_3b067 3 = .ok (.ifCond .ne 25, 3) := by decide +kernel
theorem dJ2_getChar_3b067_6 : decode cJ2_getChar_3b067 6 = .ok (.iload_n 1, 1) := by decide +kernel
theorem dJ2_getChar_3b067_7 : decode cJ2_getChar_3b067 7 = .ok (.ifCond .lt 11, 3) := by decide +kernel
theorem dJ2_getChar_3b067_10 : decode cJ2_getChar_3b067 10 = .ok (.iload_n 1, 1) := by decide +kernel
theorem dJ2_getChar_3b067_11 : decode cJ2_getChar_3b067 11 = .ok (.aload_n 0, 1) := by decide +kernel
theorem dJ2_getChar_3b067_12 : decode cJ2_getChar_3b067 12 = .ok (.invokestatic 48, 3) := by decide +kernel
theorem dJ2_getChar_3b067_15 : decode cJ2_getChar_3b067 15 = .ok (.if_icmp .lt 13, 3) := by decide +kernel
theorem dJ2_getChar_3b067_18 : decode cJ2_getChar_3b067 18 = .ok (.new 52, 3) := by decide +kernel
theorem dJ2_getChar_3b067_21 : decode cJ2_getChar_3b067 21 = .ok (.dup, 1) := by decide +kernel
theorem dJ2_getChar_3b067_22 : decode cJ2_getChar_3b067 22 = .ok (.ldc 54, 2) := by decide +kernel
theorem dJ2_getChar_3b067_24 : decode cJ2_getChar_3b067 24 = .ok (.invokespecial 56, 3) := by decide +kernel
theorem dJ2_getChar_3b067_27 : decode cJ2_getChar_3b067 27 = .ok (.athrow, 1) := by decide +kernel
theorem dJ2_getChar_3b067_28 : decode cJ2_getChar_3b067 28 = .ok (.iload_n 1, 1) := by decide +kernel
theorem dJ2_getChar_3b067_29 : decode cJ2_getChar_3b067 29 = .ok (.iconst 1, 1) := by decide +kernel
theorem dJ2_getChar_3b067_30 : decode cJ2_getChar_3b067 30 = .ok (.ishl, 1) := by decide +kernel
theorem dJ2_getChar_3b067_31 : decode cJ2_getChar_3b067 31 = .ok (.istore_n 1, 1) := by decide +kernel
theorem dJ2_getChar_3b067_32 : decode cJ2_getChar_3b067 32 = .ok (.aload_n 0, 1) := by decide +kernel
theorem dJ2_getChar_3b067_33 : decode cJ2_getChar_3b067 33 = .ok (.iload_n 1, 1) := by decide +kernel
theorem dJ2_getChar_3b067_34 : decode cJ2_getChar_3b067 34 = .ok (.iinc 1 1, 3) := by decide +kernel
theorem dJ2_getChar_3b067_37 : decode cJ2_getChar_3b067 37 = .ok (.baload, 1) := by decide +kernel
theorem dJ2_getChar_3b067_38 : decode cJ2_getChar_3b067 38 = .ok (.sipush 255, 3) := by decide +kernel
theorem dJ2_getChar_3b067_41 : decode cJ2_getChar_3b067 41 = .ok (.iand, 1) := by decide +kernel
theorem dJ2_getChar_3b067_42 : decode cJ2_getChar_3b067 42 = .ok (.getstatic 59, 3) := by decide +kernel
theorem dJ2_getChar_3b067_45 : decode cJ2_getChar_3b067 45 = .ok (.ishl, 1) := by decide +kernel
theorem dJ2_getChar_3b067_46 : decode cJ2_getChar_3b067 46 = .ok (.aload_n 0, 1) := by decide +kernel
theorem dJ2_getChar_3b067_47 : decode cJ2_getChar_3b067 47 = .ok (.iload_n 1, 1) := by decide +kernel
theorem dJ2_getChar_3b067_48 : decode cJ2_getChar_3b067 48 = .ok (.baload, 1) := by decide +kernel
theorem dJ2_getChar_3b067_49 : decode cJ2_getChar_3b067 49 = .ok (.sipush 255, 3) := by decide +kernel
theorem dJ2_getChar_3b067_52 : decode cJ2_getChar_3b067 52 = .ok (.iand, 1) := by decide +kernel
theorem dJ2_getChar_3b067_53 : decode cJ2_getChar_3b067 53 = .ok (.getstatic 63, 3) := by decide +kernel
theorem dJ2_getChar_3b067_56 : decode cJ2_getChar_3b067 56 = .ok (.ishl, 1) := by decide +kernel
theorem dJ2_getChar_3b067_57 : decode cJ2_getChar_3b067 57 = .ok (.ior, 1) := by decide +kernel
theorem dJ2_getChar_3b067_58 : decode cJ2_getChar_3b067 58 = .ok (.i2c, 1) := by decide +kernel
theorem dJ2_getChar_3b067_59 : decode cJ2_getChar_3b067 59 = .ok (.ireturn, 1) := by decide +kernel
theorem dJ2_length_9d52b_0 : decode cJ2_length_9d52b 0 = .ok (.aload_n 0, 1) := by decide +kernel
theorem dJ2_length_9d52b_1 : decode cJ2_length_9d52b 1 = .ok (.arraylength, 1) := by decide +kernel
theorem dJ2_length_9d52b_2 : decode cJ2_length_9d52b 2 = .ok (.iconst 1, 1) := by decide +kernel
theorem dJ2_length_9d52b_3 : decode cJ2_length_9d52b 3 = .ok (.ishr, 1) := by decide +kernel
theorem dJ2_length_9d52b_4 : decode cJ2_length_9d52b 4 = .ok (.ireturn, 1) := by decide +kernel
theorem dJ2_charAt_3b067_0 : decode cJ2_charAt_3b067 0 = .ok (.iload_n 1, 1) := by decide +kernel
theorem dJ2_charAt_3b067_1 : decode cJ2_charAt_3b067 1 = .ok (.aload_n 0, 1) := by decide +kernel
theorem dJ2_charAt_3b067_2 : decode cJ2_charAt_3b067 2 = .ok (.invokestatic 67, 3) := by decide +kernel
theorem dJ2_charAt_3b067_5 : decode cJ2_charAt_3b067 5 = .ok (.aload_n 0, 1) := by decide +kernel
theorem dJ2_charAt_3b067_6 : decode cJ2_charAt_3b067 6 = .ok (.iload_n 1, 1) := by decide +kernel
theorem dJ2_charAt_3b067_7 : decode cJ2_charAt_3b067 7 = .ok (.invokestatic 71, 3) := by decide +kernel
theorem dJ2_charAt_3b067_10 : decode cJ2_charAt_3b067 10 = .ok (.ireturn, 1) := by decide +kernel
theorem dJ2_checkIndex_2214a_0 : decode cJ2_checkIndex_2214a 0 = .ok (.iload_n 0, 1) := by decide +kernel
theorem dJ2_checkIndex_2214a_1 : decode cJ2_checkIndex_2214a 1 = .ok (.aload_n 1, 1) := by decide +kernel
theorem dJ2_checkIndex_2214a_2 : decode cJ2_checkIndex_2214a 2 = .ok (.invokestatic 48, 3) := by decide +kernel
theorem dJ2_checkIndex_2214a_5 : decode cJ2_checkIndex_2214a 5 = .ok (.invokestatic 414, 3) := by decide +kernel
theorem dJ2_checkIndex_2214a_8 : decode cJ2_checkIndex_2214a 8 = .ok (.return_, 1) := by decide +kernel
theorem dJ3_checkIndex_8e157_0 : decode cJ3_checkIndex_8e157 0 = .ok (.iload_n 0, 1) := by decide +kernel
theorem dJ3_checkIndex_8e157_1 : decode cJ3_checkIndex_8e157 1 = .ok (.ifCond .lt 8, 3) := by decide +kernel
theorem dJ3_checkIndex_8e157_4 : decode cJ3_checkIndex_8e157 4 = .ok (.iload_n 0, 1) := by decide +kernel
theorem dJ3_checkIndex_8e157_5 : decode cJ3_checkIndex_8e157 5 = .ok (.iload_n 1, 1) := by decide +kernel
theorem dJ3_checkIndex_8e157_6 : decode cJ3_checkIndex_8e157 6 = .ok (.if_icmp .lt 10, 3) := by decide +kernel
theorem dJ3_checkIndex_8e157_9 : decode cJ3_checkIndex_8e157 9 = .ok (.aload_n 2, 1) := by decide +kernel
theorem dJ3_checkIndex_8e157_10 : decode cJ3_checkIndex_8e157 10 = .ok (.iload_n 0, 1) := by decide +kernel
theorem dJ3_checkIndex_8e157_11 : decode cJ3_checkIndex_8e157 11 = .ok (.iload_n 1, 1) := by decide +kernel
theorem dJ3_checkIndex_8e157_12 : decode cJ3_checkIndex_8e157 12 = .ok (.invokestatic 95, 3) := by decide +kernel
theorem dJ3_checkIndex_8e157_15 : decode cJ3_checkIndex_8e157 15 = .ok (.athrow, 1) := by decide +kernel
theorem dJ3_checkIndex_8e157_16 : decode cJ3_checkIndex_8e157 16 = .ok (.iload_n 0, 1) := by decide +kernel
theorem dJ3_checkIndex_8e157_17 : decode cJ3_checkIndex_8e157 17 = .ok (.ireturn, 1) := by decide +kernel
theorem dL_law_0 : decode cL_law 0 = .ok (.new 7, 3) := by decide +kernel
theorem dL_law_3 : decode cL_law 3 = .ok (.dup, 1) := by decide +kernel
theorem dL_law_4 : decode cL_law 4 = .ok (.invokespecial 9, 3) := by decide +kernel
theorem dL_law_7 : decode cL_law 7 = .ok (.astore_n 1, 1) := by decide +kernel
theorem dL_law_8 : decode cL_law 8 = .ok (.new 10, 3) := by decide +kernel
theorem dL_law_11 : decode cL_law 11 = .ok (.dup, 1) := by decide +kernel
theorem dL_law_12 : decode cL_law 12 = .ok (.invokespecial 12, 3) := by decide +kernel
theorem dL_law_15 : decode cL_law 15 = .ok (.astore_n 2, 1) := by decide +kernel
theorem dL_law_16 : decode cL_law 16 = .ok (.iconst 0, 1) := by decide +kernel
theorem dL_law_17 : decode cL_law 17 = .ok (.istore_n 3, 1) := by decide +kernel
theorem dL_law_18 : decode cL_law 18 = .ok (.iload_n 3, 1) := by decide +kernel
theorem dL_law_19 : decode cL_law 19 = .ok (.aload_n 0, 1) := by decide +kernel
theorem dL_law_20 : decode cL_law 20 = .ok (.arraylength, 1) := by decide +kernel
theorem dL_law_21 : decode cL_law 21 = .ok (.bipush 6, 2) := by decide +kernel
theorem dL_law_23 : decode cL_law 23 = .ok (.isub, 1) := by decide +kernel
theorem dL_law_24 : decode cL_law 24 = .ok (.if_icmp .gt 945, 3) := by decide +kernel
theorem dL_law_27 : decode cL_law 27 = .ok (.aload_n 0, 1) := by decide +kernel
theorem dL_law_28 : decode cL_law 28 = .ok (.iload_n 3, 1) := by decide +kernel
theorem dL_law_29 : decode cL_law 29 = .ok (.iaload, 1) := by decide +kernel
theorem dL_law_30 : decode cL_law 30 = .ok (.bipush 31, 2) := by decide +kernel
theorem dL_law_32 : decode cL_law 32 = .ok (.iand, 1) := by decide +kernel
theorem dL_law_33 : decode cL_law 33 = .ok (.tableswitch 930 0 26 #[123, 146, 159, 172, 185, 218, 251, 274, 297, 330, 363, 376, 409, 442, 475, 518, 581, 614, 667, 736, 749, 772, 785, 838, 881, 894, 907], 123) := by decide +kernel
theorem dL_law_156 : decode cL_law 156 = .ok (.aload_n 1, 1) := by decide +kernel
theorem dL_law_157 : decode cL_law 157 = .ok (.aload_n 0, 1) := by decide +kernel
theorem dL_law_158 : decode cL_law 158 = .ok (.iload_n 3, 1) := by decide +kernel
theorem dL_law_159 : decode cL_law 159 = .ok (.iconst 1, 1) := by decide +kernel
theorem dL_law_160 : decode cL_law 160 = .ok (.iadd, 1) := by decide +kernel
theorem dL_law_161 : decode cL_law 161 = .ok (.iaload, 1) := by decide +kernel
theorem dL_law_162 : decode cL_law 162 = .ok (.invokevirtual 13, 3) := by decide +kernel
theorem dL_law_165 : decode cL_law 165 = .ok (.aload_n 2, 1) := by decide +kernel
theorem dL_law_166 : decode cL_law 166 = .ok (.aload_n 0, 1) := by decide +kernel
theorem dL_law_167 : decode cL_law 167 = .ok (.iload_n 3, 1) := by decide +kernel
theorem dL_law_168 : decode cL_law 168 = .ok (.iconst 1, 1) := by decide +kernel
theorem dL_law_169 : decode cL_law 169 = .ok (.iadd, 1) := by decide +kernel
theorem dL_law_170 : decode cL_law 170 = .ok (.iaload, 1) := by decide +kernel
theorem dL_law_171 : decode cL_law 171 = .ok (.invokevirtual 17, 3) := by decide +kernel
theorem dL_law_174 : decode cL_law 174 = .ok (.if_icmp .eq 789, 3) := by decide +kernel
theorem dL_law_177 : decode cL_law 177 = .ok (.iconst 0, 1) := by decide +kernel
theorem dL_law_178 : decode cL_law 178 = .ok (.ireturn, 1) := by decide +kernel
theorem dL_law_179 : decode cL_law 179 = .ok (.aload_n 1, 1) := by decide +kernel
theorem dL_law_180 : decode cL_law 180 = .ok (.invokevirtual 18, 3) := by decide +kernel
theorem dL_law_183 : decode cL_law 183 = .ok (.aload_n 2, 1) := by decide +kernel
theorem dL_law_184 : decode cL_law 184 = .ok (.invokevirtual 22, 3) := by decide +kernel
theorem dL_law_187 : decode cL_law 187 = .ok (.if_icmp .eq 776, 3) := by decide +kernel
theorem dL_law_190 : decode cL_law 190 = .ok (.iconst 0, 1) := by decide +kernel
theorem dL_law_191 : decode cL_law 191 = .ok (.ireturn, 1) := by decide +kernel
theorem dL_law_192 : decode cL_law 192 = .ok (.aload_n 1, 1) := by decide +kernel
theorem dL_law_193 : decode cL_law 193 = .ok (.invokevirtual 23, 3) := by decide +kernel
theorem dL_law_196 : decode cL_law 196 = .ok (.aload_n 2, 1) := by decide +kernel
theorem dL_law_197 : decode cL_law 197 = .ok (.invokevirtual 26, 3) := by decide +kernel
theorem dL_law_200 : decode cL_law 200 = .ok (.if_icmp .eq 763, 3) := by decide +kernel
theorem dL_law_203 : decode cL_law 203 = .ok (.iconst 0, 1) := by decide +kernel
theorem dL_law_204 : decode cL_law 204 = .ok (.ireturn, 1) := by decide +kernel
theorem dL_law_205 : decode cL_law 205 = .ok (.aload_n 1, 1) := by decide +kernel
theorem dL_law_206 : decode cL_law 206 = .ok (.invokevirtual 27, 3) := by decide +kernel
theorem dL_law_209 : decode cL_law 209 = .ok (.aload_n 2, 1) := by decide +kernel
theorem dL_law_210 : decode cL_law 210 = .ok (.invokevirtual 30, 3) := by decide +kernel
theorem dL_law_213 : decode cL_law 213 = .ok (.if_icmp .eq 750, 3) := by decide +kernel
theorem dL_law_216 : decode cL_law 216 = .ok (.iconst 0, 1) := by decide +kernel
theorem dL_law_217 : decode cL_law 217 = .ok (.ireturn, 1) := by decide +kernel
theorem dL_law_218 : decode cL_law 218 = .ok (.aload_n 1, 1) := by decide +kernel
theorem dL_law_219 : decode cL_law 219 = .ok (.aload_n 0, 1) := by decide +kernel
theorem dL_law_220 : decode cL_law 220 = .ok (.iload_n 3, 1) := by decide +kernel
theorem dL_law_221 : decode cL_law 221 = .ok (.iconst 1, 1) := by decide +kernel
theorem dL_law_222 : decode cL_law 222 = .ok (.iadd, 1) := by decide +kernel
theorem dL_law_223 : decode cL_law 223 = .ok (.iaload, 1) := by decide +kernel
theorem dL_law_224 : decode cL_law 224 = .ok (.aload_n 0, 1) := by decide +kernel
theorem dL_law_225 : decode cL_law 225 = .ok (.iload_n 3, 1) := by decide +kernel
theorem dL_law_226 : decode cL_law 226 = .ok (.iconst 2, 1) := by decide +kernel
theorem dL_law_227 : decode cL_law 227 = .ok (.iadd, 1) := by decide +kernel
theorem dL_law_228 : decode cL_law 228 = .ok (.iaload, 1) := by decide +kernel
theorem dL_law_229 : decode cL_law 229 = .ok (.invokevirtual 31, 3) := by decide +kernel
theorem dL_law_232 : decode cL_law 232 = .ok (.aload_n 2, 1) := by decide +kernel
theorem dL_law_233 : decode cL_law 233 = .ok (.aload_n 0, 1) := by decide +kernel
theorem dL_law_234 : decode cL_law 234 = .ok (.iload_n 3, 1) := by decide +kernel
theorem dL_law_235 : decode cL_law 235 = .ok (.iconst 1, 1) := by decide +kernel
theorem dL_law_236 : decode cL_law 236 = .ok (.iadd, 1) := by decide +kernel
theorem dL_law_237 : decode cL_law 237 = .ok (.iaload, 1) := by decide +kernel
theorem dL_law_238 : decode cL_law 238 = .ok (.aload_n 0, 1) := by decide +kernel
theorem dL_law_239 : decode cL_law 239 = .ok (.iload_n 3, 1) := by decide +kernel
theorem dL_law_240 : decode cL_law 240 = .ok (.iconst 2, 1) := by decide +kernel
theorem dL_law_241 : decode cL_law 241 = .ok (.iadd, 1) := by decide +kernel
theorem dL_law_242 : decode cL_law 242 = .ok (.iaload, 1) := by decide +kernel
theorem dL_law_243 : decode cL_law 243 = .ok (.invokevirtual 35, 3) := by decide +kernel
theorem dL_law_246 : decode cL_law 246 = .ok (.if_icmp .eq 717, 3) := by decide +kernel
theorem dL_law_249 : decode cL_law 249 = .ok (.iconst 0, 1) := by decide +kernel
theorem dL_law_250 : decode cL_law 250 = .ok (.ireturn, 1) := by decide +kernel
theorem dL_law_251 : decode cL_law 251 = .ok (.aload_n 1, 1) := by decide +kernel
theorem dL_law_252 : decode cL_law 252 = .ok (.aload_n 0, 1) := by decide +kernel
theorem dL_law_253 : decode cL_law 253 = .ok (.iload_n 3, 1) := by decide +kernel
theorem dL_law_254 : decode cL_law 254 = .ok (.iconst 1, 1) := by decide +kernel
theorem dL_law_255 : decode cL_law 255 = .ok (.iadd, 1) := by decide +kernel
theorem dL_law_256 : decode cL_law 256 = .ok (.iaload, 1) := by decide +kernel
theorem dL_law_257 : decode cL_law 257 = .ok (.aload_n 0, 1) := by decide +kernel
theorem dL_law_258 : decode cL_law 258 = .ok (.iload_n 3, 1) := by decide +kernel
theorem dL_law_259 : decode cL_law 259 = .ok (.iconst 2, 1) := by decide +kernel
theorem dL_law_260 : decode cL_law 260 = .ok (.iadd, 1) := by decide +kernel
theorem dL_law_261 : decode cL_law 261 = .ok (.iaload, 1) := by decide +kernel
theorem dL_law_262 : decode cL_law 262 = .ok (.invokevirtual 36, 3) := by decide +kernel
theorem dL_law_265 : decode cL_law 265 = .ok (.aload_n 2, 1) := by decide +kernel
theorem dL_law_266 : decode cL_law 266 = .ok (.aload_n 0, 1) := by decide +kernel
theorem dL_law_267 : decode cL_law 267 = .ok (.iload_n 3, 1) := by decide +kernel
theorem dL_law_268 : decode cL_law 268 = .ok (.iconst 1, 1) := by decide +kernel
theorem dL_law_269 : decode cL_law 269 = .ok (.iadd, 1) := by decide +kernel
theorem dL_law_270 : decode cL_law 270 = .ok (.iaload, 1) := by decide +kernel
theorem dL_law_271 : decode cL_law 271 = .ok (.aload_n 0, 1) := by decide +kernel
theorem dL_law_272 : decode cL_law 272 = .ok (.iload_n 3, 1) := by decide +kernel
theorem dL_law_273 : decode cL_law 273 = .ok (.iconst 2, 1) := by decide +kernel
theorem dL_law_274 : decode cL_law 274 = .ok (.iadd, 1) := by decide +kernel
theorem dL_law_275 : decode cL_law 275 = .ok (.iaload, 1) := by decide +kernel
theorem dL_law_276 : decode cL_law 276 = .ok (.invokevirtual 39, 3) := by decide +kernel
theorem dL_law_279 : decode cL_law 279 = .ok (.if_icmp .eq 684, 3) := by decide +kernel
theorem dL_law_282 : decode cL_law 282 = .ok (.iconst 0, 1) := by decide +kernel
theorem dL_law_283 : decode cL_law 283 = .ok (.ireturn, 1) := by decide +kernel
theorem dL_law_284 : decode cL_law 284 = .ok (.aload_n 1, 1) := by decide +kernel
theorem dL_law_285 : decode cL_law 285 = .ok (.aload_n 0, 1) := by decide +kernel
theorem dL_law_286 : decode cL_law 286 = .ok (.iload_n 3, 1) := by decide +kernel
theorem dL_law_287 : decode cL_law 287 = .ok (.iconst 1, 1) := by decide +kernel
theorem dL_law_288 : decode cL_law 288 = .ok (.iadd, 1) := by decide +kernel
theorem dL_law_289 : decode cL_law 289 = .ok (.iaload, 1) := by decide +kernel
theorem dL_law_290 : decode cL_law 290 = .ok (.invokevirtual 40, 3) := by decide +kernel
theorem dL_law_293 : decode cL_law 293 = .ok (.aload_n 2, 1) := by decide +kernel
theorem dL_law_294 : decode cL_law 294 = .ok (.aload_n 0, 1) := by decide +kernel
theorem dL_law_295 : decode cL_law 295 = .ok (.iload_n 3, 1) := by decide +kernel
theorem dL_law_296 : decode cL_law 296 = .ok (.iconst 1, 1) := by decide +kernel
theorem dL_law_297 : decode cL_law 297 = .ok (.iadd, 1) := by decide +kernel
theorem dL_law_298 : decode cL_law 298 = .ok (.iaload, 1) := by decide +kernel
theorem dL_law_299 : decode cL_law 299 = .ok (.invokevirtual 43, 3) := by decide +kernel
theorem dL_law_302 : decode cL_law 302 = .ok (.if_icmp .eq 661, 3) := by decide +kernel
theorem dL_law_305 : decode cL_law 305 = .ok (.iconst 0, 1) := by decide +kernel
theorem dL_law_306 : decode cL_law 306 = .ok (.ireturn, 1) := by decide +kernel
theorem dL_law_307 : decode cL_law 307 = .ok (.aload_n 1, 1) := by decide +kernel
theorem dL_law_308 : decode cL_law 308 = .ok (.aload_n 0, 1) := by decide +kernel
theorem dL_law_309 : decode cL_law 309 = .ok (.iload_n 3, 1) := by decide +kernel
theorem dL_law_310 : decode cL_law 310 = .ok (.iconst 1, 1) := by decide +kernel
theorem dL_law_311 : decode cL_law 311 = .ok (.iadd, 1) := by decide +kernel
theorem dL_law_312 : decode cL_law 312 = .ok (.iaload, 1) := by decide +kernel
theorem dL_law_313 : decode cL_law 313 = .ok (.invokevirtual 44, 3) := by decide +kernel
theorem dL_law_316 : decode cL_law 316 = .ok (.aload_n 2, 1) := by decide +kernel
theorem dL_law_317 : decode cL_law 317 = .ok (.aload_n 0, 1) := by decide +kernel
theorem dL_law_318 : decode cL_law 318 = .ok (.iload_n 3, 1) := by decide +kernel
theorem dL_law_319 : decode cL_law 319 = .ok (.iconst 1, 1) := by decide +kernel
theorem dL_law_320 : decode cL_law 320 = .ok (.iadd, 1) := by decide +kernel
theorem dL_law_321 : decode cL_law 321 = .ok (.iaload, 1) := by decide +kernel
theorem dL_law_322 : decode cL_law 322 = .ok (.invokevirtual 47, 3) := by decide +kernel
theorem dL_law_325 : decode cL_law 325 = .ok (.if_icmp .eq 638, 3) := by decide +kernel
theorem dL_law_328 : decode cL_law 328 = .ok (.iconst 0, 1) := by decide +kernel
theorem dL_law_329 : decode cL_law 329 = .ok (.ireturn, 1) := by decide +kernel
theorem dL_law_330 : decode cL_law 330 = .ok (.aload_n 1, 1) := by decide +kernel
theorem dL_law_331 : decode cL_law 331 = .ok (.aload_n 0, 1) := by decide +kernel
theorem dL_law_332 : decode cL_law 332 = .ok (.iload_n 3, 1) := by decide +kernel
theorem dL_law_333 : decode cL_law 333 = .ok (.iconst 1, 1) := by decide +kernel
theorem dL_law_334 : decode cL_law 334 = .ok (.iadd, 1) := by decide +kernel
theorem dL_law_335 : decode cL_law 335 = .ok (.iaload, 1) := by decide +kernel
theorem dL_law_336 : decode cL_law 336 = .ok (.aload_n 0, 1) := by decide +kernel
theorem dL_law_337 : decode cL_law 337 = .ok (.iload_n 3, 1) := by decide +kernel
theorem dL_law_338 : decode cL_law 338 = .ok (.iconst 2, 1) := by decide +kernel
theorem dL_law_339 : decode cL_law 339 = .ok (.iadd, 1) := by decide +kernel
theorem dL_law_340 : decode cL_law 340 = .ok (.iaload, 1) := by decide +kernel
theorem dL_law_341 : decode cL_law 341 = .ok (.invokevirtual 48, 3) := by decide +kernel
theorem dL_law_344 : decode cL_law 344 = .ok (.aload_n 2, 1) := by decide +kernel
theorem dL_law_345 : decode cL_law 345 = .ok (.aload_n 0, 1) := by decide +kernel
theorem dL_law_346 : decode cL_law 346 = .ok (.iload_n 3, 1) := by decide +kernel
theorem dL_law_347 : decode cL_law 347 = .ok (.iconst 1, 1) := by decide +kernel
theorem dL_law_348 : decode cL_law 348 = .ok (.iadd, 1) := by decide +kernel
theorem dL_law_349 : decode cL_law 349 = .ok (.iaload, 1) := by decide +kernel
theorem dL_law_350 : decode cL_law 350 = .ok (.aload_n 0, 1) := by decide +kernel
theorem dL_law_351 : decode cL_law 351 = .ok (.iload_n 3, 1) := by decide +kernel
theorem dL_law_352 : decode cL_law 352 = .ok (.iconst 2, 1) := by decide +kernel
theorem dL_law_353 : decode cL_law 353 = .ok (.iadd, 1) := by decide +kernel
theorem dL_law_354 : decode cL_law 354 = .ok (.iaload, 1) := by decide +kernel
theorem dL_law_355 : decode cL_law 355 = .ok (.invokevirtual 51, 3) := by decide +kernel
theorem dL_law_358 : decode cL_law 358 = .ok (.if_icmp .eq 605, 3) := by decide +kernel
theorem dL_law_361 : decode cL_law 361 = .ok (.iconst 0, 1) := by decide +kernel
theorem dL_law_362 : decode cL_law 362 = .ok (.ireturn, 1) := by decide +kernel
theorem dL_law_363 : decode cL_law 363 = .ok (.aload_n 1, 1) := by decide +kernel
theorem dL_law_364 : decode cL_law 364 = .ok (.aload_n 0, 1) := by decide +kernel
theorem dL_law_365 : decode cL_law 365 = .ok (.iload_n 3, 1) := by decide +kernel
theorem dL_law_366 : decode cL_law 366 = .ok (.iconst 1, 1) := by decide +kernel
theorem dL_law_367 : decode cL_law 367 = .ok (.iadd, 1) := by decide +kernel
theorem dL_law_368 : decode cL_law 368 = .ok (.iaload, 1) := by decide +kernel
theorem dL_law_369 : decode cL_law 369 = .ok (.aload_n 0, 1) := by decide +kernel
theorem dL_law_370 : decode cL_law 370 = .ok (.iload_n 3, 1) := by decide +kernel
theorem dL_law_371 : decode cL_law 371 = .ok (.iconst 2, 1) := by decide +kernel
theorem dL_law_372 : decode cL_law 372 = .ok (.iadd, 1) := by decide +kernel
theorem dL_law_373 : decode cL_law 373 = .ok (.iaload, 1) := by decide +kernel
theorem dL_law_374 : decode cL_law 374 = .ok (.invokevirtual 52, 3) := by decide +kernel
theorem dL_law_377 : decode cL_law 377 = .ok (.aload_n 2, 1) := by decide +kernel
theorem dL_law_378 : decode cL_law 378 = .ok (.aload_n 0, 1) := by decide +kernel
theorem dL_law_379 : decode cL_law 379 = .ok (.iload_n 3, 1) := by decide +kernel
theorem dL_law_380 : decode cL_law 380 = .ok (.iconst 1, 1) := by decide +kernel
theorem dL_law_381 : decode cL_law 381 = .ok (.iadd, 1) := by decide +kernel
theorem dL_law_382 : decode cL_law 382 = .ok (.iaload, 1) := by decide +kernel
theorem dL_law_383 : decode cL_law 383 = .ok (.aload_n 0, 1) := by decide +kernel
theorem dL_law_384 : decode cL_law 384 = .ok (.iload_n 3, 1) := by decide +kernel
theorem dL_law_385 : decode cL_law 385 = .ok (.iconst 2, 1) := by decide +kernel
theorem dL_law_386 : decode cL_law 386 = .ok (.iadd, 1) := by decide +kernel
theorem dL_law_387 : decode cL_law 387 = .ok (.iaload, 1) := by decide +kernel
theorem dL_law_388 : decode cL_law 388 = .ok (.invokevirtual 55, 3) := by decide +kernel
theorem dL_law_391 : decode cL_law 391 = .ok (.if_icmp .eq 572, 3) := by decide +kernel
theorem dL_law_394 : decode cL_law 394 = .ok (.iconst 0, 1) := by decide +kernel
theorem dL_law_395 : decode cL_law 395 = .ok (.ireturn, 1) := by decide +kernel
theorem dL_law_396 : decode cL_law 396 = .ok (.aload_n 1, 1) := by decide +kernel
theorem dL_law_397 : decode cL_law 397 = .ok (.invokevirtual 56, 3) := by decide +kernel
theorem dL_law_400 : decode cL_law 400 = .ok (.aload_n 2, 1) := by decide +kernel
theorem dL_law_401 : decode cL_law 401 = .ok (.invokevirtual 59, 3) := by decide +kernel
theorem dL_law_404 : decode cL_law 404 = .ok (.if_icmp .eq 559, 3) := by decide +kernel
theorem dL_law_407 : decode cL_law 407 = .ok (.iconst 0, 1) := by decide +kernel
theorem dL_law_408 : decode cL_law 408 = .ok (.ireturn, 1) := by decide +kernel
theorem dL_law_409 : decode cL_law 409 = .ok (.aload_n 1, 1) := by decide +kernel
theorem dL_law_410 : decode cL_law 410 = .ok (.aload_n 0, 1) := by decide +kernel
theorem dL_law_411 : decode cL_law 411 = .ok (.iload_n 3, 1) := by decide +kernel
theorem dL_law_412 : decode cL_law 412 = .ok (.iconst 1, 1) := by decide +kernel
theorem dL_law_413 : decode cL_law 413 = .ok (.iadd, 1) := by decide +kernel
theorem dL_law_414 : decode cL_law 414 = .ok (.iaload, 1) := by decide +kernel
theorem dL_law_415 : decode cL_law 415 = .ok (.aload_n 0, 1) := by decide +kernel
theorem dL_law_416 : decode cL_law 416 = .ok (.iload_n 3, 1) := by decide +kernel
theorem dL_law_417 : decode cL_law 417 = .ok (.iconst 2, 1) := by decide +kernel
theorem dL_law_418 : decode cL_law 418 = .ok (.iadd, 1) := by decide +kernel
theorem dL_law_419 : decode cL_law 419 = .ok (.iaload, 1) := by decide +kernel
theorem dL_law_420 : decode cL_law 420 = .ok (.invokevirtual 60, 3) := by decide +kernel
theorem dL_law_423 : decode cL_law 423 = .ok (.aload_n 2, 1) := by decide +kernel
theorem dL_law_424 : decode cL_law 424 = .ok (.aload_n 0, 1) := by decide +kernel
theorem dL_law_425 : decode cL_law 425 = .ok (.iload_n 3, 1) := by decide +kernel
theorem dL_law_426 : decode cL_law 426 = .ok (.iconst 1, 1) := by decide +kernel
theorem dL_law_427 : decode cL_law 427 = .ok (.iadd, 1) := by decide +kernel
theorem dL_law_428 : decode cL_law 428 = .ok (.iaload, 1) := by decide +kernel
theorem dL_law_429 : decode cL_law 429 = .ok (.aload_n 0, 1) := by decide +kernel
theorem dL_law_430 : decode cL_law 430 = .ok (.iload_n 3, 1) := by decide +kernel
theorem dL_law_431 : decode cL_law 431 = .ok (.iconst 2, 1) := by decide +kernel
theorem dL_law_432 : decode cL_law 432 = .ok (.iadd, 1) := by decide +kernel
theorem dL_law_433 : decode cL_law 433 = .ok (.iaload, 1) := by decide +kernel
theorem dL_law_434 : decode cL_law 434 = .ok (.invokevirtual 63, 3) := by decide +kernel
theorem dL_law_437 : decode cL_law 437 = .ok (.if_icmp .eq 526, 3) := by decide +kernel
theorem dL_law_440 : decode cL_law 440 = .ok (.iconst 0, 1) := by decide +kernel
theorem dL_law_441 : decode cL_law 441 = .ok (.ireturn, 1) := by decide +kernel
theorem dL_law_442 : decode cL_law 442 = .ok (.aload_n 1, 1) := by decide +kernel
theorem dL_law_443 : decode cL_law 443 = .ok (.aload_n 0, 1) := by decide +kernel
theorem dL_law_444 : decode cL_law 444 = .ok (.iload_n 3, 1) := by decide +kernel
theorem dL_law_445 : decode cL_law 445 = .ok (.iconst 1, 1) := by decide +kernel
theorem dL_law_446 : decode cL_law 446 = .ok (.iadd, 1) := by decide +kernel
theorem dL_law_447 : decode cL_law 447 = .ok (.iaload, 1) := by decide +kernel
theorem dL_law_448 : decode cL_law 448 = .ok (.aload_n 0, 1) := by decide +kernel
theorem dL_law_449 : decode cL_law 449 = .ok (.iload_n 3, 1) := by decide +kernel
theorem dL_law_450 : decode cL_law 450 = .ok (.iconst 2, 1) := by decide +kernel
theorem dL_law_451 : decode cL_law 451 = .ok (.iadd, 1) := by decide +kernel
theorem dL_law_452 : decode cL_law 452 = .ok (.iaload, 1) := by decide +kernel
theorem dL_law_453 : decode cL_law 453 = .ok (.invokevirtual 64, 3) := by decide +kernel
theorem dL_law_456 : decode cL_law 456 = .ok (.aload_n 2, 1) := by decide +kernel
theorem dL_law_457 : decode cL_law 457 = .ok (.aload_n 0, 1) := by decide +kernel
theorem dL_law_458 : decode cL_law 458 = .ok (.iload_n 3, 1) := by decide +kernel
theorem dL_law_459 : decode cL_law 459 = .ok (.iconst 1, 1) := by decide +kernel
theorem dL_law_460 : decode cL_law 460 = .ok (.iadd, 1) := by decide +kernel
theorem dL_law_461 : decode cL_law 461 = .ok (.iaload, 1) := by decide +kernel
theorem dL_law_462 : decode cL_law 462 = .ok (.aload_n 0, 1) := by decide +kernel
theorem dL_law_463 : decode cL_law 463 = .ok (.iload_n 3, 1) := by decide +kernel
theorem dL_law_464 : decode cL_law 464 = .ok (.iconst 2, 1) := by decide +kernel
theorem dL_law_465 : decode cL_law 465 = .ok (.iadd, 1) := by decide +kernel
theorem dL_law_466 : decode cL_law 466 = .ok (.iaload, 1) := by decide +kernel
theorem dL_law_467 : decode cL_law 467 = .ok (.invokevirtual 67, 3) := by decide +kernel
theorem dL_law_470 : decode cL_law 470 = .ok (.if_icmp .eq 493, 3) := by decide +kernel
theorem dL_law_473 : decode cL_law 473 = .ok (.iconst 0, 1) := by decide +kernel
theorem dL_law_474 : decode cL_law 474 = .ok (.ireturn, 1) := by decide +kernel
theorem dL_law_475 : decode cL_law 475 = .ok (.aload_n 1, 1) := by decide +kernel
theorem dL_law_476 : decode cL_law 476 = .ok (.aload_n 0, 1) := by decide +kernel
theorem dL_law_477 : decode cL_law 477 = .ok (.iload_n 3, 1) := by decide +kernel
theorem dL_law_478 : decode cL_law 478 = .ok (.iconst 1, 1) := by decide +kernel
theorem dL_law_479 : decode cL_law 479 = .ok (.iadd, 1) := by decide +kernel
theorem dL_law_480 : decode cL_law 480 = .ok (.iaload, 1) := by decide +kernel
theorem dL_law_481 : decode cL_law 481 = .ok (.aload_n 0, 1) := by decide +kernel
theorem dL_law_482 : decode cL_law 482 = .ok (.iload_n 3, 1) := by decide +kernel
theorem dL_law_483 : decode cL_law 483 = .ok (.iconst 2, 1) := by decide +kernel
theorem dL_law_484 : decode cL_law 484 = .ok (.iadd, 1) := by decide +kernel
theorem dL_law_485 : decode cL_law 485 = .ok (.iaload, 1) := by decide +kernel
theorem dL_law_486 : decode cL_law 486 = .ok (.invokevirtual 68, 3) := by decide +kernel
theorem dL_law_489 : decode cL_law 489 = .ok (.aload_n 2, 1) := by decide +kernel
theorem dL_law_490 : decode cL_law 490 = .ok (.aload_n 0, 1) := by decide +kernel
theorem dL_law_491 : decode cL_law 491 = .ok (.iload_n 3, 1) := by decide +kernel
theorem dL_law_492 : decode cL_law 492 = .ok (.iconst 1, 1) := by decide +kernel
theorem dL_law_493 : decode cL_law 493 = .ok (.iadd, 1) := by decide +kernel
theorem dL_law_494 : decode cL_law 494 = .ok (.iaload, 1) := by decide +kernel
theorem dL_law_495 : decode cL_law 495 = .ok (.aload_n 0, 1) := by decide +kernel
theorem dL_law_496 : decode cL_law 496 = .ok (.iload_n 3, 1) := by decide +kernel
theorem dL_law_497 : decode cL_law 497 = .ok (.iconst 2, 1) := by decide +kernel
theorem dL_law_498 : decode cL_law 498 = .ok (.iadd, 1) := by decide +kernel
theorem dL_law_499 : decode cL_law 499 = .ok (.iaload, 1) := by decide +kernel
theorem dL_law_500 : decode cL_law 500 = .ok (.invokevirtual 71, 3) := by decide +kernel
theorem dL_law_503 : decode cL_law 503 = .ok (.if_icmp .eq 460, 3) := by decide +kernel
theorem dL_law_506 : decode cL_law 506 = .ok (.iconst 0, 1) := by decide +kernel
theorem dL_law_507 : decode cL_law 507 = .ok (.ireturn, 1) := by decide +kernel
theorem dL_law_508 : decode cL_law 508 = .ok (.aload_n 1, 1) := by decide +kernel
theorem dL_law_509 : decode cL_law 509 = .ok (.aload_n 0, 1) := by decide +kernel
theorem dL_law_510 : decode cL_law 510 = .ok (.iload_n 3, 1) := by decide +kernel
theorem dL_law_511 : decode cL_law 511 = .ok (.iconst 1, 1) := by decide +kernel
theorem dL_law_512 : decode cL_law 512 = .ok (.iadd, 1) := by decide +kernel
theorem dL_law_513 : decode cL_law 513 = .ok (.iaload, 1) := by decide +kernel
theorem dL_law_514 : decode cL_law 514 = .ok (.aload_n 0, 1) := by decide +kernel
theorem dL_law_515 : decode cL_law 515 = .ok (.iload_n 3, 1) := by decide +kernel
theorem dL_law_516 : decode cL_law 516 = .ok (.iconst 2, 1) := by decide +kernel
theorem dL_law_517 : decode cL_law 517 = .ok (.iadd, 1) := by decide +kernel
theorem dL_law_518 : decode cL_law 518 = .ok (.iaload, 1) := by decide +kernel
theorem dL_law_519 : decode cL_law 519 = .ok (.aload_n 0, 1) := by decide +kernel
theorem dL_law_520 : decode cL_law 520 = .ok (.iload_n 3, 1) := by decide +kernel
theorem dL_law_521 : decode cL_law 521 = .ok (.iconst 3, 1) := by decide +kernel
theorem dL_law_522 : decode cL_law 522 = .ok (.iadd, 1) := by decide +kernel
theorem dL_law_523 : decode cL_law 523 = .ok (.iaload, 1) := by decide +kernel
theorem dL_law_524 : decode cL_law 524 = .ok (.invokevirtual 72, 3) := by decide +kernel
theorem dL_law_527 : decode cL_law 527 = .ok (.aload_n 2, 1) := by decide +kernel
theorem dL_law_528 : decode cL_law 528 = .ok (.aload_n 0, 1) := by decide +kernel
theorem dL_law_529 : decode cL_law 529 = .ok (.iload_n 3, 1) := by decide +kernel
theorem dL_law_530 : decode cL_law 530 = .ok (.iconst 1, 1) := by decide +kernel
theorem dL_law_531 : decode cL_law 531 = .ok (.iadd, 1) := by decide +kernel
theorem dL_law_532 : decode cL_law 532 = .ok (.iaload, 1) := by decide +kernel
theorem dL_law_533 : decode cL_law 533 = .ok (.aload_n 0, 1) := by decide +kernel
theorem dL_law_534 : decode cL_law 534 = .ok (.iload_n 3, 1) := by decide +kernel
theorem dL_law_535 : decode cL_law 535 = .ok (.iconst 2, 1) := by decide +kernel
theorem dL_law_536 : decode cL_law 536 = .ok (.iadd, 1) := by decide +kernel
theorem dL_law_537 : decode cL_law 537 = .ok (.iaload, 1) := by decide +kernel
theorem dL_law_538 : decode cL_law 538 = .ok (.aload_n 0, 1) := by decide +kernel
theorem dL_law_539 : decode cL_law 539 = .ok (.iload_n 3, 1) := by decide +kernel
theorem dL_law_540 : decode cL_law 540 = .ok (.iconst 3, 1) := by decide +kernel
theorem dL_law_541 : decode cL_law 541 = .ok (.iadd, 1) := by decide +kernel
theorem dL_law_542 : decode cL_law 542 = .ok (.iaload, 1) := by decide +kernel
theorem dL_law_543 : decode cL_law 543 = .ok (.invokevirtual 76, 3) := by decide +kernel
theorem dL_law_546 : decode cL_law 546 = .ok (.if_icmp .eq 417, 3) := by decide +kernel
theorem dL_law_549 : decode cL_law 549 = .ok (.iconst 0, 1) := by decide +kernel
theorem dL_law_550 : decode cL_law 550 = .ok (.ireturn, 1) := by decide +kernel
theorem dL_law_551 : decode cL_law 551 = .ok (.aload_n 1, 1) := by decide +kernel
theorem dL_law_552 : decode cL_law 552 = .ok (.aload_n 0, 1) := by decide +kernel
theorem dL_law_553 : decode cL_law 553 = .ok (.iload_n 3, 1) := by decide +kernel
theorem dL_law_554 : decode cL_law 554 = .ok (.iconst 1, 1) := by decide +kernel
theorem dL_law_555 : decode cL_law 555 = .ok (.iadd, 1) := by decide +kernel
theorem dL_law_556 : decode cL_law 556 = .ok (.iaload, 1) := by decide +kernel
theorem dL_law_557 : decode cL_law 557 = .ok (.aload_n 0, 1) := by decide +kernel
theorem dL_law_558 : decode cL_law 558 = .ok (.iload_n 3, 1) := by decide +kernel
theorem dL_law_559 : decode cL_law 559 = .ok (.iconst 2, 1) := by decide +kernel
theorem dL_law_560 : decode cL_law 560 = .ok (.iadd, 1) := by decide +kernel
theorem dL_law_561 : decode cL_law 561 = .ok (.iaload, 1) := by decide +kernel
theorem dL_law_562 : decode cL_law 562 = .ok (.aload_n 0, 1) := by decide +kernel
theorem dL_law_563 : decode cL_law 563 = .ok (.iload_n 3, 1) := by decide +kernel
theorem dL_law_564 : decode cL_law 564 = .ok (.iconst 3, 1) := by decide +kernel
theorem dL_law_565 : decode cL_law 565 = .ok (.iadd, 1) := by decide +kernel
theorem dL_law_566 : decode cL_law 566 = .ok (.iaload, 1) := by decide +kernel
theorem dL_law_567 : decode cL_law 567 = .ok (.aload_n 0, 1) := by decide +kernel
theorem dL_law_568 : decode cL_law 568 = .ok (.iload_n 3, 1) := by decide +kernel
theorem dL_law_569 : decode cL_law 569 = .ok (.iconst 4, 1) := by decide +kernel
theorem dL_law_570 : decode cL_law 570 = .ok (.iadd, 1) := by decide +kernel
theorem dL_law_571 : decode cL_law 571 = .ok (.iaload, 1) := by decide +kernel
theorem dL_law_572 : decode cL_law 572 = .ok (.aload_n 0, 1) := by decide +kernel
theorem dL_law_573 : decode cL_law 573 = .ok (.iload_n 3, 1) := by decide +kernel
theorem dL_law_574 : decode cL_law 574 = .ok (.iconst 5, 1) := by decide +kernel
theorem dL_law_575 : decode cL_law 575 = .ok (.iadd, 1) := by decide +kernel
theorem dL_law_576 : decode cL_law 576 = .ok (.iaload, 1) := by decide +kernel
theorem dL_law_577 : decode cL_law 577 = .ok (.invokevirtual 77, 3) := by decide +kernel
theorem dL_law_580 : decode cL_law 580 = .ok (.aload_n 2, 1) := by decide +kernel
theorem dL_law_581 : decode cL_law 581 = .ok (.aload_n 0, 1) := by decide +kernel
theorem dL_law_582 : decode cL_law 582 = .ok (.iload_n 3, 1) := by decide +kernel
theorem dL_law_583 : decode cL_law 583 = .ok (.iconst 1, 1) := by decide +kernel
theorem dL_law_584 : decode cL_law 584 = .ok (.iadd, 1) := by decide +kernel
theorem dL_law_585 : decode cL_law 585 = .ok (.iaload, 1) := by decide +kernel
theorem dL_law_586 : decode cL_law 586 = .ok (.aload_n 0, 1) := by decide +kernel
theorem dL_law_587 : decode cL_law 587 = .ok (.iload_n 3, 1) := by decide +kernel
theorem dL_law_588 : decode cL_law 588 = .ok (.iconst 2, 1) := by decide +kernel
theorem dL_law_589 : decode cL_law 589 = .ok (.iadd, 1) := by decide +kernel
theorem dL_law_590 : decode cL_law 590 = .ok (.iaload, 1) := by decide +kernel
theorem dL_law_591 : decode cL_law 591 = .ok (.aload_n 0, 1) := by decide +kernel
theorem dL_law_592 : decode cL_law 592 = .ok (.iload_n 3, 1) := by decide +kernel
theorem dL_law_593 : decode cL_law 593 = .ok (.iconst 3, 1) := by decide +kernel
theorem dL_law_594 : decode cL_law 594 = .ok (.iadd, 1) := by decide +kernel
theorem dL_law_595 : decode cL_law 595 = .ok (.iaload, 1) := by decide +kernel
theorem dL_law_596 : decode cL_law 596 = .ok (.aload_n 0, 1) := by decide +kernel
theorem dL_law_597 : decode cL_law 597 = .ok (.iload_n 3, 1) := by decide +kernel
theorem dL_law_598 : decode cL_law 598 = .ok (.iconst 4, 1) := by decide +kernel
theorem dL_law_599 : decode cL_law 599 = .ok (.iadd, 1) := by decide +kernel
theorem dL_law_600 : decode cL_law 600 = .ok (.iaload, 1) := by decide +kernel
theorem dL_law_601 : decode cL_law 601 = .ok (.aload_n 0, 1) := by decide +kernel
theorem dL_law_602 : decode cL_law 602 = .ok (.iload_n 3, 1) := by decide +kernel
theorem dL_law_603 : decode cL_law 603 = .ok (.iconst 5, 1) := by decide +kernel
theorem dL_law_604 : decode cL_law 604 = .ok (.iadd, 1) := by decide +kernel
theorem dL_law_605 : decode cL_law 605 = .ok (.iaload, 1) := by decide +kernel
theorem dL_law_606 : decode cL_law 606 = .ok (.invokevirtual 81, 3) := by decide +kernel
theorem dL_law_609 : decode cL_law 609 = .ok (.if_icmp .eq 354, 3) := by decide +kernel
theorem dL_law_612 : decode cL_law 612 = .ok (.iconst 0, 1) := by decide +kernel
theorem dL_law_613 : decode cL_law 613 = .ok (.ireturn, 1) := by decide +kernel
theorem dL_law_614 : decode cL_law 614 = .ok (.aload_n 1, 1) := by decide +kernel
theorem dL_law_615 : decode cL_law 615 = .ok (.aload_n 0, 1) := by decide +kernel
theorem dL_law_616 : decode cL_law 616 = .ok (.iload_n 3, 1) := by decide +kernel
theorem dL_law_617 : decode cL_law 617 = .ok (.iconst 1, 1) := by decide +kernel
theorem dL_law_618 : decode cL_law 618 = .ok (.iadd, 1) := by decide +kernel
theorem dL_law_619 : decode cL_law 619 = .ok (.iaload, 1) := by decide +kernel
theorem dL_law_620 : decode cL_law 620 = .ok (.aload_n 0, 1) := by decide +kernel
theorem dL_law_621 : decode cL_law 621 = .ok (.iload_n 3, 1) := by decide +kernel
theorem dL_law_622 : decode cL_law 622 = .ok (.iconst 2, 1) := by decide +kernel
theorem dL_law_623 : decode cL_law 623 = .ok (.iadd, 1) := by decide +kernel
theorem dL_law_624 : decode cL_law 624 = .ok (.iaload, 1) := by decide +kernel
theorem dL_law_625 : decode cL_law 625 = .ok (.invokevirtual 82, 3) := by decide +kernel
theorem dL_law_628 : decode cL_law 628 = .ok (.aload_n 2, 1) := by decide +kernel
theorem dL_law_629 : decode cL_law 629 = .ok (.aload_n 0, 1) := by decide +kernel
theorem dL_law_630 : decode cL_law 630 = .ok (.iload_n 3, 1) := by decide +kernel
theorem dL_law_631 : decode cL_law 631 = .ok (.iconst 1, 1) := by decide +kernel
theorem dL_law_632 : decode cL_law 632 = .ok (.iadd, 1) := by decide +kernel
theorem dL_law_633 : decode cL_law 633 = .ok (.iaload, 1) := by decide +kernel
theorem dL_law_634 : decode cL_law 634 = .ok (.aload_n 0, 1) := by decide +kernel
theorem dL_law_635 : decode cL_law 635 = .ok (.iload_n 3, 1) := by decide +kernel
theorem dL_law_636 : decode cL_law 636 = .ok (.iconst 2, 1) := by decide +kernel
theorem dL_law_637 : decode cL_law 637 = .ok (.iadd, 1) := by decide +kernel
theorem dL_law_638 : decode cL_law 638 = .ok (.iaload, 1) := by decide +kernel
theorem dL_law_639 : decode cL_law 639 = .ok (.invokevirtual 85, 3) := by decide +kernel
theorem dL_law_642 : decode cL_law 642 = .ok (.if_icmp .eq 321, 3) := by decide +kernel
theorem dL_law_645 : decode cL_law 645 = .ok (.iconst 0, 1) := by decide +kernel
theorem dL_law_646 : decode cL_law 646 = .ok (.ireturn, 1) := by decide +kernel
theorem dL_law_647 : decode cL_law 647 = .ok (.aload_n 1, 1) := by decide +kernel
theorem dL_law_648 : decode cL_law 648 = .ok (.aload_n 0, 1) := by decide +kernel
theorem dL_law_649 : decode cL_law 649 = .ok (.iload_n 3, 1) := by decide +kernel
theorem dL_law_650 : decode cL_law 650 = .ok (.iconst 1, 1) := by decide +kernel
theorem dL_law_651 : decode cL_law 651 = .ok (.iadd, 1) := by decide +kernel
theorem dL_law_652 : decode cL_law 652 = .ok (.iaload, 1) := by decide +kernel
theorem dL_law_653 : decode cL_law 653 = .ok (.aload_n 0, 1) := by decide +kernel
theorem dL_law_654 : decode cL_law 654 = .ok (.iload_n 3, 1) := by decide +kernel
theorem dL_law_655 : decode cL_law 655 = .ok (.iconst 2, 1) := by decide +kernel
theorem dL_law_656 : decode cL_law 656 = .ok (.iadd, 1) := by decide +kernel
theorem dL_law_657 : decode cL_law 657 = .ok (.iaload, 1) := by decide +kernel
theorem dL_law_658 : decode cL_law 658 = .ok (.aload_n 0, 1) := by decide +kernel
theorem dL_law_659 : decode cL_law 659 = .ok (.iload_n 3, 1) := by decide +kernel
theorem dL_law_660 : decode cL_law 660 = .ok (.iconst 3, 1) := by decide +kernel
theorem dL_law_661 : decode cL_law 661 = .ok (.iadd, 1) := by decide +kernel
theorem dL_law_662 : decode cL_law 662 = .ok (.iaload, 1) := by decide +kernel
theorem dL_law_663 : decode cL_law 663 = .ok (.aload_n 0, 1) := by decide +kernel
theorem dL_law_664 : decode cL_law 664 = .ok (.iload_n 3, 1) := by decide +kernel
theorem dL_law_665 : decode cL_law 665 = .ok (.iconst 4, 1) := by decide +kernel
theorem dL_law_666 : decode cL_law 666 = .ok (.iadd, 1) := by decide +kernel
theorem dL_law_667 : decode cL_law 667 = .ok (.iaload, 1) := by decide +kernel
theorem dL_law_668 : decode cL_law 668 = .ok (.invokevirtual 86, 3) := by decide +kernel
theorem dL_law_671 : decode cL_law 671 = .ok (.aload_n 2, 1) := by decide +kernel
theorem dL_law_672 : decode cL_law 672 = .ok (.aload_n 0, 1) := by decide +kernel
theorem dL_law_673 : decode cL_law 673 = .ok (.iload_n 3, 1) := by decide +kernel
theorem dL_law_674 : decode cL_law 674 = .ok (.iconst 1, 1) := by decide +kernel
theorem dL_law_675 : decode cL_law 675 = .ok (.iadd, 1) := by decide +kernel
theorem dL_law_676 : decode cL_law 676 = .ok (.iaload, 1) := by decide +kernel
theorem dL_law_677 : decode cL_law 677 = .ok (.aload_n 0, 1) := by decide +kernel
theorem dL_law_678 : decode cL_law 678 = .ok (.iload_n 3, 1) := by decide +kernel
theorem dL_law_679 : decode cL_law 679 = .ok (.iconst 2, 1) := by decide +kernel
theorem dL_law_680 : decode cL_law 680 = .ok (.iadd, 1) := by decide +kernel
theorem dL_law_681 : decode cL_law 681 = .ok (.iaload, 1) := by decide +kernel
theorem dL_law_682 : decode cL_law 682 = .ok (.aload_n 0, 1) := by decide +kernel
theorem dL_law_683 : decode cL_law 683 = .ok (.iload_n 3, 1) := by decide +kernel
theorem dL_law_684 : decode cL_law 684 = .ok (.iconst 3, 1) := by decide +kernel
theorem dL_law_685 : decode cL_law 685 = .ok (.iadd, 1) := by decide +kernel
theorem dL_law_686 : decode cL_law 686 = .ok (.iaload, 1) := by decide +kernel
theorem dL_law_687 : decode cL_law 687 = .ok (.aload_n 0, 1) := by decide +kernel
theorem dL_law_688 : decode cL_law 688 = .ok (.iload_n 3, 1) := by decide +kernel
theorem dL_law_689 : decode cL_law 689 = .ok (.iconst 4, 1) := by decide +kernel
theorem dL_law_690 : decode cL_law 690 = .ok (.iadd, 1) := by decide +kernel
theorem dL_law_691 : decode cL_law 691 = .ok (.iaload, 1) := by decide +kernel
theorem dL_law_692 : decode cL_law 692 = .ok (.invokevirtual 90, 3) := by decide +kernel
theorem dL_law_695 : decode cL_law 695 = .ok (.if_icmp .eq 268, 3) := by decide +kernel
theorem dL_law_698 : decode cL_law 698 = .ok (.iconst 0, 1) := by decide +kernel
theorem dL_law_699 : decode cL_law 699 = .ok (.ireturn, 1) := by decide +kernel
theorem dL_law_700 : decode cL_law 700 = .ok (.aload_n 1, 1) := by decide +kernel
theorem dL_law_701 : decode cL_law 701 = .ok (.aload_n 0, 1) := by decide +kernel
theorem dL_law_702 : decode cL_law 702 = .ok (.iload_n 3, 1) := by decide +kernel
theorem dL_law_703 : decode cL_law 703 = .ok (.iconst 1, 1) := by decide +kernel
theorem dL_law_704 : decode cL_law 704 = .ok (.iadd, 1) := by decide +kernel
theorem dL_law_705 : decode cL_law 705 = .ok (.iaload, 1) := by decide +kernel
theorem dL_law_706 : decode cL_law 706 = .ok (.aload_n 0, 1) := by decide +kernel
theorem dL_law_707 : decode cL_law 707 = .ok (.iload_n 3, 1) := by decide +kernel
theorem dL_law_708 : decode cL_law 708 = .ok (.iconst 2, 1) := by decide +kernel
theorem dL_law_709 : decode cL_law 709 = .ok (.iadd, 1) := by decide +kernel
theorem dL_law_710 : decode cL_law 710 = .ok (.iaload, 1) := by decide +kernel
theorem dL_law_711 : decode cL_law 711 = .ok (.aload_n 0, 1) := by decide +kernel
theorem dL_law_712 : decode cL_law 712 = .ok (.iload_n 3, 1) := by decide +kernel
theorem dL_law_713 : decode cL_law 713 = .ok (.iconst 3, 1) := by decide +kernel
theorem dL_law_714 : decode cL_law 714 = .ok (.iadd, 1) := by decide +kernel
theorem dL_law_715 : decode cL_law 715 = .ok (.iaload, 1) := by decide +kernel
theorem dL_law_716 : decode cL_law 716 = .ok (.aload_n 0, 1) := by decide +kernel
theorem dL_law_717 : decode cL_law 717 = .ok (.iload_n 3, 1) := by decide +kernel
theorem dL_law_718 : decode cL_law 718 = .ok (.iconst 4, 1) := by decide +kernel
theorem dL_law_719 : decode cL_law 719 = .ok (.iadd, 1) := by decide +kernel
theorem dL_law_720 : decode cL_law 720 = .ok (.iaload, 1) := by decide +kernel
theorem dL_law_721 : decode cL_law 721 = .ok (.ifCond .eq 7, 3) := by decide +kernel
theorem dL_law_724 : decode cL_law 724 = .ok (.iconst 1, 1) := by decide +kernel
theorem dL_law_725 : decode cL_law 725 = .ok (.goto 4, 3) := by decide +kernel
theorem dL_law_728 : decode cL_law 728 = .ok (.iconst 0, 1) := by decide +kernel
theorem dL_law_729 : decode cL_law 729 = .ok (.invokevirtual 91, 3) := by decide +kernel
theorem dL_law_732 : decode cL_law 732 = .ok (.aload_n 2, 1) := by decide +kernel
theorem dL_law_733 : decode cL_law 733 = .ok (.aload_n 0, 1) := by decide +kernel
theorem dL_law_734 : decode cL_law 734 = .ok (.iload_n 3, 1) := by decide +kernel
theorem dL_law_735 : decode cL_law 735 = .ok (.iconst 1, 1) := by decide +kernel
theorem dL_law_736 : decode cL_law 736 = .ok (.iadd, 1) := by decide +kernel
theorem dL_law_737 : decode cL_law 737 = .ok (.iaload, 1) := by decide +kernel
theorem dL_law_738 : decode cL_law 738 = .ok (.aload_n 0, 1) := by decide +kernel
theorem dL_law_739 : decode cL_law 739 = .ok (.iload_n 3, 1) := by decide +kernel
theorem dL_law_740 : decode cL_law 740 = .ok (.iconst 2, 1) := by decide +kernel
theorem dL_law_741 : decode cL_law 741 = .ok (.iadd, 1) := by decide +kernel
theorem dL_law_742 : decode cL_law 742 = .ok (.iaload, 1) := by decide +kernel
theorem dL_law_743 : decode cL_law 743 = .ok (.aload_n 0, 1) := by decide +kernel
theorem dL_law_744 : decode cL_law 744 = .ok (.iload_n 3, 1) := by decide +kernel
theorem dL_law_745 : decode cL_law 745 = .ok (.iconst 3, 1) := by decide +kernel
theorem dL_law_746 : decode cL_law 746 = .ok (.iadd, 1) := by decide +kernel
theorem dL_law_747 : decode cL_law 747 = .ok (.iaload, 1) := by decide +kernel
theorem dL_law_748 : decode cL_law 748 = .ok (.aload_n 0, 1) := by decide +kernel
theorem dL_law_749 : decode cL_law 749 = .ok (.iload_n 3, 1) := by decide +kernel
theorem dL_law_750 : decode cL_law 750 = .ok (.iconst 4, 1) := by decide +kernel
theorem dL_law_751 : decode cL_law 751 = .ok (.iadd, 1) := by decide +kernel
theorem dL_law_752 : decode cL_law 752 = .ok (.iaload, 1) := by decide +kernel
theorem dL_law_753 : decode cL_law 753 = .ok (.ifCond .eq 7, 3) := by decide +kernel
theorem dL_law_756 : decode cL_law 756 = .ok (.iconst 1, 1) := by decide +kernel
theorem dL_law_757 : decode cL_law 757 = .ok (.goto 4, 3) := by decide +kernel
theorem dL_law_760 : decode cL_law 760 = .ok (.iconst 0, 1) := by decide +kernel
theorem dL_law_761 : decode cL_law 761 = .ok (.invokevirtual 95, 3) := by decide +kernel
theorem dL_law_764 : decode cL_law 764 = .ok (.if_icmp .eq 199, 3) := by decide +kernel
theorem dL_law_767 : decode cL_law 767 = .ok (.iconst 0, 1) := by decide +kernel
theorem dL_law_768 : decode cL_law 768 = .ok (.ireturn, 1) := by decide +kernel
theorem dL_law_769 : decode cL_law 769 = .ok (.aload_n 1, 1) := by decide +kernel
theorem dL_law_770 : decode cL_law 770 = .ok (.invokevirtual 96, 3) := by decide +kernel
theorem dL_law_773 : decode cL_law 773 = .ok (.aload_n 2, 1) := by decide +kernel
theorem dL_law_774 : decode cL_law 774 = .ok (.invokevirtual 99, 3) := by decide +kernel
theorem dL_law_777 : decode cL_law 777 = .ok (.if_icmp .eq 186, 3) := by decide +kernel
theorem dL_law_780 : decode cL_law 780 = .ok (.iconst 0, 1) := by decide +kernel
theorem dL_law_781 : decode cL_law 781 = .ok (.ireturn, 1) := by decide +kernel
theorem dL_law_782 : decode cL_law 782 = .ok (.aload_n 1, 1) := by decide +kernel
theorem dL_law_783 : decode cL_law 783 = .ok (.aload_n 0, 1) := by decide +kernel
theorem dL_law_784 : decode cL_law 784 = .ok (.iload_n 3, 1) := by decide +kernel
theorem dL_law_785 : decode cL_law 785 = .ok (.iconst 1, 1) := by decide +kernel
theorem dL_law_786 : decode cL_law 786 = .ok (.iadd, 1) := by decide +kernel
theorem dL_law_787 : decode cL_law 787 = .ok (.iaload, 1) := by decide +kernel
theorem dL_law_788 : decode cL_law 788 = .ok (.invokevirtual 100, 3) := by decide +kernel
theorem dL_law_791 : decode cL_law 791 = .ok (.aload_n 2, 1) := by decide +kernel
theorem dL_law_792 : decode cL_law 792 = .ok (.aload_n 0, 1) := by decide +kernel
theorem dL_law_793 : decode cL_law 793 = .ok (.iload_n 3, 1) := by decide +kernel
theorem dL_law_794 : decode cL_law 794 = .ok (.iconst 1, 1) := by decide +kernel
theorem dL_law_795 : decode cL_law 795 = .ok (.iadd, 1) := by decide +kernel
theorem dL_law_796 : decode cL_law 796 = .ok (.iaload, 1) := by decide +kernel
theorem dL_law_797 : decode cL_law 797 = .ok (.invokevirtual 103, 3) := by decide +kernel
theorem dL_law_800 : decode cL_law 800 = .ok (.if_icmp .eq 163, 3) := by decide +kernel
theorem dL_law_803 : decode cL_law 803 = .ok (.iconst 0, 1) := by decide +kernel
theorem dL_law_804 : decode cL_law 804 = .ok (.ireturn, 1) := by decide +kernel
theorem dL_law_805 : decode cL_law 805 = .ok (.aload_n 1, 1) := by decide +kernel
theorem dL_law_806 : decode cL_law 806 = .ok (.invokevirtual 104, 3) := by decide +kernel
theorem dL_law_809 : decode cL_law 809 = .ok (.aload_n 2, 1) := by decide +kernel
theorem dL_law_810 : decode cL_law 810 = .ok (.invokevirtual 107, 3) := by decide +kernel
theorem dL_law_813 : decode cL_law 813 = .ok (.if_icmp .eq 150, 3) := by decide +kernel
theorem dL_law_816 : decode cL_law 816 = .ok (.iconst 0, 1) := by decide +kernel
theorem dL_law_817 : decode cL_law 817 = .ok (.ireturn, 1) := by decide +kernel
theorem dL_law_818 : decode cL_law 818 = .ok (.aload_n 1, 1) := by decide +kernel
theorem dL_law_819 : decode cL_law 819 = .ok (.aload_n 0, 1) := by decide +kernel
theorem dL_law_820 : decode cL_law 820 = .ok (.iload_n 3, 1) := by decide +kernel
theorem dL_law_821 : decode cL_law 821 = .ok (.iconst 1, 1) := by decide +kernel
theorem dL_law_822 : decode cL_law 822 = .ok (.iadd, 1) := by decide +kernel
theorem dL_law_823 : decode cL_law 823 = .ok (.iaload, 1) := by decide +kernel
theorem dL_law_824 : decode cL_law 824 = .ok (.aload_n 0, 1) := by decide +kernel
theorem dL_law_825 : decode cL_law 825 = .ok (.iload_n 3, 1) := by decide +kernel
theorem dL_law_826 : decode cL_law 826 = .ok (.iconst 2, 1) := by decide +kernel
theorem dL_law_827 : decode cL_law 827 = .ok (.iadd, 1) := by decide +kernel
theorem dL_law_828 : decode cL_law 828 = .ok (.iaload, 1) := by decide +kernel
theorem dL_law_829 : decode cL_law 829 = .ok (.aload_n 0, 1) := by decide +kernel
theorem dL_law_830 : decode cL_law 830 = .ok (.iload_n 3, 1) := by decide +kernel
theorem dL_law_831 : decode cL_law 831 = .ok (.iconst 3, 1) := by decide +kernel
theorem dL_law_832 : decode cL_law 832 = .ok (.iadd, 1) := by decide +kernel
theorem dL_law_833 : decode cL_law 833 = .ok (.iaload, 1) := by decide +kernel
theorem dL_law_834 : decode cL_law 834 = .ok (.aload_n 0, 1) := by decide +kernel
theorem dL_law_835 : decode cL_law 835 = .ok (.iload_n 3, 1) := by decide +kernel
theorem dL_law_836 : decode cL_law 836 = .ok (.iconst 4, 1) := by decide +kernel
theorem dL_law_837 : decode cL_law 837 = .ok (.iadd, 1) := by decide +kernel
theorem dL_law_838 : decode cL_law 838 = .ok (.iaload, 1) := by decide +kernel
theorem dL_law_839 : decode cL_law 839 = .ok (.invokevirtual 108, 3) := by decide +kernel
theorem dL_law_842 : decode cL_law 842 = .ok (.aload_n 2, 1) := by decide +kernel
theorem dL_law_843 : decode cL_law 843 = .ok (.aload_n 0, 1) := by decide +kernel
theorem dL_law_844 : decode cL_law 844 = .ok (.iload_n 3, 1) := by decide +kernel
theorem dL_law_845 : decode cL_law 845 = .ok (.iconst 1, 1) := by decide +kernel
theorem dL_law_846 : decode cL_law 846 = .ok (.iadd, 1) := by decide +kernel
theorem dL_law_847 : decode cL_law 847 = .ok (.iaload, 1) := by decide +kernel
theorem dL_law_848 : decode cL_law 848 = .ok (.aload_n 0, 1) := by decide +kernel
theorem dL_law_849 : decode cL_law 849 = .ok (.iload_n 3, 1) := by decide +kernel
theorem dL_law_850 : decode cL_law 850 = .ok (.iconst 2, 1) := by decide +kernel
theorem dL_law_851 : decode cL_law 851 = .ok (.iadd, 1) := by decide +kernel
theorem dL_law_852 : decode cL_law 852 = .ok (.iaload, 1) := by decide +kernel
theorem dL_law_853 : decode cL_law 853 = .ok (.aload_n 0, 1) := by decide +kernel
theorem dL_law_854 : decode cL_law 854 = .ok (.iload_n 3, 1) := by decide +kernel
theorem dL_law_855 : decode cL_law 855 = .ok (.iconst 3, 1) := by decide +kernel
theorem dL_law_856 : decode cL_law 856 = .ok (.iadd, 1) := by decide +kernel
theorem dL_law_857 : decode cL_law 857 = .ok (.iaload, 1) := by decide +kernel
theorem dL_law_858 : decode cL_law 858 = .ok (.aload_n 0, 1) := by decide +kernel
theorem dL_law_859 : decode cL_law 859 = .ok (.iload_n 3, 1) := by decide +kernel
theorem dL_law_860 : decode cL_law 860 = .ok (.iconst 4, 1) := by decide +kernel
theorem dL_law_861 : decode cL_law 861 = .ok (.iadd, 1) := by decide +kernel
theorem dL_law_862 : decode cL_law 862 = .ok (.iaload, 1) := by decide +kernel
theorem dL_law_863 : decode cL_law 863 = .ok (.invokevirtual 111, 3) := by decide +kernel
theorem dL_law_866 : decode cL_law 866 = .ok (.if_icmp .eq 97, 3) := by decide +kernel
theorem dL_law_869 : decode cL_law 869 = .ok (.iconst 0, 1) := by decide +kernel
theorem dL_law_870 : decode cL_law 870 = .ok (.ireturn, 1) := by decide +kernel
theorem dL_law_871 : decode cL_law 871 = .ok (.aload_n 1, 1) := by decide +kernel
theorem dL_law_872 : decode cL_law 872 = .ok (.aload_n 0, 1) := by decide +kernel
theorem dL_law_873 : decode cL_law 873 = .ok (.iload_n 3, 1) := by decide +kernel
theorem dL_law_874 : decode cL_law 874 = .ok (.iconst 1, 1) := by decide +kernel
theorem dL_law_875 : decode cL_law 875 = .ok (.iadd, 1) := by decide +kernel
theorem dL_law_876 : decode cL_law 876 = .ok (.iaload, 1) := by decide +kernel
theorem dL_law_877 : decode cL_law 877 = .ok (.aload_n 0, 1) := by decide +kernel
theorem dL_law_878 : decode cL_law 878 = .ok (.iload_n 3, 1) := by decide +kernel
theorem dL_law_879 : decode cL_law 879 = .ok (.iconst 2, 1) := by decide +kernel
theorem dL_law_880 : decode cL_law 880 = .ok (.iadd, 1) := by decide +kernel
theorem dL_law_881 : decode cL_law 881 = .ok (.iaload, 1) := by decide +kernel
theorem dL_law_882 : decode cL_law 882 = .ok (.aload_n 0, 1) := by decide +kernel
theorem dL_law_883 : decode cL_law 883 = .ok (.iload_n 3, 1) := by decide +kernel
theorem dL_law_884 : decode cL_law 884 = .ok (.iconst 3, 1) := by decide +kernel
theorem dL_law_885 : decode cL_law 885 = .ok (.iadd, 1) := by decide +kernel
theorem dL_law_886 : decode cL_law 886 = .ok (.iaload, 1) := by decide +kernel
theorem dL_law_887 : decode cL_law 887 = .ok (.invokevirtual 112, 3) := by decide +kernel
theorem dL_law_890 : decode cL_law 890 = .ok (.aload_n 2, 1) := by decide +kernel
theorem dL_law_891 : decode cL_law 891 = .ok (.aload_n 0, 1) := by decide +kernel
theorem dL_law_892 : decode cL_law 892 = .ok (.iload_n 3, 1) := by decide +kernel
theorem dL_law_893 : decode cL_law 893 = .ok (.iconst 1, 1) := by decide +kernel
theorem dL_law_894 : decode cL_law 894 = .ok (.iadd, 1) := by decide +kernel
theorem dL_law_895 : decode cL_law 895 = .ok (.iaload, 1) := by decide +kernel
theorem dL_law_896 : decode cL_law 896 = .ok (.aload_n 0, 1) := by decide +kernel
theorem dL_law_897 : decode cL_law 897 = .ok (.iload_n 3, 1) := by decide +kernel
theorem dL_law_898 : decode cL_law 898 = .ok (.iconst 2, 1) := by decide +kernel
theorem dL_law_899 : decode cL_law 899 = .ok (.iadd, 1) := by decide +kernel
theorem dL_law_900 : decode cL_law 900 = .ok (.iaload, 1) := by decide +kernel
theorem dL_law_901 : decode cL_law 901 = .ok (.aload_n 0, 1) := by decide +kernel
theorem dL_law_902 : decode cL_law 902 = .ok (.iload_n 3, 1) := by decide +kernel
theorem dL_law_903 : decode cL_law 903 = .ok (.iconst 3, 1) := by decide +kernel
theorem dL_law_904 : decode cL_law 904 = .ok (.iadd, 1) := by decide +kernel
theorem dL_law_905 : decode cL_law 905 = .ok (.iaload, 1) := by decide +kernel
theorem dL_law_906 : decode cL_law 906 = .ok (.invokevirtual 115, 3) := by decide +kernel
theorem dL_law_909 : decode cL_law 909 = .ok (.if_icmp .eq 54, 3) := by decide +kernel
theorem dL_law_912 : decode cL_law 912 = .ok (.iconst 0, 1) := by decide +kernel
theorem dL_law_913 : decode cL_law 913 = .ok (.ireturn, 1) := by decide +kernel
theorem dL_law_914 : decode cL_law 914 = .ok (.aload_n 1, 1) := by decide +kernel
theorem dL_law_915 : decode cL_law 915 = .ok (.invokevirtual 116, 3) := by decide +kernel
theorem dL_law_918 : decode cL_law 918 = .ok (.aload_n 2, 1) := by decide +kernel
theorem dL_law_919 : decode cL_law 919 = .ok (.invokevirtual 119, 3) := by decide +kernel
theorem dL_law_922 : decode cL_law 922 = .ok (.if_icmp .eq 41, 3) := by decide +kernel
theorem dL_law_925 : decode cL_law 925 = .ok (.iconst 0, 1) := by decide +kernel
theorem dL_law_926 : decode cL_law 926 = .ok (.ireturn, 1) := by decide +kernel
theorem dL_law_927 : decode cL_law 927 = .ok (.aload_n 1, 1) := by decide +kernel
theorem dL_law_928 : decode cL_law 928 = .ok (.invokevirtual 120, 3) := by decide +kernel
theorem dL_law_931 : decode cL_law 931 = .ok (.aload_n 2, 1) := by decide +kernel
theorem dL_law_932 : decode cL_law 932 = .ok (.invokevirtual 123, 3) := by decide +kernel
theorem dL_law_935 : decode cL_law 935 = .ok (.if_icmp .eq 28, 3) := by decide +kernel
theorem dL_law_938 : decode cL_law 938 = .ok (.iconst 0, 1) := by decide +kernel
theorem dL_law_939 : decode cL_law 939 = .ok (.ireturn, 1) := by decide +kernel
theorem dL_law_940 : decode cL_law 940 = .ok (.aload_n 1, 1) := by decide +kernel
theorem dL_law_941 : decode cL_law 941 = .ok (.aload_n 0, 1) := by decide +kernel
theorem dL_law_942 : decode cL_law 942 = .ok (.iload_n 3, 1) := by decide +kernel
theorem dL_law_943 : decode cL_law 943 = .ok (.iconst 1, 1) := by decide +kernel
theorem dL_law_944 : decode cL_law 944 = .ok (.iadd, 1) := by decide +kernel
theorem dL_law_945 : decode cL_law 945 = .ok (.iaload, 1) := by decide +kernel
theorem dL_law_946 : decode cL_law 946 = .ok (.invokevirtual 124, 3) := by decide +kernel
theorem dL_law_949 : decode cL_law 949 = .ok (.aload_n 2, 1) := by decide +kernel
theorem dL_law_950 : decode cL_law 950 = .ok (.aload_n 0, 1) := by decide +kernel
theorem dL_law_951 : decode cL_law 951 = .ok (.iload_n 3, 1) := by decide +kernel
theorem dL_law_952 : decode cL_law 952 = .ok (.iconst 1, 1) := by decide +kernel
theorem dL_law_953 : decode cL_law 953 = .ok (.iadd, 1) := by decide +kernel
theorem dL_law_954 : decode cL_law 954 = .ok (.iaload, 1) := by decide +kernel
theorem dL_law_955 : decode cL_law 955 = .ok (.invokevirtual 127, 3) := by decide +kernel
theorem dL_law_958 : decode cL_law 958 = .ok (.if_icmp .eq 5, 3) := by decide +kernel
theorem dL_law_961 : decode cL_law 961 = .ok (.iconst 0, 1) := by decide +kernel
theorem dL_law_962 : decode cL_law 962 = .ok (.ireturn, 1) := by decide +kernel
theorem dL_law_963 : decode cL_law 963 = .ok (.iinc 3 6, 3) := by decide +kernel
theorem dL_law_966 : decode cL_law 966 = .ok (.goto (-948), 3) := by decide +kernel
theorem dL_law_969 : decode cL_law 969 = .ok (.iconst 1, 1) := by decide +kernel
theorem dL_law_970 : decode cL_law 970 = .ok (.ireturn, 1) := by decide +kernel
end
section
/-! THE MACHINE, A PURE VALUE CARRIED ALONG: G says: if the pure value o is some answer and state, the machine, from here, comes to the method's end with them -/
abbrev St : Type := Nat → Nat → Int32
abbrev Ot : Type := Option (Int32 × St)
def nm {α β : Type} (x : α) (f : α → β) : β := f x
def up (σ : St) (p : Nat) (f : Nat → Int32) : St := fun j => cond (Nat.beq j p) f (σ j)
def uf (f : Nat → Int32) (k : Nat) (v : Int32) : Nat → Int32 := fun j => cond (Nat.beq j k) v (f j)
def pf (σ : St) (p k : Nat) (v : Int32) : St := up σ p (uf (σ p) k v)
def ps (σ : St) (p : Nat) (i v : Int32) : St := up σ p (upd (σ p) i.toNatClampNeg v)
def inb (i : Int32) (n : Nat) : Bool := !(decide (i < 0) || decide (n ≤ i.toNatClampNeg))
def gd (i : Int32) (n : Nat) (k : Ot) : Ot := cond (inb i n) k none
def nz (y : Int32) (k : Ot) : Ot := if y = 0 then none else k
def nzl (y : Int64) (k : Ot) : Ot := if y = 0 then none else k
def zg (v : Int32) (k : Ot) : Ot := if v = 0 then k else if v = 1 then k else none
def bnd (o : Ot) (f : Int32 → St → Ot) : Ot := o.bind fun x => f x.1 x.2
theorem gd_some {i : Int32} {n : Nat} {k : Ot} {r : Int32 × St} (h : gd i n k = some r) : vp_in i n ∧ k = some r := by
  unfold gd at h
  cases hb : inb i n with
  | false => rw [hb] at h; cases h
  | true =>
    rw [hb] at h
    refine ⟨?_, h⟩
    unfold inb at hb
    intro hc
    rcases hc with hc | hc <;> simp [hc] at hb
theorem nz_some {y : Int32} {k : Ot} {r : Int32 × St} (h : nz y k = some r) : ¬ y = 0 ∧ k = some r := by
  unfold nz at h
  split at h
  · cases h
  · exact ⟨by assumption, h⟩
theorem nzl_some {y : Int64} {k : Ot} {r : Int32 × St} (h : nzl y k = some r) : ¬ y = 0 ∧ k = some r := by
  unfold nzl at h
  split at h
  · cases h
  · exact ⟨by assumption, h⟩
theorem zg_some {v : Int32} {k : Ot} {r : Int32 × St} (h : zg v k = some r) : (v = 0 ∨ v = 1) ∧ k = some r := by
  unfold zg at h
  split at h
  · exact ⟨Or.inl (by assumption), h⟩
  · split at h
    · exact ⟨Or.inr (by assumption), h⟩
    · cases h
theorem bnd_some {o : Ot} {f : Int32 → St → Ot} {r : Int32 × St} (h : bnd o f = some r) : ∃ x : Int32 × St, o = some x ∧ f x.1 x.2 = some r := by
  unfold bnd at h
  exact Option.bind_eq_some_iff.mp h
def rmD (d : Nat) : Room := { frames := d, cells := 0, slots := 0, locals := 30 * d }
abbrev Gs : Type := Launch × va_G × List (ClassId × FieldType) × (Nat → Prop) × (St → va_W) × (Nat → Nat)
abbrev sL (S : Gs) : Launch := S.1
abbrev sD (S : Gs) : va_G := S.2.1
abbrev sT (S : Gs) : List (ClassId × FieldType) := S.2.2.1
abbrev sA (S : Gs) : Nat → Prop := S.2.2.2.1
abbrev sW (S : Gs) : St → va_W := S.2.2.2.2.1
abbrev sP (S : Gs) : Nat → Nat := S.2.2.2.2.2
/-- a place, or none (-1) -/
def pq (a : Nat → Nat) (r : Int32) : Option Nat := if r = -1 then none else some (a r.toNatClampNeg)
abbrev Gm : Type := Program × Env × State × MethodId × Array Value × List Frame × Method × Code
abbrev mp (Γ : Gm) : Program := Γ.1
abbrev me (Γ : Gm) : Env := Γ.2.1
abbrev mz (Γ : Gm) : State := Γ.2.2.1
abbrev mm (Γ : Gm) : MethodId := Γ.2.2.2.1
abbrev ma (Γ : Gm) : Array Value := Γ.2.2.2.2.1
abbrev mb (Γ : Gm) : List Frame := Γ.2.2.2.2.2.1
abbrev mh (Γ : Gm) : Method := Γ.2.2.2.2.2.2.1
abbrev mc (Γ : Gm) : Code := Γ.2.2.2.2.2.2.2

def nestL : List (String × Nat × MethodName × String) := [(RX10, 9, yX7_init, RX10), (RX10, 27, yX4_init, RX10), (RX10, 37, yX9_init, RX10), (RX5, 22, yX9_init, RX10), (RX7, 19, yX10_put, RX10), (RX4, 53, yX10_fill, RX10), (RX4, 76, yX10_within, RX10), (RX4, 79, yX10_bit, RX10), (RX7, 23, yX10_at, RX10), (RX6, 56, yX10_within, RX10), (RX6, 48, yX10_put, RX10), (RX4, 61, yX10_at, RX10), (RX4, 86, yX10_isWidth, RX10), (RX4, 89, yX10_put, RX10), (RX9, 28, yX10_put, RX10), (RX9, 39, yX10_bit, RX10), (RX9, 46, yX10_at, RX10), (RX9, 52, yX10_holds, RX10), (RX9, 42, yX10_copy, RX10), (RX1, 74, yX10_bit, RX10), (RX1, 80, yX10_put, RX10), (RX1, 98, yX10_at, RX10), (RX1, 102, yX10_holds, RX10), (RX3, 39, yX10_bit, RX10), (RX3, 46, yX10_holds, RX10), (RX8, 36, yX10_put, RX10), (RX8, 59, yX10_at, RX10), (RX8, 49, yX10_bit, RX10), (RX8, 81, yX10_holds, RX10), (RX0, 44, yX10_holds, RX10)]
def NW (U : State) : Prop := ∀ q ∈ nestL, va_Nw (.methodLinkNest q.1 q.2.1 q.2.2.1 q.2.2.2) U
theorem NW.warm {s U : State} (hW : s.WarmedH U.vm) (h : NW s) : NW U := fun q hq => va_Nw.warmM hW (h q hq)
theorem NW.same {u U : State} (e : u.vm = U.vm) (h : NW u) : NW U := fun q hq => va_Nw.same rfl e (h q hq)
def CX (S : Gs) (Γ : Gm) (cc : ByteArray) (nL : Nat) (own : String) (rk : Option FieldType) : Prop :=
  (mp Γ).tables.exec = Jvm.exec ∧ (mc Γ).code = cc ∧ (mc Γ).maxLocals = nL ∧ (mh Γ).sig.returnType = rk ∧ (mh Γ).locks = false ∧ (∀ w ∈ wsL_law, w.before (ma Γ) (mz Γ) = true) ∧ (mz Γ).vm.findClass own = some (mm Γ).cls ∧ va_K (sD S) vwCl (sT S) (mz Γ) ∧ NW (mz Γ) ∧ ∀ σ : St, va_D (sA S) (sW S σ)
def Qk (S : Gs) (rk : Option FieldType) (r : Int32 × St) : Array Value → State → Outcome → State → Prop := match rk with
  | none => va_Qv (fun u : St => u = r.2) (fun u t => va_P (sD S) vwCl (sW S u) t.heap) (sA S)
  | some (.object _) => va_Qq (fun (x : Option Nat) (u : St) => x = pq (sP S) r.1 ∧ u = r.2) (fun u t => va_P (sD S) vwCl (sW S u) t.heap) (sA S)
  | some _ => va_Qi (fun (x : Int32) (u : St) => x = r.1 ∧ u = r.2) (fun u t => va_P (sD S) vwCl (sW S u) t.heap) (sA S)
def G (S : Gs) (Γ : Gm) (cc : ByteArray) (nL : Nat) (own : String) (rk : Option FieldType) (d : Nat) (o : Ot) (σ : St) (lv : List (Nat × Value)) (pc : Nat) (st : List Value) : Prop :=
  CX S Γ cc nL own rk → ∀ r : Int32 × St, o = some r → ∀ (H : Heap) (locs : List Loc), va_P (sD S) vwCl (sW S σ) H → va_S (sA S) (mz Γ).heap H locs → ∀ ls : Array Slot, lv_has ls nL lv →
    W (mp Γ) (sL S) (me Γ) (rmD d) (mz Γ) (mm Γ) (ma Γ) (mb Γ) (mh Γ) (mc Γ) H locs 0 0 (MQ (mb Γ) (Qk S rk r) (ma Γ) (mz Γ) 0 0 (sA S)) (F0 (mm Γ) pc ls st)
def Kc (S : Gs) (y : MethodName) (cc : ByteArray) (nL : Nat) (rk : Option FieldType) (d : Nat) (av : List Value) (σ : St) (r : Int32 × St) : Prop :=
  Met (sL S) y (.code y cc nL rk :: wsL_law) (rmD d) (va_Pc av (fun U => va_P (sD S) vwCl (sW S σ) U.heap ∧ va_K (sD S) vwCl (sT S) U ∧ NW U)) (Qk S rk r) 0 0 (sA S)
set_option maxRecDepth 100000 in
theorem big_good : wsL_law.all goodWord = true := by decide +kernel
theorem big_in {w : Cond} (h : w ∈ wsL_law) : (w.onTables && w.keeps) = true ∨ ∃ ty, w = .arrayClass ty := good_of_word (List.all_eq_true.mp big_good w h)
/-- a method's start -/
theorem enter {S : Gs} {y : MethodName} {cc : ByteArray} {nL : Nat} {own : String} {rk : Option FieldType} {d : Nat} {av : List Value} {σ : St} {o : Ot} {r : Int32 × St} (hy : plainName y.cls = true) (hown : y.cls = own) (hlen : (lg_sl av).length ≤ nL) (hA : ∀ σ : St, va_D (sA S) (sW S σ)) (hc : (Cond.code y cc nL rk) ∈ wsL_law) (ho : o = some r)
    (h : ∀ Γ : Gm, G S Γ cc nL own rk d o σ (lv_args 0 av) 0 []) : Kc S y cc nL rk d av σ r := by
  refine Met.ofW (cc := cc) (maxL := nL) (ret := rk) hy rfl ?_
  intro p e s m args below meth c s₁ B hml hv
  obtain ⟨rfl, hP, hK, hN⟩ := hv
  have hts := atoms_spec (ws := .code y cc nL rk :: wsL_law) B.pre
  have hl := lv_entry av (n := nL) hlen
  rw [lg_entry_eq]
  exact h (p, e, s, m, av.toArray, below, meth, c) ⟨B.exec, B.bytes, hml, B.returns, B.notSynchronized, fun w hw => hts w (List.mem_cons_of_mem _ hw), by rw [← hown]; exact findClass_of_methodNamed B.named, hK, hN, hA⟩ r ho s.heap [] hP va_S.rf _ hl
section ROWS
variable {S : Gs} {Γ : Gm} {cc : ByteArray} {nL : Nat} {own : String} {rk : Option FieldType} {d : Nat} {o : Ot} {σ : St} {lv : List (Nat × Value)} {pc : Nat} {st : List Value}
theorem g_none : G S Γ cc nL own rk d none σ lv pc st := fun _ _ h => by cases h
/-- fewer locals, in any order -/
theorem g_lv (is : List Nat) {lv' : List (Nat × Value)} (h : lv_pick lv is = lv') (k : G S Γ cc nL own rk d o σ lv' pc st) : G S Γ cc nL own rk d o σ lv pc st := fun hC r ho H locs hP hS ls hl => k hC r ho H locs hP hS ls (lv_sub hl is h)
theorem g_nm {e : Int32} {f : Int32 → Ot} (k : ∀ y : Int32, G S Γ cc nL own rk d (f y) σ lv pc (.int y :: st)) : G S Γ cc nL own rk d (nm e f) σ lv pc (.int e :: st) := k e
theorem g_nml {e : Int64} {f : Int64 → Ot} (k : ∀ y : Int64, G S Γ cc nL own rk d (f y) σ lv pc (.long y :: st)) : G S Γ cc nL own rk d (nm e f) σ lv pc (.long e :: st) := k e
theorem g_ite {c : Prop} {i : Decidable c} {o1 o2 : Ot} (k1 : c → G S Γ cc nL own rk d o1 σ lv pc st) (k2 : ¬ c → G S Γ cc nL own rk d o2 σ lv pc st) : G S Γ cc nL own rk d (@ite _ c i o1 o2) σ lv pc st := by
  by_cases h : c
  · rw [if_pos h]; exact k1 h
  · rw [if_neg h]; exact k2 h

theorem g_iconst {n : Int} {v : Int32} (hd : decode cc pc = .ok (.iconst n, 1)) (hv : Int32.ofInt n = v) (k : G S Γ cc nL own rk d o σ lv (pc + 1) (.int v :: st)) : G S Γ cc nL own rk d o σ lv pc (st) := fun hC r ho H locs hP hS ls hl => lv_iconst hC.1 hC.2.1 hd hv (k hC r ho H locs hP hS ls hl)
theorem g_bipush {n : Int} {v : Int32} (hd : decode cc pc = .ok (.bipush n, 2)) (hv : (Int8.ofInt n).toInt32 = v) (k : G S Γ cc nL own rk d o σ lv (pc + 2) (.int v :: st)) : G S Γ cc nL own rk d o σ lv pc (st) := fun hC r ho H locs hP hS ls hl => lv_bipush hC.1 hC.2.1 hd hv (k hC r ho H locs hP hS ls hl)
theorem g_sipush {n : Int} {v : Int32} (hd : decode cc pc = .ok (.sipush n, 3)) (hv : (Int16.ofInt n).toInt32 = v) (k : G S Γ cc nL own rk d o σ lv (pc + 3) (.int v :: st)) : G S Γ cc nL own rk d o σ lv pc (st) := fun hC r ho H locs hP hS ls hl => lv_sipush hC.1 hC.2.1 hd hv (k hC r ho H locs hP hS ls hl)
theorem g_lconst {n : Fin 2} {v : Int64} (hd : decode cc pc = .ok (.lconst n, 1)) (hv : Int64.ofNat (n : Nat) = v) (k : G S Γ cc nL own rk d o σ lv (pc + 1) (.long v :: st)) : G S Γ cc nL own rk d o σ lv pc (st) := fun hC r ho H locs hP hS ls hl => lv_lconst hC.1 hC.2.1 hd hv (k hC r ho H locs hP hS ls hl)
theorem g_null (hd : decode cc pc = .ok (.aconst_null, 1)) (k : G S Γ cc nL own rk d o σ lv (pc + 1) (.null :: st)) : G S Γ cc nL own rk d o σ lv pc (st) := fun hC r ho H locs hP hS ls hl => lv_null hC.1 hC.2.1 hd (k hC r ho H locs hP hS ls hl)
theorem g_ldcw {index : Nat} {v : Int32} (hw : Cond.constant own index v ∈ wsL_law) (hd : decode cc pc = .ok (.ldc_w index, 3)) (k : G S Γ cc nL own rk d o σ lv (pc + 3) (.int v :: st)) : G S Γ cc nL own rk d o σ lv pc st := fun hC r ho H locs hP hS ls hl => lv_ldcw hC.1 hC.2.1 hC.2.2.2.2.2.2.1 (hC.2.2.2.2.2.1 _ hw) hd (k hC r ho H locs hP hS ls hl)
theorem g_ldc {index : Nat} {v : Int32} (hw : Cond.constant own index v ∈ wsL_law) (hd : decode cc pc = .ok (.ldc index, 2)) (k : G S Γ cc nL own rk d o σ lv (pc + 2) (.int v :: st)) : G S Γ cc nL own rk d o σ lv pc st := fun hC r ho H locs hP hS ls hl => lv_ldc hC.1 hC.2.1 hC.2.2.2.2.2.2.1 (hC.2.2.2.2.2.1 _ hw) hd (k hC r ho H locs hP hS ls hl)
theorem g_ldc2 {index : Nat} {v : Int64} (hw : Cond.constantLong own index v ∈ wsL_law) (hd : decode cc pc = .ok (.ldc2_w index, 3)) (k : G S Γ cc nL own rk d o σ lv (pc + 3) (.long v :: st)) : G S Γ cc nL own rk d o σ lv pc st := fun hC r ho H locs hP hS ls hl => lv_ldc2 hC.1 hC.2.1 hC.2.2.2.2.2.2.1 (hC.2.2.2.2.2.1 _ hw) hd (k hC r ho H locs hP hS ls hl)
theorem g_iload_n {kf : Fin 4} (j : Nat) {i : Nat} {x : Int32} (hd : decode cc pc = .ok (.iload_n kf, 1)) (hi : (kf : Nat) = i) (hj : lv[j]? = some (i, .int x)) (k : G S Γ cc nL own rk d o σ lv (pc + 1) (.int x :: st)) : G S Γ cc nL own rk d o σ lv pc st := fun hC r ho H locs hP hS ls hl => lv_iload_n hC.1 hC.2.1 hd hi (lv_at hl j hj) (k hC r ho H locs hP hS ls hl)
theorem g_iload (j : Nat) {i : Nat} {x : Int32} (hd : decode cc pc = .ok (.iload i, 2)) (hj : lv[j]? = some (i, .int x)) (k : G S Γ cc nL own rk d o σ lv (pc + 2) (.int x :: st)) : G S Γ cc nL own rk d o σ lv pc st := fun hC r ho H locs hP hS ls hl => lv_iload hC.1 hC.2.1 hd (lv_at hl j hj) (k hC r ho H locs hP hS ls hl)
theorem g_lload_n {kf : Fin 4} (j : Nat) {i : Nat} {x : Int64} (hd : decode cc pc = .ok (.lload_n kf, 1)) (hi : (kf : Nat) = i) (hj : lv[j]? = some (i, .long x)) (k : G S Γ cc nL own rk d o σ lv (pc + 1) (.long x :: st)) : G S Γ cc nL own rk d o σ lv pc st := fun hC r ho H locs hP hS ls hl => lv_lload_n hC.1 hC.2.1 hd hi (lv_at hl j hj) (k hC r ho H locs hP hS ls hl)
theorem g_lload (j : Nat) {i : Nat} {x : Int64} (hd : decode cc pc = .ok (.lload i, 2)) (hj : lv[j]? = some (i, .long x)) (k : G S Γ cc nL own rk d o σ lv (pc + 2) (.long x :: st)) : G S Γ cc nL own rk d o σ lv pc st := fun hC r ho H locs hP hS ls hl => lv_lload hC.1 hC.2.1 hd (lv_at hl j hj) (k hC r ho H locs hP hS ls hl)
theorem g_aload_n {kf : Fin 4} (j : Nat) {i x : Nat} (hd : decode cc pc = .ok (.aload_n kf, 1)) (hi : (kf : Nat) = i) (hj : lv[j]? = some (i, .ref x)) (k : G S Γ cc nL own rk d o σ lv (pc + 1) (.ref x :: st)) : G S Γ cc nL own rk d o σ lv pc st := fun hC r ho H locs hP hS ls hl => lv_aload_n hC.1 hC.2.1 hd hi (lv_at hl j hj) (k hC r ho H locs hP hS ls hl)
theorem g_aload (j : Nat) {i x : Nat} (hd : decode cc pc = .ok (.aload i, 2)) (hj : lv[j]? = some (i, .ref x)) (k : G S Γ cc nL own rk d o σ lv (pc + 2) (.ref x :: st)) : G S Γ cc nL own rk d o σ lv pc st := fun hC r ho H locs hP hS ls hl => lv_aload hC.1 hC.2.1 hd (lv_at hl j hj) (k hC r ho H locs hP hS ls hl)
theorem g_istore_n {kf : Fin 4} (is : List Nat) {i : Nat} {x : Int32} {lv1 : List (Nat × Value)} (hd : decode cc pc = .ok (.istore_n kf, 1)) (hi : (kf : Nat) = i) (hn : i < nL) (hv : lv_pick ((i, Value.int x) :: lv.filter (fun q => !(q.1 == i) && !(q.1 + 1 == i && q.2.category == 2))) is = lv1) (k : G S Γ cc nL own rk d o σ lv1 (pc + 1) st) : G S Γ cc nL own rk d o σ lv pc (.int x :: st) := fun hC r ho H locs hP hS ls hl => lv_istore_n hC.1 hC.2.1 hd hi hl hn rfl (fun ls1 hl1 => k hC r ho H locs hP hS ls1 (lv_sub hl1 is hv))
theorem g_istore (is : List Nat) {i : Nat} {x : Int32} {lv1 : List (Nat × Value)} (hd : decode cc pc = .ok (.istore i, 2)) (hn : i < nL) (hv : lv_pick ((i, Value.int x) :: lv.filter (fun q => !(q.1 == i) && !(q.1 + 1 == i && q.2.category == 2))) is = lv1) (k : G S Γ cc nL own rk d o σ lv1 (pc + 2) st) : G S Γ cc nL own rk d o σ lv pc (.int x :: st) := fun hC r ho H locs hP hS ls hl => lv_istore hC.1 hC.2.1 hd hl hn rfl (fun ls1 hl1 => k hC r ho H locs hP hS ls1 (lv_sub hl1 is hv))
theorem g_lstore_n {kf : Fin 4} (is : List Nat) {i : Nat} {x : Int64} {lv1 : List (Nat × Value)} (hd : decode cc pc = .ok (.lstore_n kf, 1)) (hi : (kf : Nat) = i) (hn : i + 1 < nL) (hv : lv_pick ((i, Value.long x) :: lv.filter (fun q => !(q.1 == i) && (!(q.1 == i + 1) && !(q.1 + 1 == i && q.2.category == 2)))) is = lv1) (k : G S Γ cc nL own rk d o σ lv1 (pc + 1) st) : G S Γ cc nL own rk d o σ lv pc (.long x :: st) := fun hC r ho H locs hP hS ls hl => lv_lstore_n hC.1 hC.2.1 hd hi hl hn rfl (fun ls1 hl1 => k hC r ho H locs hP hS ls1 (lv_sub hl1 is hv))
theorem g_lstore (is : List Nat) {i : Nat} {x : Int64} {lv1 : List (Nat × Value)} (hd : decode cc pc = .ok (.lstore i, 2)) (hn : i + 1 < nL) (hv : lv_pick ((i, Value.long x) :: lv.filter (fun q => !(q.1 == i) && (!(q.1 == i + 1) && !(q.1 + 1 == i && q.2.category == 2)))) is = lv1) (k : G S Γ cc nL own rk d o σ lv1 (pc + 2) st) : G S Γ cc nL own rk d o σ lv pc (.long x :: st) := fun hC r ho H locs hP hS ls hl => lv_lstore hC.1 hC.2.1 hd hl hn rfl (fun ls1 hl1 => k hC r ho H locs hP hS ls1 (lv_sub hl1 is hv))
theorem g_astore_n {kf : Fin 4} (is : List Nat) {i : Nat} {x : Nat} {lv1 : List (Nat × Value)} (hd : decode cc pc = .ok (.astore_n kf, 1)) (hi : (kf : Nat) = i) (hn : i < nL) (hv : lv_pick ((i, Value.ref x) :: lv.filter (fun q => !(q.1 == i) && !(q.1 + 1 == i && q.2.category == 2))) is = lv1) (k : G S Γ cc nL own rk d o σ lv1 (pc + 1) st) : G S Γ cc nL own rk d o σ lv pc (.ref x :: st) := fun hC r ho H locs hP hS ls hl => lv_astore_n hC.1 hC.2.1 hd hi hl hn rfl (fun ls1 hl1 => k hC r ho H locs hP hS ls1 (lv_sub hl1 is hv))
theorem g_astore (is : List Nat) {i : Nat} {x : Nat} {lv1 : List (Nat × Value)} (hd : decode cc pc = .ok (.astore i, 2)) (hn : i < nL) (hv : lv_pick ((i, Value.ref x) :: lv.filter (fun q => !(q.1 == i) && !(q.1 + 1 == i && q.2.category == 2))) is = lv1) (k : G S Γ cc nL own rk d o σ lv1 (pc + 2) st) : G S Γ cc nL own rk d o σ lv pc (.ref x :: st) := fun hC r ho H locs hP hS ls hl => lv_astore hC.1 hC.2.1 hd hl hn rfl (fun ls1 hl1 => k hC r ho H locs hP hS ls1 (lv_sub hl1 is hv))
theorem g_iinc (is : List Nat) (j : Nat) {i : Nat} {n : Int} {x n1 : Int32} {f : Int32 → Ot} {lv1 : Int32 → List (Nat × Value)} (hd : decode cc pc = .ok (.iinc i n, 3)) (hj : lv[j]? = some (i, .int x)) (hn1 : Int32.ofInt n = n1) (hn : i < nL) (hv : ∀ v : Int32, lv_pick ((i, Value.int v) :: lv.filter (fun q => !(q.1 == i) && !(q.1 + 1 == i && q.2.category == 2))) is = lv1 v) (k : ∀ v : Int32, G S Γ cc nL own rk d (f v) σ (lv1 v) (pc + 3) st) : G S Γ cc nL own rk d (nm (x + n1) f) σ lv pc st := fun hC r ho H locs hP hS ls hl => lv_iinc (v := x + n1) hC.1 hC.2.1 hd hl hj (by rw [hn1]) hn rfl (fun ls1 hl1 => k (x + n1) hC r ho H locs hP hS ls1 (lv_sub hl1 is (hv (x + n1))))
theorem g_iadd {x y : Int32} (hd : decode cc pc = .ok (.iadd, 1)) (k : G S Γ cc nL own rk d o σ lv (pc + 1) (.int (x + y) :: st)) : G S Γ cc nL own rk d o σ lv pc (.int y :: .int x :: st) := fun hC r ho H locs hP hS ls hl => lv_iadd hC.1 hC.2.1 hd (k hC r ho H locs hP hS ls hl)
theorem g_isub {x y : Int32} (hd : decode cc pc = .ok (.isub, 1)) (k : G S Γ cc nL own rk d o σ lv (pc + 1) (.int (x - y) :: st)) : G S Γ cc nL own rk d o σ lv pc (.int y :: .int x :: st) := fun hC r ho H locs hP hS ls hl => lv_isub hC.1 hC.2.1 hd (k hC r ho H locs hP hS ls hl)
theorem g_imul {x y : Int32} (hd : decode cc pc = .ok (.imul, 1)) (k : G S Γ cc nL own rk d o σ lv (pc + 1) (.int (x * y) :: st)) : G S Γ cc nL own rk d o σ lv pc (.int y :: .int x :: st) := fun hC r ho H locs hP hS ls hl => lv_imul hC.1 hC.2.1 hd (k hC r ho H locs hP hS ls hl)
theorem g_iand {x y : Int32} (hd : decode cc pc = .ok (.iand, 1)) (k : G S Γ cc nL own rk d o σ lv (pc + 1) (.int (x &&& y) :: st)) : G S Γ cc nL own rk d o σ lv pc (.int y :: .int x :: st) := fun hC r ho H locs hP hS ls hl => lv_iand hC.1 hC.2.1 hd (k hC r ho H locs hP hS ls hl)
theorem g_ior {x y : Int32} (hd : decode cc pc = .ok (.ior, 1)) (k : G S Γ cc nL own rk d o σ lv (pc + 1) (.int (x ||| y) :: st)) : G S Γ cc nL own rk d o σ lv pc (.int y :: .int x :: st) := fun hC r ho H locs hP hS ls hl => lv_ior hC.1 hC.2.1 hd (k hC r ho H locs hP hS ls hl)
theorem g_ixor {x y : Int32} (hd : decode cc pc = .ok (.ixor, 1)) (k : G S Γ cc nL own rk d o σ lv (pc + 1) (.int (x ^^^ y) :: st)) : G S Γ cc nL own rk d o σ lv pc (.int y :: .int x :: st) := fun hC r ho H locs hP hS ls hl => lv_ixor hC.1 hC.2.1 hd (k hC r ho H locs hP hS ls hl)
theorem g_ishl {x y : Int32} (hd : decode cc pc = .ok (.ishl, 1)) (k : G S Γ cc nL own rk d o σ lv (pc + 1) (.int (x <<< (y &&& 31)) :: st)) : G S Γ cc nL own rk d o σ lv pc (.int y :: .int x :: st) := fun hC r ho H locs hP hS ls hl => lv_ishl hC.1 hC.2.1 hd (k hC r ho H locs hP hS ls hl)
theorem g_ishr {x y : Int32} (hd : decode cc pc = .ok (.ishr, 1)) (k : G S Γ cc nL own rk d o σ lv (pc + 1) (.int (x >>> (y &&& 31)) :: st)) : G S Γ cc nL own rk d o σ lv pc (.int y :: .int x :: st) := fun hC r ho H locs hP hS ls hl => lv_ishr hC.1 hC.2.1 hd (k hC r ho H locs hP hS ls hl)
theorem g_iushr {x y : Int32} (hd : decode cc pc = .ok (.iushr, 1)) (k : G S Γ cc nL own rk d o σ lv (pc + 1) (.int ((x.toUInt32 >>> (y.toUInt32 &&& Int32.toUInt32 31)).toInt32) :: st)) : G S Γ cc nL own rk d o σ lv pc (.int y :: .int x :: st) := fun hC r ho H locs hP hS ls hl => lv_iushr hC.1 hC.2.1 hd rfl (k hC r ho H locs hP hS ls hl)
theorem g_i2l {x : Int32} (hd : decode cc pc = .ok (.i2l, 1)) (k : G S Γ cc nL own rk d o σ lv (pc + 1) (.long x.toInt64 :: st)) : G S Γ cc nL own rk d o σ lv pc (.int x :: st) := fun hC r ho H locs hP hS ls hl => lv_i2l hC.1 hC.2.1 hd rfl (k hC r ho H locs hP hS ls hl)
theorem g_l2i {x : Int64} (hd : decode cc pc = .ok (.l2i, 1)) (k : G S Γ cc nL own rk d o σ lv (pc + 1) (.int x.toInt32 :: st)) : G S Γ cc nL own rk d o σ lv pc (.long x :: st) := fun hC r ho H locs hP hS ls hl => lv_l2i hC.1 hC.2.1 hd rfl (k hC r ho H locs hP hS ls hl)
theorem g_ladd {x y : Int64} (hd : decode cc pc = .ok (.ladd, 1)) (k : G S Γ cc nL own rk d o σ lv (pc + 1) (.long (x + y) :: st)) : G S Γ cc nL own rk d o σ lv pc (.long y :: .long x :: st) := fun hC r ho H locs hP hS ls hl => lv_ladd hC.1 hC.2.1 hd (k hC r ho H locs hP hS ls hl)
theorem g_lmul {x y : Int64} (hd : decode cc pc = .ok (.lmul, 1)) (k : G S Γ cc nL own rk d o σ lv (pc + 1) (.long (x * y) :: st)) : G S Γ cc nL own rk d o σ lv pc (.long y :: .long x :: st) := fun hC r ho H locs hP hS ls hl => lv_lmul hC.1 hC.2.1 hd (k hC r ho H locs hP hS ls hl)
theorem g_idiv {x y : Int32} (hd : decode cc pc = .ok (.idiv, 1)) (k : G S Γ cc nL own rk d o σ lv (pc + 1) (.int (x / y) :: st)) : G S Γ cc nL own rk d (nz y o) σ lv pc (.int y :: .int x :: st) := fun hC r ho H locs hP hS ls hl => lv_idiv hC.1 hC.2.1 hd (nz_some ho).1 (k hC r (nz_some ho).2 H locs hP hS ls hl)
theorem g_irem {x y : Int32} (hd : decode cc pc = .ok (.irem, 1)) (k : G S Γ cc nL own rk d o σ lv (pc + 1) (.int (x - x / y * y) :: st)) : G S Γ cc nL own rk d (nz y o) σ lv pc (.int y :: .int x :: st) := fun hC r ho H locs hP hS ls hl => lv_irem hC.1 hC.2.1 hd (nz_some ho).1 (k hC r (nz_some ho).2 H locs hP hS ls hl)
theorem g_ldiv {x y : Int64} (hd : decode cc pc = .ok (.ldiv, 1)) (k : G S Γ cc nL own rk d o σ lv (pc + 1) (.long (x / y) :: st)) : G S Γ cc nL own rk d (nzl y o) σ lv pc (.long y :: .long x :: st) := fun hC r ho H locs hP hS ls hl => lv_ldiv hC.1 hC.2.1 hd (nzl_some ho).1 (k hC r (nzl_some ho).2 H locs hP hS ls hl)
theorem g_lrem {x y : Int64} (hd : decode cc pc = .ok (.lrem, 1)) (k : G S Γ cc nL own rk d o σ lv (pc + 1) (.long (x - x / y * y) :: st)) : G S Γ cc nL own rk d (nzl y o) σ lv pc (.long y :: .long x :: st) := fun hC r ho H locs hP hS ls hl => lv_lrem hC.1 hC.2.1 hd (nzl_some ho).1 (k hC r (nzl_some ho).2 H locs hP hS ls hl)
theorem g_dup {v : Value} (hd : decode cc pc = .ok (.dup, 1)) (hv : v.category = 1) (k : G S Γ cc nL own rk d o σ lv (pc + 1) (v :: v :: st)) : G S Γ cc nL own rk d o σ lv pc (v :: st) := fun hC r ho H locs hP hS ls hl => lv_dup hC.1 hC.2.1 hd hv (k hC r ho H locs hP hS ls hl)
theorem g_pop {v : Value} (hd : decode cc pc = .ok (.pop, 1)) (hv : v.category = 1) (k : G S Γ cc nL own rk d o σ lv (pc + 1) (st)) : G S Γ cc nL own rk d o σ lv pc (v :: st) := fun hC r ho H locs hP hS ls hl => lv_pop hC.1 hC.2.1 hd hv (k hC r ho H locs hP hS ls hl)
theorem g_dup2 {v u : Value} (hd : decode cc pc = .ok (.dup2, 1)) (hv : v.category = 1) (hu : u.category = 1) (k : G S Γ cc nL own rk d o σ lv (pc + 1) (v :: u :: v :: u :: st)) : G S Γ cc nL own rk d o σ lv pc (v :: u :: st) := fun hC r ho H locs hP hS ls hl => lv_dup2_11 hC.1 hC.2.1 hd hv hu (k hC r ho H locs hP hS ls hl)
theorem g_icmp_eq {x y : Int32} {off : Int} {tgt : Nat} {i : Decidable (x = y)} {o1 o2 : Ot} (hd : decode cc pc = .ok (.if_icmp .eq off, 3)) (ht : (pc : Int) + off = (tgt : Int)) (kt : G S Γ cc nL own rk d o1 σ lv tgt st) (kf : G S Γ cc nL own rk d o2 σ lv (pc + 3) st) : G S Γ cc nL own rk d (@ite _ (x = y) i o1 o2) σ lv pc (.int y :: .int x :: st) := fun hC r ho H locs hP hS ls hl => lv_icmp_eq hC.1 hC.2.1 hd ht (fun q => kt hC r (by rw [if_pos q] at ho; exact ho) H locs hP hS ls hl) (fun q => kf hC r (by rw [if_neg q] at ho; exact ho) H locs hP hS ls hl)
theorem g_if_eq {x : Int32} {off : Int} {tgt : Nat} {i : Decidable (x = 0)} {o1 o2 : Ot} (hd : decode cc pc = .ok (.ifCond .eq off, 3)) (ht : (pc : Int) + off = (tgt : Int)) (kt : G S Γ cc nL own rk d o1 σ lv tgt st) (kf : G S Γ cc nL own rk d o2 σ lv (pc + 3) st) : G S Γ cc nL own rk d (@ite _ (x = 0) i o1 o2) σ lv pc (.int x :: st) := fun hC r ho H locs hP hS ls hl => lv_if_eq hC.1 hC.2.1 hd ht (fun q => kt hC r (by rw [if_pos q] at ho; exact ho) H locs hP hS ls hl) (fun q => kf hC r (by rw [if_neg q] at ho; exact ho) H locs hP hS ls hl)
theorem g_icmp_ne {x y : Int32} {off : Int} {tgt : Nat} {i : Decidable (x = y)} {o1 o2 : Ot} (hd : decode cc pc = .ok (.if_icmp .ne off, 3)) (ht : (pc : Int) + off = (tgt : Int)) (kt : G S Γ cc nL own rk d o1 σ lv tgt st) (kf : G S Γ cc nL own rk d o2 σ lv (pc + 3) st) : G S Γ cc nL own rk d (@ite _ (x = y) i o2 o1) σ lv pc (.int y :: .int x :: st) := fun hC r ho H locs hP hS ls hl => lv_icmp_ne hC.1 hC.2.1 hd ht (fun q => kt hC r (by rw [if_neg q] at ho; exact ho) H locs hP hS ls hl) (fun q => kf hC r (by rw [if_pos q] at ho; exact ho) H locs hP hS ls hl)
theorem g_if_ne {x : Int32} {off : Int} {tgt : Nat} {i : Decidable (x = 0)} {o1 o2 : Ot} (hd : decode cc pc = .ok (.ifCond .ne off, 3)) (ht : (pc : Int) + off = (tgt : Int)) (kt : G S Γ cc nL own rk d o1 σ lv tgt st) (kf : G S Γ cc nL own rk d o2 σ lv (pc + 3) st) : G S Γ cc nL own rk d (@ite _ (x = 0) i o2 o1) σ lv pc (.int x :: st) := fun hC r ho H locs hP hS ls hl => lv_if_ne hC.1 hC.2.1 hd ht (fun q => kt hC r (by rw [if_neg q] at ho; exact ho) H locs hP hS ls hl) (fun q => kf hC r (by rw [if_pos q] at ho; exact ho) H locs hP hS ls hl)
theorem g_icmp_lt {x y : Int32} {off : Int} {tgt : Nat} {i : Decidable (x < y)} {o1 o2 : Ot} (hd : decode cc pc = .ok (.if_icmp .lt off, 3)) (ht : (pc : Int) + off = (tgt : Int)) (kt : G S Γ cc nL own rk d o1 σ lv tgt st) (kf : G S Γ cc nL own rk d o2 σ lv (pc + 3) st) : G S Γ cc nL own rk d (@ite _ (x < y) i o1 o2) σ lv pc (.int y :: .int x :: st) := fun hC r ho H locs hP hS ls hl => lv_icmp_lt hC.1 hC.2.1 hd ht (fun q => kt hC r (by rw [if_pos q] at ho; exact ho) H locs hP hS ls hl) (fun q => kf hC r (by rw [if_neg q] at ho; exact ho) H locs hP hS ls hl)
theorem g_if_lt {x : Int32} {off : Int} {tgt : Nat} {i : Decidable (x < 0)} {o1 o2 : Ot} (hd : decode cc pc = .ok (.ifCond .lt off, 3)) (ht : (pc : Int) + off = (tgt : Int)) (kt : G S Γ cc nL own rk d o1 σ lv tgt st) (kf : G S Γ cc nL own rk d o2 σ lv (pc + 3) st) : G S Γ cc nL own rk d (@ite _ (x < 0) i o1 o2) σ lv pc (.int x :: st) := fun hC r ho H locs hP hS ls hl => lv_if_lt hC.1 hC.2.1 hd ht (fun q => kt hC r (by rw [if_pos q] at ho; exact ho) H locs hP hS ls hl) (fun q => kf hC r (by rw [if_neg q] at ho; exact ho) H locs hP hS ls hl)
theorem g_icmp_ge {x y : Int32} {off : Int} {tgt : Nat} {i : Decidable (y ≤ x)} {o1 o2 : Ot} (hd : decode cc pc = .ok (.if_icmp .ge off, 3)) (ht : (pc : Int) + off = (tgt : Int)) (kt : G S Γ cc nL own rk d o1 σ lv tgt st) (kf : G S Γ cc nL own rk d o2 σ lv (pc + 3) st) : G S Γ cc nL own rk d (@ite _ (y ≤ x) i o1 o2) σ lv pc (.int y :: .int x :: st) := fun hC r ho H locs hP hS ls hl => lv_icmp_ge hC.1 hC.2.1 hd ht (fun q => kt hC r (by rw [if_pos q] at ho; exact ho) H locs hP hS ls hl) (fun q => kf hC r (by rw [if_neg q] at ho; exact ho) H locs hP hS ls hl)
theorem g_if_ge {x : Int32} {off : Int} {tgt : Nat} {i : Decidable (0 ≤ x)} {o1 o2 : Ot} (hd : decode cc pc = .ok (.ifCond .ge off, 3)) (ht : (pc : Int) + off = (tgt : Int)) (kt : G S Γ cc nL own rk d o1 σ lv tgt st) (kf : G S Γ cc nL own rk d o2 σ lv (pc + 3) st) : G S Γ cc nL own rk d (@ite _ (0 ≤ x) i o1 o2) σ lv pc (.int x :: st) := fun hC r ho H locs hP hS ls hl => lv_if_ge hC.1 hC.2.1 hd ht (fun q => kt hC r (by rw [if_pos q] at ho; exact ho) H locs hP hS ls hl) (fun q => kf hC r (by rw [if_neg q] at ho; exact ho) H locs hP hS ls hl)
theorem g_icmp_gt {x y : Int32} {off : Int} {tgt : Nat} {i : Decidable (y < x)} {o1 o2 : Ot} (hd : decode cc pc = .ok (.if_icmp .gt off, 3)) (ht : (pc : Int) + off = (tgt : Int)) (kt : G S Γ cc nL own rk d o1 σ lv tgt st) (kf : G S Γ cc nL own rk d o2 σ lv (pc + 3) st) : G S Γ cc nL own rk d (@ite _ (y < x) i o1 o2) σ lv pc (.int y :: .int x :: st) := fun hC r ho H locs hP hS ls hl => lv_icmp_gt hC.1 hC.2.1 hd ht (fun q => kt hC r (by rw [if_pos q] at ho; exact ho) H locs hP hS ls hl) (fun q => kf hC r (by rw [if_neg q] at ho; exact ho) H locs hP hS ls hl)
theorem g_if_gt {x : Int32} {off : Int} {tgt : Nat} {i : Decidable (0 < x)} {o1 o2 : Ot} (hd : decode cc pc = .ok (.ifCond .gt off, 3)) (ht : (pc : Int) + off = (tgt : Int)) (kt : G S Γ cc nL own rk d o1 σ lv tgt st) (kf : G S Γ cc nL own rk d o2 σ lv (pc + 3) st) : G S Γ cc nL own rk d (@ite _ (0 < x) i o1 o2) σ lv pc (.int x :: st) := fun hC r ho H locs hP hS ls hl => lv_if_gt hC.1 hC.2.1 hd ht (fun q => kt hC r (by rw [if_pos q] at ho; exact ho) H locs hP hS ls hl) (fun q => kf hC r (by rw [if_neg q] at ho; exact ho) H locs hP hS ls hl)
theorem g_icmp_le {x y : Int32} {off : Int} {tgt : Nat} {i : Decidable (x ≤ y)} {o1 o2 : Ot} (hd : decode cc pc = .ok (.if_icmp .le off, 3)) (ht : (pc : Int) + off = (tgt : Int)) (kt : G S Γ cc nL own rk d o1 σ lv tgt st) (kf : G S Γ cc nL own rk d o2 σ lv (pc + 3) st) : G S Γ cc nL own rk d (@ite _ (x ≤ y) i o1 o2) σ lv pc (.int y :: .int x :: st) := fun hC r ho H locs hP hS ls hl => lv_icmp_le hC.1 hC.2.1 hd ht (fun q => kt hC r (by rw [if_pos q] at ho; exact ho) H locs hP hS ls hl) (fun q => kf hC r (by rw [if_neg q] at ho; exact ho) H locs hP hS ls hl)
theorem g_if_le {x : Int32} {off : Int} {tgt : Nat} {i : Decidable (x ≤ 0)} {o1 o2 : Ot} (hd : decode cc pc = .ok (.ifCond .le off, 3)) (ht : (pc : Int) + off = (tgt : Int)) (kt : G S Γ cc nL own rk d o1 σ lv tgt st) (kf : G S Γ cc nL own rk d o2 σ lv (pc + 3) st) : G S Γ cc nL own rk d (@ite _ (x ≤ 0) i o1 o2) σ lv pc (.int x :: st) := fun hC r ho H locs hP hS ls hl => lv_if_le hC.1 hC.2.1 hd ht (fun q => kt hC r (by rw [if_pos q] at ho; exact ho) H locs hP hS ls hl) (fun q => kf hC r (by rw [if_neg q] at ho; exact ho) H locs hP hS ls hl)
theorem g_goto {off : Int} {tgt : Nat} (hd : decode cc pc = .ok (.goto off, 3)) (ht : (pc : Int) + off = (tgt : Int)) (k : G S Γ cc nL own rk d o σ lv tgt st) : G S Γ cc nL own rk d o σ lv pc st := fun hC r ho H locs hP hS ls hl => lv_goto hC.1 hC.2.1 hd ht (k hC r ho H locs hP hS ls hl)
theorem g_ifnonnull {x : Nat} {off : Int} {tgt : Nat} (hd : decode cc pc = .ok (.ifnonnull off, 3)) (ht : (pc : Int) + off = (tgt : Int)) (k : G S Γ cc nL own rk d o σ lv tgt st) : G S Γ cc nL own rk d o σ lv pc (.ref x :: st) := fun hC r ho H locs hP hS ls hl => lv_ifnonnull hC.1 hC.2.1 hd ht (k hC r ho H locs hP hS ls hl)
theorem g_ifnull {x : Nat} {off : Int} (hd : decode cc pc = .ok (.ifnull off, 3)) (k : G S Γ cc nL own rk d o σ lv (pc + 3) st) : G S Γ cc nL own rk d o σ lv pc (.ref x :: st) := fun hC r ho H locs hP hS ls hl => lv_ifnull hC.1 hC.2.1 hd (k hC r ho H locs hP hS ls hl)
theorem g_ifnonnullN {off : Int} (hd : decode cc pc = .ok (.ifnonnull off, 3)) (k : G S Γ cc nL own rk d o σ lv (pc + 3) st) : G S Γ cc nL own rk d o σ lv pc (.null :: st) := fun hC r ho H locs hP hS ls hl => lv_ifnonnullN hC.1 hC.2.1 hd (k hC r ho H locs hP hS ls hl)
theorem g_ifnullN {off : Int} {tgt : Nat} (hd : decode cc pc = .ok (.ifnull off, 3)) (ht : (pc : Int) + off = (tgt : Int)) (k : G S Γ cc nL own rk d o σ lv tgt st) : G S Γ cc nL own rk d o σ lv pc (.null :: st) := fun hC r ho H locs hP hS ls hl => lv_ifnullN hC.1 hC.2.1 hd ht (k hC r ho H locs hP hS ls hl)
theorem g_tableIn {dflt lo hi : Int} {offs : Array Int} {len : Nat} {x : Int32} {off : Int} {tgt : Nat} (hd : decode cc pc = .ok (.tableswitch dflt lo hi offs, len)) (h1 : ¬ x.toInt < lo) (h2 : ¬ hi < x.toInt) (ho1 : offs[(x.toInt - lo).toNat]? = some off) (ht : (pc : Int) + off = (tgt : Int)) (k : G S Γ cc nL own rk d o σ lv tgt st) : G S Γ cc nL own rk d o σ lv pc (.int x :: st) := fun hC r ho H locs hP hS ls hl => lv_tableIn hC.1 hC.2.1 hd h1 h2 ho1 ht (k hC r ho H locs hP hS ls hl)
theorem g_tableOut {dflt lo hi : Int} {offs : Array Int} {len : Nat} {x : Int32} {tgt : Nat} (hd : decode cc pc = .ok (.tableswitch dflt lo hi offs, len)) (h : x.toInt < lo ∨ hi < x.toInt) (ht : (pc : Int) + dflt = (tgt : Int)) (k : G S Γ cc nL own rk d o σ lv tgt st) : G S Γ cc nL own rk d o σ lv pc (.int x :: st) := fun hC r ho H locs hP hS ls hl => lv_tableOut hC.1 hC.2.1 hd h ht (k hC r ho H locs hP hS ls hl)
theorem g_lookup {dflt : Int} {ps1 : Array (Int × Int)} {len : Nat} {x : Int32} {off : Int} {tgt : Nat} (hd : decode cc pc = .ok (.lookupswitch dflt ps1, len)) (hp : (ps1.toList.zip (ps1.toList.drop 1)).all (fun (a, next) => a.1 < next.1) = true) (ho1 : Op.lookupswitch.offset ps1.toList dflt x.toInt = off) (ht : (pc : Int) + off = (tgt : Int)) (k : G S Γ cc nL own rk d o σ lv tgt st) : G S Γ cc nL own rk d o σ lv pc (.int x :: st) := fun hC r ho H locs hP hS ls hl => lv_lookup hC.1 hC.2.1 hd hp ho1 ht (k hC r ho H locs hP hS ls hl)
theorem g_get (q0 : Nat) {adr ci : Nat} {fs : List Value} {C : String} {T : u_T} {N index : Nat} {v : Value} (he : (sW S σ)[q0]? = some (adr, .inr (ci, fs))) (hc : vwCl[ci]? = some (C, T, N)) (hin : ∀ w ∈ u_ws C T N, w ∈ wsL_law) (kf : Nat) (hk : kf < N) (hlink : Cond.fieldLink own index (T kf).1 (T kf).2.1 (T kf).2.2.1 ∈ wsL_law) (hv : fs[kf]? = some v) (hd : decode cc pc = .ok (.getfield index, 3)) (k : G S Γ cc nL own rk d o σ lv (pc + 3) (v :: st)) : G S Γ cc nL own rk d o σ lv pc (.ref adr :: st) := fun hC r ho H locs hP hS ls hl => va_get (D := sD S) (ref := (T kf).1) hC.1 hC.2.1 hC.2.2.2.2.2.1 hin hC.2.2.2.2.2.2.1 hC.2.2.2.2.2.2.2.1 hP q0 he hc kf hk (hC.2.2.2.2.2.1 _ hlink) (fun _ h9 => h9) hv hd (k hC r ho H locs hP hS ls hl)
theorem g_put (q0 : Nat) {adr ci : Nat} {fs : List Value} {C : String} {T : u_T} {N index : Nat} {v : Int32} {ty : FieldType} {ty0 : Nat → FieldType} {f : St → Ot} (he : (sW S σ)[q0]? = some (adr, .inr (ci, fs))) (hc : vwCl[ci]? = some (C, T, N)) (hin : ∀ w ∈ u_ws C T N, w ∈ wsL_law) (hty : ∀ k, k < N → parseFieldDescriptor (T k).2.2.1 = some (ty0 k)) (hnm : ∀ a, a < N → ∀ b, b < N → a ≠ b → (T a).2.1 ≠ (T b).2.1) (kf : Nat) (hk : kf < N) (hlink : Cond.fieldLink own index (T kf).1 (T kf).2.1 (T kf).2.2.1 ∈ wsL_law) (hfin : (T kf).2.2.2 = false) (hpd : parseFieldDescriptor (T kf).2.2.1 = some ty) (hn : narrow ty (.int v) = .int v) (hfit : fits ty (.int v) = true) (hl1 : kf < fs.length) (hset : (sW S σ).set q0 (adr, .inr (ci, fs.set kf (.int v))) = sW S (pf σ q0 kf v)) (hd : decode cc pc = .ok (.putfield index, 3)) (k : ∀ σ1 : St, G S Γ cc nL own rk d (f σ1) σ1 lv (pc + 3) st) : G S Γ cc nL own rk d (nm (pf σ q0 kf v) f) σ lv pc (.int v :: .ref adr :: st) := fun hC r ho H locs hP hS ls hl => va_put (D := sD S) (ref := (T kf).1) hC.1 hC.2.1 hC.2.2.2.2.2.1 hin ty0 hty hnm hC.2.2.2.2.2.2.1 hC.2.2.2.2.2.2.2.1 hP (hC.2.2.2.2.2.2.2.2.2 σ) hS q0 he hc kf hk (hC.2.2.2.2.2.1 _ hlink) (fun _ h9 => h9) hfin hpd hn hfit hl1 hd (fun H1 locs1 hP1 _ hS1 => k (pf σ q0 kf v) hC r ho H1 locs1 (by rw [hset] at hP1; exact hP1) hS1 ls hl)
theorem g_iald (q0 : Nat) {adr n : Nat} {cA : ClassId} {i : Int32} {z : Nat → Int32} (he : (sW S σ)[q0]? = some (adr, .inl (cA, n, .inl z))) (ht : (sT S)[0]? = some (cA, .int)) (hd : decode cc pc = .ok (.iaload, 1)) (k : G S Γ cc nL own rk d o σ lv (pc + 1) (.int (z i.toNatClampNeg) :: st)) : G S Γ cc nL own rk d (gd i n o) σ lv pc (.int i :: .ref adr :: st) := fun hC r ho H locs hP hS ls hl => va_iald (D := sD S) hC.1 hC.2.1 hC.2.2.2.2.2.2.2.1 hP q0 0 he ht (gd_some ho).1 hd (k hC r (gd_some ho).2 H locs hP hS ls hl)
theorem g_iast (q0 : Nat) {adr n : Nat} {cA : ClassId} {i x : Int32} {f : St → Ot} (he : (sW S σ)[q0]? = some (adr, .inl (cA, n, .inl (σ q0)))) (ht : (sT S)[0]? = some (cA, .int)) (hset : (sW S σ).set q0 (adr, .inl (cA, n, .inl (upd (σ q0) i.toNatClampNeg x))) = sW S (ps σ q0 i x)) (hd : decode cc pc = .ok (.iastore, 1)) (k : ∀ σ1 : St, G S Γ cc nL own rk d (f σ1) σ1 lv (pc + 1) st) : G S Γ cc nL own rk d (gd i n (nm (ps σ q0 i x) f)) σ lv pc (.int x :: .int i :: .ref adr :: st) := fun hC r ho H locs hP hS ls hl => va_iast (D := sD S) hC.1 hC.2.1 hC.2.2.2.2.2.2.2.1 hP (hC.2.2.2.2.2.2.2.2.2 σ) hS q0 0 he ht (gd_some ho).1 hd (fun H1 locs1 hP1 _ hS1 => k (ps σ q0 i x) hC r (gd_some ho).2 H1 locs1 (by rw [hset] at hP1; exact hP1) hS1 ls hl)
theorem g_alen (q0 t0 : Nat) {adr : Nat} {cA : ClassId} {z : vp_A} {ty : FieldType} {v : Int32} (he : (sW S σ)[q0]? = some (adr, .inl (cA, z))) (ht : (sT S)[t0]? = some (cA, ty)) (hv : Int32.ofNat z.1 = v) (hd : decode cc pc = .ok (.arraylength, 1)) (k : G S Γ cc nL own rk d o σ lv (pc + 1) (.int v :: st)) : G S Γ cc nL own rk d o σ lv pc (.ref adr :: st) := fun hC r ho H locs hP hS ls hl => va_alen (D := sD S) hC.1 hC.2.1 hC.2.2.2.2.2.2.2.1 hP q0 t0 he ht hv hd (k hC r ho H locs hP hS ls hl)
theorem g_iret {v : Int32} (hd : decode cc pc = .ok (.ireturn, 1)) : G S Γ cc nL own (some .int) d (some (v, σ)) σ lv pc [.int v] := fun hC r ho H locs hP hS ls hl => by
  cases ho
  exact W.iret (v := v) hC.1 hC.2.1 hC.2.2.2.1 (fun t ht hW => ⟨⟨v, σ, rfl, ⟨rfl, rfl⟩, (show va_P (sD S) vwCl (sW S σ) t.heap by rw [ht]; exact hP)⟩, hS.F ht⟩) hS.2.2 hd hC.2.2.2.2.1
theorem g_zret {v : Int32} (hd : decode cc pc = .ok (.ireturn, 1)) : G S Γ cc nL own (some .boolean) d (zg v (some (v, σ))) σ lv pc [.int v] := fun hC r ho H locs hP hS ls hl => by
  obtain ⟨h1, h2⟩ := zg_some ho
  cases h2
  exact W.zret (v := v) (ty := .boolean) hC.1 hC.2.1 hC.2.2.2.1 (by rcases h1 with rfl | rfl <;> decide) (fun t ht hW => ⟨⟨v, σ, rfl, ⟨rfl, rfl⟩, (show va_P (sD S) vwCl (sW S σ) t.heap by rw [ht]; exact hP)⟩, hS.F ht⟩) hS.2.2 hd hC.2.2.2.2.1
theorem g_zret1 {v : Int32} (hn : narrow .boolean (.int v) = .int v) (hd : decode cc pc = .ok (.ireturn, 1)) : G S Γ cc nL own (some .boolean) d (some (v, σ)) σ lv pc [.int v] := fun hC r ho H locs hP hS ls hl => by
  cases ho
  exact W.zret (v := v) (ty := .boolean) hC.1 hC.2.1 hC.2.2.2.1 hn (fun t ht hW => ⟨⟨v, σ, rfl, ⟨rfl, rfl⟩, (show va_P (sD S) vwCl (sW S σ) t.heap by rw [ht]; exact hP)⟩, hS.F ht⟩) hS.2.2 hd hC.2.2.2.2.1
theorem g_vret {v : Int32} (hd : decode cc pc = .ok (.return_, 1)) : G S Γ cc nL own none d (some (v, σ)) σ lv pc [] := fun hC r ho H locs hP hS ls hl => by
  cases ho
  exact W.vret hC.1 hC.2.1 hC.2.2.2.1 (fun t ht hW => ⟨⟨σ, rfl, rfl, (show va_P (sD S) vwCl (sW S σ) t.heap by rw [ht]; exact hP)⟩, hS.F ht⟩) hS.2.2 hd hC.2.2.2.2.1
theorem g_aret {nC : String} {x : Int32} (hd : decode cc pc = .ok (.areturn, 1)) (v : Value) (hv : v = va_rf (pq (sP S) x)) : G S Γ cc nL own (some (.object nC)) d (some (x, σ)) σ lv pc [v] := fun hC r ho H locs hP hS ls hl => by
  cases ho
  subst hv
  exact W.aret (v := va_rf (pq (sP S) x)) (rt := .object nC) hC.1 hC.2.1 hC.2.2.2.1 (Or.inl ⟨nC, rfl⟩) (by cases pq (sP S) x with
    | none => exact Or.inl rfl
    | some z => exact Or.inr ⟨z, rfl⟩) (fun t ht hW => ⟨⟨pq (sP S) x, σ, rfl, ⟨rfl, rfl⟩, (show va_P (sD S) vwCl (sW S σ) t.heap by rw [ht]; exact hP)⟩, hS.F ht⟩) hS.2.2 hd hC.2.2.2.2.1
theorem g_eq {lv1 : List (Nat × Value)} {st1 : List Value} (h1 : lv = lv1) (h2 : st = st1) (k : G S Γ cc nL own rk d o σ lv1 pc st1) : G S Γ cc nL own rk d o σ lv pc st := by
  subst h1; subst h2; exact k
theorem g_aald (q0 t0 : Nat) {adr n : Nat} {cA : ClassId} {C : String} {i : Int32} {z : Nat → Option Nat} {v : Value} (he : (sW S σ)[q0]? = some (adr, .inl (cA, n, .inr (.inr (.inr (.inr z)))))) (ht : (sT S)[t0]? = some (cA, .object C)) (hin : vp_in i n) (hv : va_rf (z i.toNatClampNeg) = v) (hd : decode cc pc = .ok (.aaload, 1)) (k : G S Γ cc nL own rk d o σ lv (pc + 1) (v :: st)) : G S Γ cc nL own rk d o σ lv pc (.int i :: .ref adr :: st) := fun hC r ho H locs hP hS ls hl => va_aldq (D := sD S) hC.1 hC.2.1 hC.2.2.2.2.2.2.2.1 hP q0 t0 he ht hin hd (by rw [hv]; exact k hC r ho H locs hP hS ls hl)
end ROWS

/-- a callee's words, out of the tables' -/
def Wk (y : MethodName) (cc : ByteArray) (nL : Nat) (rk : Option FieldType) (n : Nat) : Prop := Cond.code y cc nL rk ∈ wsL_law ∧ Cond.initialized y.cls ∈ wsL_law ∧ (y.cls ≠ "java/lang/invoke/MethodHandle" ∧ y.cls ≠ "java/lang/invoke/VarHandle" ∧ (parseMethodDescriptor y.desc).map (fun d => d.parameters.length) = some n)
def Wv (y : MethodName) : Prop := Cond.instanceMethod y ∈ wsL_law ∧ Cond.selects y.cls y y ∈ wsL_law
theorem good_sub {y : MethodName} {cc : ByteArray} {nL : Nat} {rk : Option FieldType} (h : Cond.code y cc nL rk ∈ wsL_law) : GoodIn wsL_law (.code y cc nL rk :: wsL_law) := fun w hw => (List.mem_cons.mp hw).elim (fun e => by rw [e]; exact ⟨h, big_in h⟩) (fun h2 => ⟨h2, big_in h2⟩)
theorem pc_blind {S : Gs} {av : List Value} {σ : St} : FrameBlind (va_Pc av (fun U => va_P (sD S) vwCl (sW S σ) U.heap ∧ va_K (sD S) vwCl (sT S) U ∧ NW U)) := fun a U g mk q => by
  obtain ⟨q0, qP, qK, qN⟩ := q
  exact ⟨q0, qP, va_K.moved (u := U) (U := U.calling g mk a) (Vm.Alike.refl U.vm) qK, NW.same (u := U) (U := U.calling g mk a) rfl qN⟩
section CALLS
variable {S : Gs} {Γ : Gm} {cc c2 : ByteArray} {nL n2 index n : Nat} {own : String} {rk rk2 : Option FieldType} {d d2 : Nat} {o : Ot} {f : Int32 → St → Ot} {σ : St} {lv : List (Nat × Value)} {pc : Nat} {st st0 : List Value} {y : MethodName} {As : List Value}
theorem g_mmin {x y : Int32} {rest : List Value} (hlink : Cond.methodLink own index Lib.Math.min.name ∈ wsL_law) (hst : Cond.static Lib.Math.min.name ∈ wsL_law) (hini : Cond.initialized "java/lang/Math" ∈ wsL_law) (hcode : Cond.code Lib.Math.min.name Lib.Math.min.code 2 (some .int) ∈ wsL_law) (hd1 : 1 ≤ d) (hcat : (rest.map fun v => v.category).sum + 13 ≤ 30 * d) (hd : decode cc pc = .ok (.invokestatic index, 3)) (k : G S Γ cc nL own rk d o σ lv (pc + 3) (.int (if y < x then y else x) :: rest)) : G S Γ cc nL own rk d o σ lv pc (.int y :: .int x :: rest) := fun hC r ho H locs hP hS ls hl => by
  obtain ⟨hx, hb, hml, hret, hlk, hts, hown, hKK, hN, hDD⟩ := id hC
  exact va_mmin hx hb (hml.trans hl.1.symm) hown (hts _ hlink) (hts _ hst) (hts _ hini) (hts _ hcode) hd1 hcat (Nat.le_refl 0) (Nat.le_refl 0) hd (k hC r ho H locs hP hS ls hl)
theorem g_mmax {x y : Int32} {rest : List Value} (hlink : Cond.methodLink own index Lib.Math.max.name ∈ wsL_law) (hst : Cond.static Lib.Math.max.name ∈ wsL_law) (hini : Cond.initialized "java/lang/Math" ∈ wsL_law) (hcode : Cond.code Lib.Math.max.name Lib.Math.max.code 2 (some .int) ∈ wsL_law) (hd1 : 1 ≤ d) (hcat : (rest.map fun v => v.category).sum + 13 ≤ 30 * d) (hd : decode cc pc = .ok (.invokestatic index, 3)) (k : G S Γ cc nL own rk d o σ lv (pc + 3) (.int (if x < y then y else x) :: rest)) : G S Γ cc nL own rk d o σ lv pc (.int y :: .int x :: rest) := fun hC r ho H locs hP hS ls hl => by
  obtain ⟨hx, hb, hml, hret, hlk, hts, hown, hKK, hN, hDD⟩ := id hC
  exact va_mmax hx hb (hml.trans hl.1.symm) hown (hts _ hlink) (hts _ hst) (hts _ hini) (hts _ hcode) hd1 hcat (Nat.le_refl 0) (Nat.le_refl 0) hd (k hC r ho H locs hP hS ls hl)
def pushOf (S : Gs) (rk : Option FieldType) (x : Int32) (st : List Value) : List Value := match rk with
  | none => st
  | some (.object _) => va_rf (pq (sP S) x) :: st
  | some _ => .int x :: st
theorem g_after {m2 : Array Value} {H : Heap} {locs : List Loc} {ls : Array Slot} {Q : State → Prop} (hS : va_S (sA S) (mz Γ).heap H locs) (r2 : Int32 × St)
    (hr : va_Run (mp Γ) (sL S) (me Γ) (rmD d) (mz Γ) (mm Γ) (ma Γ) (mb Γ) (mh Γ) (mc Γ) H locs 0 0 0 0 (F0 (mm Γ) pc ls st0) st (Qk S rk2 r2 m2) (sA S))
    (k : ∀ (H1 : Heap) (locs1 : List Loc), va_P (sD S) vwCl (sW S r2.2) H1 → va_S (sA S) (mz Γ).heap H1 locs1 → W (mp Γ) (sL S) (me Γ) (rmD d) (mz Γ) (mm Γ) (ma Γ) (mb Γ) (mh Γ) (mc Γ) H1 locs1 0 0 Q (F0 (mm Γ) (pc + 3) ls (pushOf S rk2 r2.1 st))) :
    W (mp Γ) (sL S) (me Γ) (rmD d) (mz Γ) (mm Γ) (ma Γ) (mb Γ) (mh Γ) (mc Γ) H locs 0 0 Q (F0 (mm Γ) pc ls st0) := by
  cases rk2 with
  | none =>
    refine va_callv (a := m2) (A1 := sA S) (free := sA S) hr hS (fun q _ h => h) (fun q h => h) (fun u t H1 locs1 ht hvm hw hB hz1 hk1 hS1 => ?_)
    subst hw
    rw [ht] at hB
    exact k H1 locs1 hB hS1
  | some ty =>
    cases ty with
    | object C =>
      refine va_callq (a := m2) (A1 := sA S) (free := sA S) hr hS (fun q _ h => h) (fun q h => h) (fun x u t H1 locs1 ht hvm hw hB hz1 hk1 hS1 => ?_)
      obtain ⟨rfl, rfl⟩ := hw
      rw [ht] at hB
      exact k H1 locs1 hB hS1
    | _ =>
      refine va_calli (a := m2) (A1 := sA S) (free := sA S) hr hS (fun q _ h => h) (fun q h => h) (fun x u t H1 locs1 ht hvm hw hB hz1 hk1 hS1 => ?_)
      obtain ⟨rfl, rfl⟩ := hw
      rw [ht] at hB
      exact k H1 locs1 hB hS1

theorem g_callV (q0 : Nat) {b ci N : Nat} {T : u_T} {fs : List Value} (hK : ∀ r2 : Int32 × St, o = some r2 → Kc S y c2 n2 rk2 d2 (.ref b :: As) σ r2) (hW2 : Wk y c2 n2 rk2 n) (hWv : Wv y) (hlink : Cond.methodLink own index y ∈ wsL_law) (hq : (sW S σ)[q0]? = some (b, .inr (ci, fs))) (hci : vwCl[ci]? = some (y.cls, T, N)) (hd2 : d2 + 1 ≤ d) (hlo : 8 + (n2 + 11) + 30 * d2 ≤ 30 * d) (hn : As.length = n) (hst : st0 = As.reverse ++ .ref b :: st) (hcat : (st.map fun v => v.category).sum ≤ 8) (hd : decode cc pc = .ok (.invokevirtual index, 3)) (k : ∀ (x : Int32) (σ1 : St), G S Γ cc nL own rk d (f x σ1) σ1 lv (pc + 3) (pushOf S rk2 x st)) : G S Γ cc nL own rk d (bnd o f) σ lv pc st0 := fun hC r ho H locs hP hS ls hl => by
  obtain ⟨r2, h1, h2⟩ := bnd_some ho
  obtain ⟨hx, hb, hml, hret, hlk, hts, hown, hKK, hN, hDD⟩ := id hC
  refine g_after hS r2 (va_runV (As := As) (rest := st) (own := own) (C := y.cls) ⟨hx, hb, hml, hown, hts⟩ (hK r2 h1) (cwV n hts (fun w hw => ?_) rfl rfl rfl ⟨rfl, hW2.2.2⟩ ⟨hd2, hlo⟩) ⟨pc_blind, va_recv hKK hP hci hq, fun U hU hW => ⟨rfl, by rw [hU]; exact hP, va_K.moved hW.alike hKK, NW.warm hW hN⟩⟩ rfl hn hl.1 hst (lv_room hcat) hd ⟨Nat.le_refl 0, Nat.le_refl 0⟩) (fun H1 locs1 hP1 hS1 => k r2.1 r2.2 hC r h2 H1 locs1 hP1 hS1 ls hl)
  have hw2 : w ∈ wsL_law := by
    rcases List.mem_append.mp hw with hw | hw
    · simp only [List.mem_cons, List.not_mem_nil, or_false] at hw
      rcases hw with rfl | rfl | rfl | rfl
      · exact hlink
      · exact hWv.1
      · exact hWv.2
      · exact hW2.2.1
    · exact (good_sub hW2.1 w hw).1
  exact ⟨hw2, big_in hw2⟩
theorem g_callS (hK : ∀ r2 : Int32 × St, o = some r2 → Kc S y c2 n2 rk2 d2 As σ r2) (hW2 : Wk y c2 n2 rk2 n) (hst1 : Cond.static y ∈ wsL_law) (hlink : Cond.methodLink own index y ∈ wsL_law) (hd2 : d2 + 1 ≤ d) (hlo : 8 + (n2 + 11) + 30 * d2 ≤ 30 * d) (hn : As.length = n) (hst : st0 = As.reverse ++ st) (hcat : (st.map fun v => v.category).sum ≤ 8) (hd : decode cc pc = .ok (.invokestatic index, 3)) (k : ∀ (x : Int32) (σ1 : St), G S Γ cc nL own rk d (f x σ1) σ1 lv (pc + 3) (pushOf S rk2 x st)) : G S Γ cc nL own rk d (bnd o f) σ lv pc st0 := fun hC r ho H locs hP hS ls hl => by
  obtain ⟨r2, h1, h2⟩ := bnd_some ho
  obtain ⟨hx, hb, hml, hret, hlk, hts, hown, hKK, hN, hDD⟩ := id hC
  have hc2 := callB_of (own := own) (rm := rmD d2) (R := rmD d) (mc := 0) (ms := 0) n hts (good_sub hW2.1) rfl rfl rfl (hts _ hW2.2.1) (hts _ hlink) hW2.2.2 ⟨hd2, hlo⟩
  exact g_after hS r2 (va_runS (As := As) (rest := st) (own := own) ⟨hx, hb, hml, hown, hts⟩ (hK r2 h1) ⟨hc2, hts _ hst1⟩ ⟨pc_blind, fun U hU hW => ⟨rfl, by rw [hU]; exact hP, va_K.moved hW.alike hKK, NW.warm hW hN⟩⟩ rfl hn hl.1 hst (lv_room hcat) hd ⟨Nat.le_refl 0, Nat.le_refl 0⟩) (fun H1 locs1 hP1 hS1 => k r2.1 r2.2 hC r h2 H1 locs1 hP1 hS1 ls hl)
theorem g_callSN {host : String} (hK : ∀ r2 : Int32 × St, o = some r2 → Kc S y c2 n2 rk2 d2 As σ r2) (hW2 : Wk y c2 n2 rk2 n) (hst1 : Cond.static y ∈ wsL_law) (hlink : (own, index, y, host) ∈ nestL) (hd2 : d2 + 1 ≤ d) (hlo : 8 + (n2 + 11) + 30 * d2 ≤ 30 * d) (hn : As.length = n) (hst : st0 = As.reverse ++ st) (hcat : (st.map fun v => v.category).sum ≤ 8) (hd : decode cc pc = .ok (.invokestatic index, 3)) (k : ∀ (x : Int32) (σ1 : St), G S Γ cc nL own rk d (f x σ1) σ1 lv (pc + 3) (pushOf S rk2 x st)) : G S Γ cc nL own rk d (bnd o f) σ lv pc st0 := fun hC r ho H locs hP hS ls hl => by
  obtain ⟨r2, h1, h2⟩ := bnd_some ho
  obtain ⟨hx, hb, hml, hret, hlk, hts, hown, hKK, hN, hDD⟩ := id hC
  exact g_after hS r2 (va_runSN (As := As) (rest := st) (own := own) ⟨hx, hb, hml, hown, hts⟩ (hK r2 h1) ⟨va_cnB n hts (good_sub hW2.1) rfl rfl rfl (hN _ hlink) (hts _ hW2.2.1) hW2.2.2 ⟨hd2, hlo⟩, hts _ hst1, trivial⟩ ⟨pc_blind, fun U hU hW => ⟨rfl, by rw [hU]; exact hP, va_K.moved hW.alike hKK, NW.warm hW hN⟩⟩ rfl hn hl.1 hst (lv_room hcat) hd ⟨Nat.le_refl 0, Nat.le_refl 0⟩) (fun H1 locs1 hP1 hS1 => k r2.1 r2.2 hC r h2 H1 locs1 hP1 hS1 ls hl)
theorem g_cVi (q0 : Nat) {b ci N : Nat} {T : u_T} {fs : List Value} (hK : ∀ r2 : Int32 × St, o = some r2 → Kc S y c2 n2 (some .int) d2 (.ref b :: As) σ r2) (hW2 : Wk y c2 n2 (some .int) n) (hWv : Wv y) (hlink : Cond.methodLink own index y ∈ wsL_law) (hq : (sW S σ)[q0]? = some (b, .inr (ci, fs))) (hci : vwCl[ci]? = some (y.cls, T, N)) (hd2 : d2 + 1 ≤ d) (hlo : 8 + (n2 + 11) + 30 * d2 ≤ 30 * d) (hn : As.length = n) (hst : st0 = As.reverse ++ .ref b :: st) (hcat : (st.map fun v => v.category).sum ≤ 8) (hd : decode cc pc = .ok (.invokevirtual index, 3)) (k : ∀ (x : Int32) (σ1 : St), G S Γ cc nL own rk d (f x σ1) σ1 lv (pc + 3) (.int x :: st)) : G S Γ cc nL own rk d (bnd o f) σ lv pc st0 := g_callV q0 hK hW2 hWv hlink hq hci hd2 hlo hn hst hcat hd k
theorem g_cVz (q0 : Nat) {b ci N : Nat} {T : u_T} {fs : List Value} (hK : ∀ r2 : Int32 × St, o = some r2 → Kc S y c2 n2 (some .boolean) d2 (.ref b :: As) σ r2) (hW2 : Wk y c2 n2 (some .boolean) n) (hWv : Wv y) (hlink : Cond.methodLink own index y ∈ wsL_law) (hq : (sW S σ)[q0]? = some (b, .inr (ci, fs))) (hci : vwCl[ci]? = some (y.cls, T, N)) (hd2 : d2 + 1 ≤ d) (hlo : 8 + (n2 + 11) + 30 * d2 ≤ 30 * d) (hn : As.length = n) (hst : st0 = As.reverse ++ .ref b :: st) (hcat : (st.map fun v => v.category).sum ≤ 8) (hd : decode cc pc = .ok (.invokevirtual index, 3)) (k : ∀ (x : Int32) (σ1 : St), G S Γ cc nL own rk d (f x σ1) σ1 lv (pc + 3) (.int x :: st)) : G S Γ cc nL own rk d (bnd o f) σ lv pc st0 := g_callV q0 hK hW2 hWv hlink hq hci hd2 hlo hn hst hcat hd k
theorem g_cVv (q0 : Nat) {b ci N : Nat} {T : u_T} {fs : List Value} (hK : ∀ r2 : Int32 × St, o = some r2 → Kc S y c2 n2 none d2 (.ref b :: As) σ r2) (hW2 : Wk y c2 n2 none n) (hWv : Wv y) (hlink : Cond.methodLink own index y ∈ wsL_law) (hq : (sW S σ)[q0]? = some (b, .inr (ci, fs))) (hci : vwCl[ci]? = some (y.cls, T, N)) (hd2 : d2 + 1 ≤ d) (hlo : 8 + (n2 + 11) + 30 * d2 ≤ 30 * d) (hn : As.length = n) (hst : st0 = As.reverse ++ .ref b :: st) (hcat : (st.map fun v => v.category).sum ≤ 8) (hd : decode cc pc = .ok (.invokevirtual index, 3)) (k : ∀ (x : Int32) (σ1 : St), G S Γ cc nL own rk d (f x σ1) σ1 lv (pc + 3) st) : G S Γ cc nL own rk d (bnd o f) σ lv pc st0 := g_callV q0 hK hW2 hWv hlink hq hci hd2 hlo hn hst hcat hd k
theorem g_cVr {nC : String} (q0 : Nat) {b ci N : Nat} {T : u_T} {fs : List Value} (hK : ∀ r2 : Int32 × St, o = some r2 → Kc S y c2 n2 (some (.object nC)) d2 (.ref b :: As) σ r2) (hW2 : Wk y c2 n2 (some (.object nC)) n) (hWv : Wv y) (hlink : Cond.methodLink own index y ∈ wsL_law) (hq : (sW S σ)[q0]? = some (b, .inr (ci, fs))) (hci : vwCl[ci]? = some (y.cls, T, N)) (hd2 : d2 + 1 ≤ d) (hlo : 8 + (n2 + 11) + 30 * d2 ≤ 30 * d) (hn : As.length = n) (hst : st0 = As.reverse ++ .ref b :: st) (hcat : (st.map fun v => v.category).sum ≤ 8) (hd : decode cc pc = .ok (.invokevirtual index, 3)) (k : ∀ (x : Int32) (σ1 : St), G S Γ cc nL own rk d (f x σ1) σ1 lv (pc + 3) (va_rf (pq (sP S) x) :: st)) : G S Γ cc nL own rk d (bnd o f) σ lv pc st0 := g_callV q0 hK hW2 hWv hlink hq hci hd2 hlo hn hst hcat hd k
theorem g_cSi (hK : ∀ r2 : Int32 × St, o = some r2 → Kc S y c2 n2 (some .int) d2 As σ r2) (hW2 : Wk y c2 n2 (some .int) n) (hst1 : Cond.static y ∈ wsL_law) (hlink : Cond.methodLink own index y ∈ wsL_law) (hd2 : d2 + 1 ≤ d) (hlo : 8 + (n2 + 11) + 30 * d2 ≤ 30 * d) (hn : As.length = n) (hst : st0 = As.reverse ++ st) (hcat : (st.map fun v => v.category).sum ≤ 8) (hd : decode cc pc = .ok (.invokestatic index, 3)) (k : ∀ (x : Int32) (σ1 : St), G S Γ cc nL own rk d (f x σ1) σ1 lv (pc + 3) (.int x :: st)) : G S Γ cc nL own rk d (bnd o f) σ lv pc st0 := g_callS hK hW2 hst1 hlink hd2 hlo hn hst hcat hd k
theorem g_cSz (hK : ∀ r2 : Int32 × St, o = some r2 → Kc S y c2 n2 (some .boolean) d2 As σ r2) (hW2 : Wk y c2 n2 (some .boolean) n) (hst1 : Cond.static y ∈ wsL_law) (hlink : Cond.methodLink own index y ∈ wsL_law) (hd2 : d2 + 1 ≤ d) (hlo : 8 + (n2 + 11) + 30 * d2 ≤ 30 * d) (hn : As.length = n) (hst : st0 = As.reverse ++ st) (hcat : (st.map fun v => v.category).sum ≤ 8) (hd : decode cc pc = .ok (.invokestatic index, 3)) (k : ∀ (x : Int32) (σ1 : St), G S Γ cc nL own rk d (f x σ1) σ1 lv (pc + 3) (.int x :: st)) : G S Γ cc nL own rk d (bnd o f) σ lv pc st0 := g_callS hK hW2 hst1 hlink hd2 hlo hn hst hcat hd k
theorem g_cSv (hK : ∀ r2 : Int32 × St, o = some r2 → Kc S y c2 n2 none d2 As σ r2) (hW2 : Wk y c2 n2 none n) (hst1 : Cond.static y ∈ wsL_law) (hlink : Cond.methodLink own index y ∈ wsL_law) (hd2 : d2 + 1 ≤ d) (hlo : 8 + (n2 + 11) + 30 * d2 ≤ 30 * d) (hn : As.length = n) (hst : st0 = As.reverse ++ st) (hcat : (st.map fun v => v.category).sum ≤ 8) (hd : decode cc pc = .ok (.invokestatic index, 3)) (k : ∀ (x : Int32) (σ1 : St), G S Γ cc nL own rk d (f x σ1) σ1 lv (pc + 3) st) : G S Γ cc nL own rk d (bnd o f) σ lv pc st0 := g_callS hK hW2 hst1 hlink hd2 hlo hn hst hcat hd k
theorem g_cNi {host : String} (hK : ∀ r2 : Int32 × St, o = some r2 → Kc S y c2 n2 (some .int) d2 As σ r2) (hW2 : Wk y c2 n2 (some .int) n) (hst1 : Cond.static y ∈ wsL_law) (hlink : (own, index, y, host) ∈ nestL) (hd2 : d2 + 1 ≤ d) (hlo : 8 + (n2 + 11) + 30 * d2 ≤ 30 * d) (hn : As.length = n) (hst : st0 = As.reverse ++ st) (hcat : (st.map fun v => v.category).sum ≤ 8) (hd : decode cc pc = .ok (.invokestatic index, 3)) (k : ∀ (x : Int32) (σ1 : St), G S Γ cc nL own rk d (f x σ1) σ1 lv (pc + 3) (.int x :: st)) : G S Γ cc nL own rk d (bnd o f) σ lv pc st0 := g_callSN hK hW2 hst1 hlink hd2 hlo hn hst hcat hd k
theorem g_cNz {host : String} (hK : ∀ r2 : Int32 × St, o = some r2 → Kc S y c2 n2 (some .boolean) d2 As σ r2) (hW2 : Wk y c2 n2 (some .boolean) n) (hst1 : Cond.static y ∈ wsL_law) (hlink : (own, index, y, host) ∈ nestL) (hd2 : d2 + 1 ≤ d) (hlo : 8 + (n2 + 11) + 30 * d2 ≤ 30 * d) (hn : As.length = n) (hst : st0 = As.reverse ++ st) (hcat : (st.map fun v => v.category).sum ≤ 8) (hd : decode cc pc = .ok (.invokestatic index, 3)) (k : ∀ (x : Int32) (σ1 : St), G S Γ cc nL own rk d (f x σ1) σ1 lv (pc + 3) (.int x :: st)) : G S Γ cc nL own rk d (bnd o f) σ lv pc st0 := g_callSN hK hW2 hst1 hlink hd2 hlo hn hst hcat hd k
theorem g_cNv {host : String} (hK : ∀ r2 : Int32 × St, o = some r2 → Kc S y c2 n2 none d2 As σ r2) (hW2 : Wk y c2 n2 none n) (hst1 : Cond.static y ∈ wsL_law) (hlink : (own, index, y, host) ∈ nestL) (hd2 : d2 + 1 ≤ d) (hlo : 8 + (n2 + 11) + 30 * d2 ≤ 30 * d) (hn : As.length = n) (hst : st0 = As.reverse ++ st) (hcat : (st.map fun v => v.category).sum ≤ 8) (hd : decode cc pc = .ok (.invokestatic index, 3)) (k : ∀ (x : Int32) (σ1 : St), G S Γ cc nL own rk d (f x σ1) σ1 lv (pc + 3) st) : G S Γ cc nL own rk d (bnd o f) σ lv pc st0 := g_callSN hK hW2 hst1 hlink hd2 hlo hn hst hcat hd k
end CALLS
def lq0 (b : (St → Ot) → St → Ot) : Nat → St → Ot
  | 0 => fun _ => none
  | n + 1 => b (lq0 b n)
def jq0 (K : St → Ot) (b : (St → Ot) → Ot) : Ot := b K
theorem g_lq0 {S : Gs} {Γ : Gm} {cc : ByteArray} {nL : Nat} {own : String} {rk : Option FieldType} {d : Nat} {pc : Nat} {b : (St → Ot) → St → Ot} {lf : List (Nat × Value)} {sf : List Value} (h : ∀ k : St → Ot, (∀ (σ : St), G S Γ cc nL own rk d (k σ) σ lf pc sf) → ∀ (σ : St), G S Γ cc nL own rk d (b k σ) σ lf pc sf) (n : Nat) : ∀ (σ : St), G S Γ cc nL own rk d (lq0 b n σ) σ lf pc sf := by
  induction n with
  | zero => intro σ; exact g_none
  | succ n ih => exact h _ ih
theorem g_jq0 {S : Gs} {Γ : Gm} {cc : ByteArray} {nL : Nat} {own : String} {rk : Option FieldType} {d : Nat} {pc pc2 : Nat} {σ0 : St} {lv0 : List (Nat × Value)} {st0 : List Value} {K : St → Ot} {b : (St → Ot) → Ot} {lf : List (Nat × Value)} {sf : List Value} (hK : ∀ (σ : St), G S Γ cc nL own rk d (K σ) σ lf pc2 sf) (hb : ∀ k : St → Ot, (∀ (σ : St), G S Γ cc nL own rk d (k σ) σ lf pc2 sf) → G S Γ cc nL own rk d (b k) σ0 lv0 pc st0) : G S Γ cc nL own rk d (jq0 K b) σ0 lv0 pc st0 := hb K hK
def lq1 (b : (St → Int32 → Ot) → St → Int32 → Ot) : Nat → St → Int32 → Ot
  | 0 => fun _ _ => none
  | n + 1 => b (lq1 b n)
def jq1 (K : St → Int32 → Ot) (b : (St → Int32 → Ot) → Ot) : Ot := b K
theorem g_lq1 {S : Gs} {Γ : Gm} {cc : ByteArray} {nL : Nat} {own : String} {rk : Option FieldType} {d : Nat} {pc : Nat} {b : (St → Int32 → Ot) → St → Int32 → Ot} {lf : Int32 → List (Nat × Value)} {sf : Int32 → List Value} (h : ∀ k : St → Int32 → Ot, (∀ (σ : St) (x1 : Int32), G S Γ cc nL own rk d (k σ x1) σ (lf x1) pc (sf x1)) → ∀ (σ : St) (x1 : Int32), G S Γ cc nL own rk d (b k σ x1) σ (lf x1) pc (sf x1)) (n : Nat) : ∀ (σ : St) (x1 : Int32), G S Γ cc nL own rk d (lq1 b n σ x1) σ (lf x1) pc (sf x1) := by
  induction n with
  | zero => intro σ x1; exact g_none
  | succ n ih => exact h _ ih
theorem g_jq1 {S : Gs} {Γ : Gm} {cc : ByteArray} {nL : Nat} {own : String} {rk : Option FieldType} {d : Nat} {pc pc2 : Nat} {σ0 : St} {lv0 : List (Nat × Value)} {st0 : List Value} {K : St → Int32 → Ot} {b : (St → Int32 → Ot) → Ot} {lf : Int32 → List (Nat × Value)} {sf : Int32 → List Value} (hK : ∀ (σ : St) (x1 : Int32), G S Γ cc nL own rk d (K σ x1) σ (lf x1) pc2 (sf x1)) (hb : ∀ k : St → Int32 → Ot, (∀ (σ : St) (x1 : Int32), G S Γ cc nL own rk d (k σ x1) σ (lf x1) pc2 (sf x1)) → G S Γ cc nL own rk d (b k) σ0 lv0 pc st0) : G S Γ cc nL own rk d (jq1 K b) σ0 lv0 pc st0 := hb K hK
def lq2 (b : (St → Int32 → Int32 → Ot) → St → Int32 → Int32 → Ot) : Nat → St → Int32 → Int32 → Ot
  | 0 => fun _ _ _ => none
  | n + 1 => b (lq2 b n)
def jq2 (K : St → Int32 → Int32 → Ot) (b : (St → Int32 → Int32 → Ot) → Ot) : Ot := b K
theorem g_lq2 {S : Gs} {Γ : Gm} {cc : ByteArray} {nL : Nat} {own : String} {rk : Option FieldType} {d : Nat} {pc : Nat} {b : (St → Int32 → Int32 → Ot) → St → Int32 → Int32 → Ot} {lf : Int32 → Int32 → List (Nat × Value)} {sf : Int32 → Int32 → List Value} (h : ∀ k : St → Int32 → Int32 → Ot, (∀ (σ : St) (x1 x2 : Int32), G S Γ cc nL own rk d (k σ x1 x2) σ (lf x1 x2) pc (sf x1 x2)) → ∀ (σ : St) (x1 x2 : Int32), G S Γ cc nL own rk d (b k σ x1 x2) σ (lf x1 x2) pc (sf x1 x2)) (n : Nat) : ∀ (σ : St) (x1 x2 : Int32), G S Γ cc nL own rk d (lq2 b n σ x1 x2) σ (lf x1 x2) pc (sf x1 x2) := by
  induction n with
  | zero => intro σ x1 x2; exact g_none
  | succ n ih => exact h _ ih
theorem g_jq2 {S : Gs} {Γ : Gm} {cc : ByteArray} {nL : Nat} {own : String} {rk : Option FieldType} {d : Nat} {pc pc2 : Nat} {σ0 : St} {lv0 : List (Nat × Value)} {st0 : List Value} {K : St → Int32 → Int32 → Ot} {b : (St → Int32 → Int32 → Ot) → Ot} {lf : Int32 → Int32 → List (Nat × Value)} {sf : Int32 → Int32 → List Value} (hK : ∀ (σ : St) (x1 x2 : Int32), G S Γ cc nL own rk d (K σ x1 x2) σ (lf x1 x2) pc2 (sf x1 x2)) (hb : ∀ k : St → Int32 → Int32 → Ot, (∀ (σ : St) (x1 x2 : Int32), G S Γ cc nL own rk d (k σ x1 x2) σ (lf x1 x2) pc2 (sf x1 x2)) → G S Γ cc nL own rk d (b k) σ0 lv0 pc st0) : G S Γ cc nL own rk d (jq2 K b) σ0 lv0 pc st0 := hb K hK
def lq3 (b : (St → Int32 → Int32 → Int32 → Ot) → St → Int32 → Int32 → Int32 → Ot) : Nat → St → Int32 → Int32 → Int32 → Ot
  | 0 => fun _ _ _ _ => none
  | n + 1 => b (lq3 b n)
def jq3 (K : St → Int32 → Int32 → Int32 → Ot) (b : (St → Int32 → Int32 → Int32 → Ot) → Ot) : Ot := b K
theorem g_lq3 {S : Gs} {Γ : Gm} {cc : ByteArray} {nL : Nat} {own : String} {rk : Option FieldType} {d : Nat} {pc : Nat} {b : (St → Int32 → Int32 → Int32 → Ot) → St → Int32 → Int32 → Int32 → Ot} {lf : Int32 → Int32 → Int32 → List (Nat × Value)} {sf : Int32 → Int32 → Int32 → List Value} (h : ∀ k : St → Int32 → Int32 → Int32 → Ot, (∀ (σ : St) (x1 x2 x3 : Int32), G S Γ cc nL own rk d (k σ x1 x2 x3) σ (lf x1 x2 x3) pc (sf x1 x2 x3)) → ∀ (σ : St) (x1 x2 x3 : Int32), G S Γ cc nL own rk d (b k σ x1 x2 x3) σ (lf x1 x2 x3) pc (sf x1 x2 x3)) (n : Nat) : ∀ (σ : St) (x1 x2 x3 : Int32), G S Γ cc nL own rk d (lq3 b n σ x1 x2 x3) σ (lf x1 x2 x3) pc (sf x1 x2 x3) := by
  induction n with
  | zero => intro σ x1 x2 x3; exact g_none
  | succ n ih => exact h _ ih
theorem g_jq3 {S : Gs} {Γ : Gm} {cc : ByteArray} {nL : Nat} {own : String} {rk : Option FieldType} {d : Nat} {pc pc2 : Nat} {σ0 : St} {lv0 : List (Nat × Value)} {st0 : List Value} {K : St → Int32 → Int32 → Int32 → Ot} {b : (St → Int32 → Int32 → Int32 → Ot) → Ot} {lf : Int32 → Int32 → Int32 → List (Nat × Value)} {sf : Int32 → Int32 → Int32 → List Value} (hK : ∀ (σ : St) (x1 x2 x3 : Int32), G S Γ cc nL own rk d (K σ x1 x2 x3) σ (lf x1 x2 x3) pc2 (sf x1 x2 x3)) (hb : ∀ k : St → Int32 → Int32 → Int32 → Ot, (∀ (σ : St) (x1 x2 x3 : Int32), G S Γ cc nL own rk d (k σ x1 x2 x3) σ (lf x1 x2 x3) pc2 (sf x1 x2 x3)) → G S Γ cc nL own rk d (b k) σ0 lv0 pc st0) : G S Γ cc nL own rk d (jq3 K b) σ0 lv0 pc st0 := hb K hK
def lq4 (b : (St → Int32 → Int32 → Int32 → Int32 → Ot) → St → Int32 → Int32 → Int32 → Int32 → Ot) : Nat → St → Int32 → Int32 → Int32 → Int32 → Ot
  | 0 => fun _ _ _ _ _ => none
  | n + 1 => b (lq4 b n)
def jq4 (K : St → Int32 → Int32 → Int32 → Int32 → Ot) (b : (St → Int32 → Int32 → Int32 → Int32 → Ot) → Ot) : Ot := b K
theorem g_lq4 {S : Gs} {Γ : Gm} {cc : ByteArray} {nL : Nat} {own : String} {rk : Option FieldType} {d : Nat} {pc : Nat} {b : (St → Int32 → Int32 → Int32 → Int32 → Ot) → St → Int32 → Int32 → Int32 → Int32 → Ot} {lf : Int32 → Int32 → Int32 → Int32 → List (Nat × Value)} {sf : Int32 → Int32 → Int32 → Int32 → List Value} (h : ∀ k : St → Int32 → Int32 → Int32 → Int32 → Ot, (∀ (σ : St) (x1 x2 x3 x4 : Int32), G S Γ cc nL own rk d (k σ x1 x2 x3 x4) σ (lf x1 x2 x3 x4) pc (sf x1 x2 x3 x4)) → ∀ (σ : St) (x1 x2 x3 x4 : Int32), G S Γ cc nL own rk d (b k σ x1 x2 x3 x4) σ (lf x1 x2 x3 x4) pc (sf x1 x2 x3 x4)) (n : Nat) : ∀ (σ : St) (x1 x2 x3 x4 : Int32), G S Γ cc nL own rk d (lq4 b n σ x1 x2 x3 x4) σ (lf x1 x2 x3 x4) pc (sf x1 x2 x3 x4) := by
  induction n with
  | zero => intro σ x1 x2 x3 x4; exact g_none
  | succ n ih => exact h _ ih
theorem g_jq4 {S : Gs} {Γ : Gm} {cc : ByteArray} {nL : Nat} {own : String} {rk : Option FieldType} {d : Nat} {pc pc2 : Nat} {σ0 : St} {lv0 : List (Nat × Value)} {st0 : List Value} {K : St → Int32 → Int32 → Int32 → Int32 → Ot} {b : (St → Int32 → Int32 → Int32 → Int32 → Ot) → Ot} {lf : Int32 → Int32 → Int32 → Int32 → List (Nat × Value)} {sf : Int32 → Int32 → Int32 → Int32 → List Value} (hK : ∀ (σ : St) (x1 x2 x3 x4 : Int32), G S Γ cc nL own rk d (K σ x1 x2 x3 x4) σ (lf x1 x2 x3 x4) pc2 (sf x1 x2 x3 x4)) (hb : ∀ k : St → Int32 → Int32 → Int32 → Int32 → Ot, (∀ (σ : St) (x1 x2 x3 x4 : Int32), G S Γ cc nL own rk d (k σ x1 x2 x3 x4) σ (lf x1 x2 x3 x4) pc2 (sf x1 x2 x3 x4)) → G S Γ cc nL own rk d (b k) σ0 lv0 pc st0) : G S Γ cc nL own rk d (jq4 K b) σ0 lv0 pc st0 := hb K hK
def lq5 (b : (St → Int32 → Int32 → Int32 → Int32 → Int32 → Ot) → St → Int32 → Int32 → Int32 → Int32 → Int32 → Ot) : Nat → St → Int32 → Int32 → Int32 → Int32 → Int32 → Ot
  | 0 => fun _ _ _ _ _ _ => none
  | n + 1 => b (lq5 b n)
def jq5 (K : St → Int32 → Int32 → Int32 → Int32 → Int32 → Ot) (b : (St → Int32 → Int32 → Int32 → Int32 → Int32 → Ot) → Ot) : Ot := b K
theorem g_lq5 {S : Gs} {Γ : Gm} {cc : ByteArray} {nL : Nat} {own : String} {rk : Option FieldType} {d : Nat} {pc : Nat} {b : (St → Int32 → Int32 → Int32 → Int32 → Int32 → Ot) → St → Int32 → Int32 → Int32 → Int32 → Int32 → Ot} {lf : Int32 → Int32 → Int32 → Int32 → Int32 → List (Nat × Value)} {sf : Int32 → Int32 → Int32 → Int32 → Int32 → List Value} (h : ∀ k : St → Int32 → Int32 → Int32 → Int32 → Int32 → Ot, (∀ (σ : St) (x1 x2 x3 x4 x5 : Int32), G S Γ cc nL own rk d (k σ x1 x2 x3 x4 x5) σ (lf x1 x2 x3 x4 x5) pc (sf x1 x2 x3 x4 x5)) → ∀ (σ : St) (x1 x2 x3 x4 x5 : Int32), G S Γ cc nL own rk d (b k σ x1 x2 x3 x4 x5) σ (lf x1 x2 x3 x4 x5) pc (sf x1 x2 x3 x4 x5)) (n : Nat) : ∀ (σ : St) (x1 x2 x3 x4 x5 : Int32), G S Γ cc nL own rk d (lq5 b n σ x1 x2 x3 x4 x5) σ (lf x1 x2 x3 x4 x5) pc (sf x1 x2 x3 x4 x5) := by
  induction n with
  | zero => intro σ x1 x2 x3 x4 x5; exact g_none
  | succ n ih => exact h _ ih
theorem g_jq5 {S : Gs} {Γ : Gm} {cc : ByteArray} {nL : Nat} {own : String} {rk : Option FieldType} {d : Nat} {pc pc2 : Nat} {σ0 : St} {lv0 : List (Nat × Value)} {st0 : List Value} {K : St → Int32 → Int32 → Int32 → Int32 → Int32 → Ot} {b : (St → Int32 → Int32 → Int32 → Int32 → Int32 → Ot) → Ot} {lf : Int32 → Int32 → Int32 → Int32 → Int32 → List (Nat × Value)} {sf : Int32 → Int32 → Int32 → Int32 → Int32 → List Value} (hK : ∀ (σ : St) (x1 x2 x3 x4 x5 : Int32), G S Γ cc nL own rk d (K σ x1 x2 x3 x4 x5) σ (lf x1 x2 x3 x4 x5) pc2 (sf x1 x2 x3 x4 x5)) (hb : ∀ k : St → Int32 → Int32 → Int32 → Int32 → Int32 → Ot, (∀ (σ : St) (x1 x2 x3 x4 x5 : Int32), G S Γ cc nL own rk d (k σ x1 x2 x3 x4 x5) σ (lf x1 x2 x3 x4 x5) pc2 (sf x1 x2 x3 x4 x5)) → G S Γ cc nL own rk d (b k) σ0 lv0 pc st0) : G S Γ cc nL own rk d (jq5 K b) σ0 lv0 pc st0 := hb K hK
def lq6 (b : (St → Int32 → Int32 → Int32 → Int32 → Int32 → Int32 → Ot) → St → Int32 → Int32 → Int32 → Int32 → Int32 → Int32 → Ot) : Nat → St → Int32 → Int32 → Int32 → Int32 → Int32 → Int32 → Ot
  | 0 => fun _ _ _ _ _ _ _ => none
  | n + 1 => b (lq6 b n)
def jq6 (K : St → Int32 → Int32 → Int32 → Int32 → Int32 → Int32 → Ot) (b : (St → Int32 → Int32 → Int32 → Int32 → Int32 → Int32 → Ot) → Ot) : Ot := b K
theorem g_lq6 {S : Gs} {Γ : Gm} {cc : ByteArray} {nL : Nat} {own : String} {rk : Option FieldType} {d : Nat} {pc : Nat} {b : (St → Int32 → Int32 → Int32 → Int32 → Int32 → Int32 → Ot) → St → Int32 → Int32 → Int32 → Int32 → Int32 → Int32 → Ot} {lf : Int32 → Int32 → Int32 → Int32 → Int32 → Int32 → List (Nat × Value)} {sf : Int32 → Int32 → Int32 → Int32 → Int32 → Int32 → List Value} (h : ∀ k : St → Int32 → Int32 → Int32 → Int32 → Int32 → Int32 → Ot, (∀ (σ : St) (x1 x2 x3 x4 x5 x6 : Int32), G S Γ cc nL own rk d (k σ x1 x2 x3 x4 x5 x6) σ (lf x1 x2 x3 x4 x5 x6) pc (sf x1 x2 x3 x4 x5 x6)) → ∀ (σ : St) (x1 x2 x3 x4 x5 x6 : Int32), G S Γ cc nL own rk d (b k σ x1 x2 x3 x4 x5 x6) σ (lf x1 x2 x3 x4 x5 x6) pc (sf x1 x2 x3 x4 x5 x6)) (n : Nat) : ∀ (σ : St) (x1 x2 x3 x4 x5 x6 : Int32), G S Γ cc nL own rk d (lq6 b n σ x1 x2 x3 x4 x5 x6) σ (lf x1 x2 x3 x4 x5 x6) pc (sf x1 x2 x3 x4 x5 x6) := by
  induction n with
  | zero => intro σ x1 x2 x3 x4 x5 x6; exact g_none
  | succ n ih => exact h _ ih
theorem g_jq6 {S : Gs} {Γ : Gm} {cc : ByteArray} {nL : Nat} {own : String} {rk : Option FieldType} {d : Nat} {pc pc2 : Nat} {σ0 : St} {lv0 : List (Nat × Value)} {st0 : List Value} {K : St → Int32 → Int32 → Int32 → Int32 → Int32 → Int32 → Ot} {b : (St → Int32 → Int32 → Int32 → Int32 → Int32 → Int32 → Ot) → Ot} {lf : Int32 → Int32 → Int32 → Int32 → Int32 → Int32 → List (Nat × Value)} {sf : Int32 → Int32 → Int32 → Int32 → Int32 → Int32 → List Value} (hK : ∀ (σ : St) (x1 x2 x3 x4 x5 x6 : Int32), G S Γ cc nL own rk d (K σ x1 x2 x3 x4 x5 x6) σ (lf x1 x2 x3 x4 x5 x6) pc2 (sf x1 x2 x3 x4 x5 x6)) (hb : ∀ k : St → Int32 → Int32 → Int32 → Int32 → Int32 → Int32 → Ot, (∀ (σ : St) (x1 x2 x3 x4 x5 x6 : Int32), G S Γ cc nL own rk d (k σ x1 x2 x3 x4 x5 x6) σ (lf x1 x2 x3 x4 x5 x6) pc2 (sf x1 x2 x3 x4 x5 x6)) → G S Γ cc nL own rk d (b k) σ0 lv0 pc st0) : G S Γ cc nL own rk d (jq6 K b) σ0 lv0 pc st0 := hb K hK
def lq7 (b : (St → Int32 → Int32 → Int32 → Int32 → Int32 → Int32 → Int32 → Ot) → St → Int32 → Int32 → Int32 → Int32 → Int32 → Int32 → Int32 → Ot) : Nat → St → Int32 → Int32 → Int32 → Int32 → Int32 → Int32 → Int32 → Ot
  | 0 => fun _ _ _ _ _ _ _ _ => none
  | n + 1 => b (lq7 b n)
def jq7 (K : St → Int32 → Int32 → Int32 → Int32 → Int32 → Int32 → Int32 → Ot) (b : (St → Int32 → Int32 → Int32 → Int32 → Int32 → Int32 → Int32 → Ot) → Ot) : Ot := b K
theorem g_lq7 {S : Gs} {Γ : Gm} {cc : ByteArray} {nL : Nat} {own : String} {rk : Option FieldType} {d : Nat} {pc : Nat} {b : (St → Int32 → Int32 → Int32 → Int32 → Int32 → Int32 → Int32 → Ot) → St → Int32 → Int32 → Int32 → Int32 → Int32 → Int32 → Int32 → Ot} {lf : Int32 → Int32 → Int32 → Int32 → Int32 → Int32 → Int32 → List (Nat × Value)} {sf : Int32 → Int32 → Int32 → Int32 → Int32 → Int32 → Int32 → List Value} (h : ∀ k : St → Int32 → Int32 → Int32 → Int32 → Int32 → Int32 → Int32 → Ot, (∀ (σ : St) (x1 x2 x3 x4 x5 x6 x7 : Int32), G S Γ cc nL own rk d (k σ x1 x2 x3 x4 x5 x6 x7) σ (lf x1 x2 x3 x4 x5 x6 x7) pc (sf x1 x2 x3 x4 x5 x6 x7)) → ∀ (σ : St) (x1 x2 x3 x4 x5 x6 x7 : Int32), G S Γ cc nL own rk d (b k σ x1 x2 x3 x4 x5 x6 x7) σ (lf x1 x2 x3 x4 x5 x6 x7) pc (sf x1 x2 x3 x4 x5 x6 x7)) (n : Nat) : ∀ (σ : St) (x1 x2 x3 x4 x5 x6 x7 : Int32), G S Γ cc nL own rk d (lq7 b n σ x1 x2 x3 x4 x5 x6 x7) σ (lf x1 x2 x3 x4 x5 x6 x7) pc (sf x1 x2 x3 x4 x5 x6 x7) := by
  induction n with
  | zero => intro σ x1 x2 x3 x4 x5 x6 x7; exact g_none
  | succ n ih => exact h _ ih
theorem g_jq7 {S : Gs} {Γ : Gm} {cc : ByteArray} {nL : Nat} {own : String} {rk : Option FieldType} {d : Nat} {pc pc2 : Nat} {σ0 : St} {lv0 : List (Nat × Value)} {st0 : List Value} {K : St → Int32 → Int32 → Int32 → Int32 → Int32 → Int32 → Int32 → Ot} {b : (St → Int32 → Int32 → Int32 → Int32 → Int32 → Int32 → Int32 → Ot) → Ot} {lf : Int32 → Int32 → Int32 → Int32 → Int32 → Int32 → Int32 → List (Nat × Value)} {sf : Int32 → Int32 → Int32 → Int32 → Int32 → Int32 → Int32 → List Value} (hK : ∀ (σ : St) (x1 x2 x3 x4 x5 x6 x7 : Int32), G S Γ cc nL own rk d (K σ x1 x2 x3 x4 x5 x6 x7) σ (lf x1 x2 x3 x4 x5 x6 x7) pc2 (sf x1 x2 x3 x4 x5 x6 x7)) (hb : ∀ k : St → Int32 → Int32 → Int32 → Int32 → Int32 → Int32 → Int32 → Ot, (∀ (σ : St) (x1 x2 x3 x4 x5 x6 x7 : Int32), G S Γ cc nL own rk d (k σ x1 x2 x3 x4 x5 x6 x7) σ (lf x1 x2 x3 x4 x5 x6 x7) pc2 (sf x1 x2 x3 x4 x5 x6 x7)) → G S Γ cc nL own rk d (b k) σ0 lv0 pc st0) : G S Γ cc nL own rk d (jq7 K b) σ0 lv0 pc st0 := hb K hK
def lq8 (b : (St → Int32 → Int32 → Int32 → Int32 → Int32 → Int32 → Int32 → Int32 → Ot) → St → Int32 → Int32 → Int32 → Int32 → Int32 → Int32 → Int32 → Int32 → Ot) : Nat → St → Int32 → Int32 → Int32 → Int32 → Int32 → Int32 → Int32 → Int32 → Ot
  | 0 => fun _ _ _ _ _ _ _ _ _ => none
  | n + 1 => b (lq8 b n)
def jq8 (K : St → Int32 → Int32 → Int32 → Int32 → Int32 → Int32 → Int32 → Int32 → Ot) (b : (St → Int32 → Int32 → Int32 → Int32 → Int32 → Int32 → Int32 → Int32 → Ot) → Ot) : Ot := b K
theorem g_lq8 {S : Gs} {Γ : Gm} {cc : ByteArray} {nL : Nat} {own : String} {rk : Option FieldType} {d : Nat} {pc : Nat} {b : (St → Int32 → Int32 → Int32 → Int32 → Int32 → Int32 → Int32 → Int32 → Ot) → St → Int32 → Int32 → Int32 → Int32 → Int32 → Int32 → Int32 → Int32 → Ot} {lf : Int32 → Int32 → Int32 → Int32 → Int32 → Int32 → Int32 → Int32 → List (Nat × Value)} {sf : Int32 → Int32 → Int32 → Int32 → Int32 → Int32 → Int32 → Int32 → List Value} (h : ∀ k : St → Int32 → Int32 → Int32 → Int32 → Int32 → Int32 → Int32 → Int32 → Ot, (∀ (σ : St) (x1 x2 x3 x4 x5 x6 x7 x8 : Int32), G S Γ cc nL own rk d (k σ x1 x2 x3 x4 x5 x6 x7 x8) σ (lf x1 x2 x3 x4 x5 x6 x7 x8) pc (sf x1 x2 x3 x4 x5 x6 x7 x8)) → ∀ (σ : St) (x1 x2 x3 x4 x5 x6 x7 x8 : Int32), G S Γ cc nL own rk d (b k σ x1 x2 x3 x4 x5 x6 x7 x8) σ (lf x1 x2 x3 x4 x5 x6 x7 x8) pc (sf x1 x2 x3 x4 x5 x6 x7 x8)) (n : Nat) : ∀ (σ : St) (x1 x2 x3 x4 x5 x6 x7 x8 : Int32), G S Γ cc nL own rk d (lq8 b n σ x1 x2 x3 x4 x5 x6 x7 x8) σ (lf x1 x2 x3 x4 x5 x6 x7 x8) pc (sf x1 x2 x3 x4 x5 x6 x7 x8) := by
  induction n with
  | zero => intro σ x1 x2 x3 x4 x5 x6 x7 x8; exact g_none
  | succ n ih => exact h _ ih
theorem g_jq8 {S : Gs} {Γ : Gm} {cc : ByteArray} {nL : Nat} {own : String} {rk : Option FieldType} {d : Nat} {pc pc2 : Nat} {σ0 : St} {lv0 : List (Nat × Value)} {st0 : List Value} {K : St → Int32 → Int32 → Int32 → Int32 → Int32 → Int32 → Int32 → Int32 → Ot} {b : (St → Int32 → Int32 → Int32 → Int32 → Int32 → Int32 → Int32 → Int32 → Ot) → Ot} {lf : Int32 → Int32 → Int32 → Int32 → Int32 → Int32 → Int32 → Int32 → List (Nat × Value)} {sf : Int32 → Int32 → Int32 → Int32 → Int32 → Int32 → Int32 → Int32 → List Value} (hK : ∀ (σ : St) (x1 x2 x3 x4 x5 x6 x7 x8 : Int32), G S Γ cc nL own rk d (K σ x1 x2 x3 x4 x5 x6 x7 x8) σ (lf x1 x2 x3 x4 x5 x6 x7 x8) pc2 (sf x1 x2 x3 x4 x5 x6 x7 x8)) (hb : ∀ k : St → Int32 → Int32 → Int32 → Int32 → Int32 → Int32 → Int32 → Int32 → Ot, (∀ (σ : St) (x1 x2 x3 x4 x5 x6 x7 x8 : Int32), G S Γ cc nL own rk d (k σ x1 x2 x3 x4 x5 x6 x7 x8) σ (lf x1 x2 x3 x4 x5 x6 x7 x8) pc2 (sf x1 x2 x3 x4 x5 x6 x7 x8)) → G S Γ cc nL own rk d (b k) σ0 lv0 pc st0) : G S Γ cc nL own rk d (jq8 K b) σ0 lv0 pc st0 := hb K hK
def lq9 (b : (St → Int32 → Int32 → Int32 → Int32 → Int32 → Int32 → Int32 → Int32 → Int32 → Ot) → St → Int32 → Int32 → Int32 → Int32 → Int32 → Int32 → Int32 → Int32 → Int32 → Ot) : Nat → St → Int32 → Int32 → Int32 → Int32 → Int32 → Int32 → Int32 → Int32 → Int32 → Ot
  | 0 => fun _ _ _ _ _ _ _ _ _ _ => none
  | n + 1 => b (lq9 b n)
def jq9 (K : St → Int32 → Int32 → Int32 → Int32 → Int32 → Int32 → Int32 → Int32 → Int32 → Ot) (b : (St → Int32 → Int32 → Int32 → Int32 → Int32 → Int32 → Int32 → Int32 → Int32 → Ot) → Ot) : Ot := b K
theorem g_lq9 {S : Gs} {Γ : Gm} {cc : ByteArray} {nL : Nat} {own : String} {rk : Option FieldType} {d : Nat} {pc : Nat} {b : (St → Int32 → Int32 → Int32 → Int32 → Int32 → Int32 → Int32 → Int32 → Int32 → Ot) → St → Int32 → Int32 → Int32 → Int32 → Int32 → Int32 → Int32 → Int32 → Int32 → Ot} {lf : Int32 → Int32 → Int32 → Int32 → Int32 → Int32 → Int32 → Int32 → Int32 → List (Nat × Value)} {sf : Int32 → Int32 → Int32 → Int32 → Int32 → Int32 → Int32 → Int32 → Int32 → List Value} (h : ∀ k : St → Int32 → Int32 → Int32 → Int32 → Int32 → Int32 → Int32 → Int32 → Int32 → Ot, (∀ (σ : St) (x1 x2 x3 x4 x5 x6 x7 x8 x9 : Int32), G S Γ cc nL own rk d (k σ x1 x2 x3 x4 x5 x6 x7 x8 x9) σ (lf x1 x2 x3 x4 x5 x6 x7 x8 x9) pc (sf x1 x2 x3 x4 x5 x6 x7 x8 x9)) → ∀ (σ : St) (x1 x2 x3 x4 x5 x6 x7 x8 x9 : Int32), G S Γ cc nL own rk d (b k σ x1 x2 x3 x4 x5 x6 x7 x8 x9) σ (lf x1 x2 x3 x4 x5 x6 x7 x8 x9) pc (sf x1 x2 x3 x4 x5 x6 x7 x8 x9)) (n : Nat) : ∀ (σ : St) (x1 x2 x3 x4 x5 x6 x7 x8 x9 : Int32), G S Γ cc nL own rk d (lq9 b n σ x1 x2 x3 x4 x5 x6 x7 x8 x9) σ (lf x1 x2 x3 x4 x5 x6 x7 x8 x9) pc (sf x1 x2 x3 x4 x5 x6 x7 x8 x9) := by
  induction n with
  | zero => intro σ x1 x2 x3 x4 x5 x6 x7 x8 x9; exact g_none
  | succ n ih => exact h _ ih
theorem g_jq9 {S : Gs} {Γ : Gm} {cc : ByteArray} {nL : Nat} {own : String} {rk : Option FieldType} {d : Nat} {pc pc2 : Nat} {σ0 : St} {lv0 : List (Nat × Value)} {st0 : List Value} {K : St → Int32 → Int32 → Int32 → Int32 → Int32 → Int32 → Int32 → Int32 → Int32 → Ot} {b : (St → Int32 → Int32 → Int32 → Int32 → Int32 → Int32 → Int32 → Int32 → Int32 → Ot) → Ot} {lf : Int32 → Int32 → Int32 → Int32 → Int32 → Int32 → Int32 → Int32 → Int32 → List (Nat × Value)} {sf : Int32 → Int32 → Int32 → Int32 → Int32 → Int32 → Int32 → Int32 → Int32 → List Value} (hK : ∀ (σ : St) (x1 x2 x3 x4 x5 x6 x7 x8 x9 : Int32), G S Γ cc nL own rk d (K σ x1 x2 x3 x4 x5 x6 x7 x8 x9) σ (lf x1 x2 x3 x4 x5 x6 x7 x8 x9) pc2 (sf x1 x2 x3 x4 x5 x6 x7 x8 x9)) (hb : ∀ k : St → Int32 → Int32 → Int32 → Int32 → Int32 → Int32 → Int32 → Int32 → Int32 → Ot, (∀ (σ : St) (x1 x2 x3 x4 x5 x6 x7 x8 x9 : Int32), G S Γ cc nL own rk d (k σ x1 x2 x3 x4 x5 x6 x7 x8 x9) σ (lf x1 x2 x3 x4 x5 x6 x7 x8 x9) pc2 (sf x1 x2 x3 x4 x5 x6 x7 x8 x9)) → G S Γ cc nL own rk d (b k) σ0 lv0 pc st0) : G S Γ cc nL own rk d (jq9 K b) σ0 lv0 pc st0 := hb K hK
end
