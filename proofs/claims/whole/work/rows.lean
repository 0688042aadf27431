section
-- ===== PART A: goes FIRST, ahead of the names: the tables' words, and 'selects' of the private methods out of them =====
/-- a private method of a class that the tables say can be made, by its rows of tables_1 -/
def lw_okq (q : MethodName × Nat) : Prop := (q.1.cls ≠ "java/lang/invoke/MethodHandle" ∧ q.1.cls ≠ "java/lang/invoke/VarHandle") ∧ Cond.instantiable q.1.cls q.2 ∈ tables_1 ∧ Cond.privateMethod q.1 ∈ tables_1 ∧ Cond.instanceMethod q.1 ∈ tables_1
theorem lw_p0 : lw_okq (⟨"NewsDraughts", "layText", "()Z"⟩, 12) := ⟨⟨by decide +kernel, by decide +kernel⟩, List.mem_of_getElem? (i := 20) (by decide +kernel), List.mem_of_getElem? (i := 335) (by decide +kernel), List.mem_of_getElem? (i := 336) (by decide +kernel)⟩
theorem lw_p1 : lw_okq (⟨"NewsDraughts$Parish", "takeGrid", "(II)Z"⟩, 13) := ⟨⟨by decide +kernel, by decide +kernel⟩, List.mem_of_getElem? (i := 58) (by decide +kernel), List.mem_of_getElem? (i := 350) (by decide +kernel), List.mem_of_getElem? (i := 351) (by decide +kernel)⟩
theorem lw_p2 : lw_okq (⟨"NewsDraughts$Reader", "readNumbers", "()I"⟩, 3) := ⟨⟨by decide +kernel, by decide +kernel⟩, List.mem_of_getElem? (i := 42) (by decide +kernel), List.mem_of_getElem? (i := 364) (by decide +kernel), List.mem_of_getElem? (i := 365) (by decide +kernel)⟩
theorem lw_p3 : lw_okq (⟨"NewsDraughts$Reader", "readNumber", "()I"⟩, 3) := ⟨⟨by decide +kernel, by decide +kernel⟩, List.mem_of_getElem? (i := 42) (by decide +kernel), List.mem_of_getElem? (i := 368) (by decide +kernel), List.mem_of_getElem? (i := 369) (by decide +kernel)⟩
theorem lw_p4 : lw_okq (⟨"NewsDraughts$Parish", "takeHouse", "(III)Z"⟩, 13) := ⟨⟨by decide +kernel, by decide +kernel⟩, List.mem_of_getElem? (i := 58) (by decide +kernel), List.mem_of_getElem? (i := 389) (by decide +kernel), List.mem_of_getElem? (i := 390) (by decide +kernel)⟩
theorem lw_p5 : lw_okq (⟨"NewsDraughts$Parish", "takeNews", "(III)Z"⟩, 13) := ⟨⟨by decide +kernel, by decide +kernel⟩, List.mem_of_getElem? (i := 58) (by decide +kernel), List.mem_of_getElem? (i := 406) (by decide +kernel), List.mem_of_getElem? (i := 407) (by decide +kernel)⟩
theorem lw_p6 : lw_okq (⟨"NewsDraughts$Parish", "takeWind", "(I)Z"⟩, 13) := ⟨⟨by decide +kernel, by decide +kernel⟩, List.mem_of_getElem? (i := 58) (by decide +kernel), List.mem_of_getElem? (i := 410) (by decide +kernel), List.mem_of_getElem? (i := 411) (by decide +kernel)⟩
theorem lw_p7 : lw_okq (⟨"NewsDraughts$Pile", "placeOf", "(I)LNewsDraughts$Standing;"⟩, 3) := ⟨⟨by decide +kernel, by decide +kernel⟩, List.mem_of_getElem? (i := 120) (by decide +kernel), List.mem_of_getElem? (i := 578) (by decide +kernel), List.mem_of_getElem? (i := 579) (by decide +kernel)⟩
theorem lw_p8 : lw_okq (⟨"NewsDraughts$Draught", "letsInFromTalkers", "(II)Z"⟩, 12) := ⟨⟨by decide +kernel, by decide +kernel⟩, List.mem_of_getElem? (i := 139) (by decide +kernel), List.mem_of_getElem? (i := 623) (by decide +kernel), List.mem_of_getElem? (i := 624) (by decide +kernel)⟩
theorem lw_p9 : lw_okq (⟨"NewsDraughts$Draught", "letsInFromGossips", "(II)Z"⟩, 12) := ⟨⟨by decide +kernel, by decide +kernel⟩, List.mem_of_getElem? (i := 139) (by decide +kernel), List.mem_of_getElem? (i := 628) (by decide +kernel), List.mem_of_getElem? (i := 629) (by decide +kernel)⟩
theorem lw_p10 : lw_okq (⟨"NewsDraughts$Openings", "found", "(III)V"⟩, 9) := ⟨⟨by decide +kernel, by decide +kernel⟩, List.mem_of_getElem? (i := 198) (by decide +kernel), List.mem_of_getElem? (i := 750) (by decide +kernel), List.mem_of_getElem? (i := 751) (by decide +kernel)⟩
theorem lw_p11 : lw_okq (⟨"NewsDraughts$Openings", "isSo", "(I)Z"⟩, 9) := ⟨⟨by decide +kernel, by decide +kernel⟩, List.mem_of_getElem? (i := 198) (by decide +kernel), List.mem_of_getElem? (i := 761) (by decide +kernel), List.mem_of_getElem? (i := 762) (by decide +kernel)⟩
theorem lw_p12 : lw_okq (⟨"NewsDraughts$Openings", "fittingWidth", "(I)I"⟩, 9) := ⟨⟨by decide +kernel, by decide +kernel⟩, List.mem_of_getElem? (i := 198) (by decide +kernel), List.mem_of_getElem? (i := 770) (by decide +kernel), List.mem_of_getElem? (i := 771) (by decide +kernel)⟩
theorem lw_p13 : lw_okq (⟨"NewsDraughts$Openings", "isFoundWith", "(II)Z"⟩, 9) := ⟨⟨by decide +kernel, by decide +kernel⟩, List.mem_of_getElem? (i := 198) (by decide +kernel), List.mem_of_getElem? (i := 784) (by decide +kernel), List.mem_of_getElem? (i := 785) (by decide +kernel)⟩
theorem lw_p14 : lw_okq (⟨"NewsDraughts$Outlook", "burden", "(II)I"⟩, 3) := ⟨⟨by decide +kernel, by decide +kernel⟩, List.mem_of_getElem? (i := 182) (by decide +kernel), List.mem_of_getElem? (i := 800) (by decide +kernel), List.mem_of_getElem? (i := 801) (by decide +kernel)⟩
theorem lw_p15 : lw_okq (⟨"NewsDraughts$Sightings", "allSoFrom", "(II)Z"⟩, 7) := ⟨⟨by decide +kernel, by decide +kernel⟩, List.mem_of_getElem? (i := 251) (by decide +kernel), List.mem_of_getElem? (i := 857) (by decide +kernel), List.mem_of_getElem? (i := 858) (by decide +kernel)⟩
def lw_privs_1 : List (MethodName × Nat) := [(⟨"NewsDraughts", "layText", "()Z"⟩, 12), (⟨"NewsDraughts$Parish", "takeGrid", "(II)Z"⟩, 13), (⟨"NewsDraughts$Reader", "readNumbers", "()I"⟩, 3), (⟨"NewsDraughts$Reader", "readNumber", "()I"⟩, 3), (⟨"NewsDraughts$Parish", "takeHouse", "(III)Z"⟩, 13), (⟨"NewsDraughts$Parish", "takeNews", "(III)Z"⟩, 13), (⟨"NewsDraughts$Parish", "takeWind", "(I)Z"⟩, 13), (⟨"NewsDraughts$Pile", "placeOf", "(I)LNewsDraughts$Standing;"⟩, 3), (⟨"NewsDraughts$Draught", "letsInFromTalkers", "(II)Z"⟩, 12), (⟨"NewsDraughts$Draught", "letsInFromGossips", "(II)Z"⟩, 12), (⟨"NewsDraughts$Openings", "found", "(III)V"⟩, 9), (⟨"NewsDraughts$Openings", "isSo", "(I)Z"⟩, 9), (⟨"NewsDraughts$Openings", "fittingWidth", "(I)I"⟩, 9), (⟨"NewsDraughts$Openings", "isFoundWith", "(II)Z"⟩, 9), (⟨"NewsDraughts$Outlook", "burden", "(II)I"⟩, 3), (⟨"NewsDraughts$Sightings", "allSoFrom", "(II)Z"⟩, 7)]
theorem lw_r1 : ∀ q ∈ lw_privs_1, lw_okq q := List.forall_mem_cons.mpr ⟨lw_p0, List.forall_mem_cons.mpr ⟨lw_p1, List.forall_mem_cons.mpr ⟨lw_p2, List.forall_mem_cons.mpr ⟨lw_p3, List.forall_mem_cons.mpr ⟨lw_p4, List.forall_mem_cons.mpr ⟨lw_p5, List.forall_mem_cons.mpr ⟨lw_p6, List.forall_mem_cons.mpr ⟨lw_p7, List.forall_mem_cons.mpr ⟨lw_p8, List.forall_mem_cons.mpr ⟨lw_p9, List.forall_mem_cons.mpr ⟨lw_p10, List.forall_mem_cons.mpr ⟨lw_p11, List.forall_mem_cons.mpr ⟨lw_p12, List.forall_mem_cons.mpr ⟨lw_p13, List.forall_mem_cons.mpr ⟨lw_p14, List.forall_mem_cons.mpr ⟨lw_p15, fun _ h => absurd h List.not_mem_nil⟩⟩⟩⟩⟩⟩⟩⟩⟩⟩⟩⟩⟩⟩⟩⟩
theorem lw_p16 : lw_okq (⟨"NewsDraughts$Sightings", "isSo", "(II)Z"⟩, 7) := ⟨⟨by decide +kernel, by decide +kernel⟩, List.mem_of_getElem? (i := 251) (by decide +kernel), List.mem_of_getElem? (i := 865) (by decide +kernel), List.mem_of_getElem? (i := 866) (by decide +kernel)⟩
theorem lw_p17 : lw_okq (⟨"NewsDraughts$Sightings", "allSoBy", "(I)Z"⟩, 7) := ⟨⟨by decide +kernel, by decide +kernel⟩, List.mem_of_getElem? (i := 251) (by decide +kernel), List.mem_of_getElem? (i := 878) (by decide +kernel), List.mem_of_getElem? (i := 879) (by decide +kernel)⟩
theorem lw_p18 : lw_okq (⟨"NewsDraughts$Chances", "openByDraw", "(I)V"⟩, 4) := ⟨⟨by decide +kernel, by decide +kernel⟩, List.mem_of_getElem? (i := 232) (by decide +kernel), List.mem_of_getElem? (i := 919) (by decide +kernel), List.mem_of_getElem? (i := 920) (by decide +kernel)⟩
theorem lw_p19 : lw_okq (⟨"NewsDraughtsModel", "clearTold", "()V"⟩, 32) := ⟨⟨by decide +kernel, by decide +kernel⟩, List.mem_of_getElem? (i := 957) (by decide +kernel), List.mem_of_getElem? (i := 963) (by decide +kernel), List.mem_of_getElem? (i := 964) (by decide +kernel)⟩
theorem lw_p20 : lw_okq (⟨"NewsDraughtsModel", "tellsHouse", "(III)V"⟩, 32) := ⟨⟨by decide +kernel, by decide +kernel⟩, List.mem_of_getElem? (i := 957) (by decide +kernel), List.mem_of_getElem? (i := 967) (by decide +kernel), List.mem_of_getElem? (i := 968) (by decide +kernel)⟩
theorem lw_p21 : lw_okq (⟨"NewsDraughtsModel", "tellsNews", "(III)V"⟩, 32) := ⟨⟨by decide +kernel, by decide +kernel⟩, List.mem_of_getElem? (i := 957) (by decide +kernel), List.mem_of_getElem? (i := 971) (by decide +kernel), List.mem_of_getElem? (i := 972) (by decide +kernel)⟩
theorem lw_p22 : lw_okq (⟨"NewsDraughtsModel", "settles", "()V"⟩, 32) := ⟨⟨by decide +kernel, by decide +kernel⟩, List.mem_of_getElem? (i := 957) (by decide +kernel), List.mem_of_getElem? (i := 975) (by decide +kernel), List.mem_of_getElem? (i := 976) (by decide +kernel)⟩
theorem lw_p23 : lw_okq (⟨"NewsDraughtsModel", "readItem", "()Z"⟩, 32) := ⟨⟨by decide +kernel, by decide +kernel⟩, List.mem_of_getElem? (i := 957) (by decide +kernel), List.mem_of_getElem? (i := 1094) (by decide +kernel), List.mem_of_getElem? (i := 1095) (by decide +kernel)⟩
theorem lw_p24 : lw_okq (⟨"NewsDraughtsModel", "letterAt", "(I)I"⟩, 32) := ⟨⟨by decide +kernel, by decide +kernel⟩, List.mem_of_getElem? (i := 957) (by decide +kernel), List.mem_of_getElem? (i := 1098) (by decide +kernel), List.mem_of_getElem? (i := 1099) (by decide +kernel)⟩
theorem lw_p25 : lw_okq (⟨"NewsDraughtsModel", "readGridOf", "()Z"⟩, 32) := ⟨⟨by decide +kernel, by decide +kernel⟩, List.mem_of_getElem? (i := 957) (by decide +kernel), List.mem_of_getElem? (i := 1102) (by decide +kernel), List.mem_of_getElem? (i := 1103) (by decide +kernel)⟩
theorem lw_p26 : lw_okq (⟨"NewsDraughtsModel", "readNumbers", "(I)Z"⟩, 32) := ⟨⟨by decide +kernel, by decide +kernel⟩, List.mem_of_getElem? (i := 957) (by decide +kernel), List.mem_of_getElem? (i := 1106) (by decide +kernel), List.mem_of_getElem? (i := 1107) (by decide +kernel)⟩
theorem lw_p27 : lw_okq (⟨"NewsDraughtsModel", "isTold", "(III)Z"⟩, 32) := ⟨⟨by decide +kernel, by decide +kernel⟩, List.mem_of_getElem? (i := 957) (by decide +kernel), List.mem_of_getElem? (i := 1113) (by decide +kernel), List.mem_of_getElem? (i := 1114) (by decide +kernel)⟩
theorem lw_p28 : lw_okq (⟨"NewsDraughtsModel", "readHouseOf", "()Z"⟩, 32) := ⟨⟨by decide +kernel, by decide +kernel⟩, List.mem_of_getElem? (i := 957) (by decide +kernel), List.mem_of_getElem? (i := 1117) (by decide +kernel), List.mem_of_getElem? (i := 1118) (by decide +kernel)⟩
theorem lw_p29 : lw_okq (⟨"NewsDraughtsModel", "lastTold", "()I"⟩, 32) := ⟨⟨by decide +kernel, by decide +kernel⟩, List.mem_of_getElem? (i := 957) (by decide +kernel), List.mem_of_getElem? (i := 1121) (by decide +kernel), List.mem_of_getElem? (i := 1122) (by decide +kernel)⟩
theorem lw_p30 : lw_okq (⟨"NewsDraughtsModel", "readNewsOf", "()Z"⟩, 32) := ⟨⟨by decide +kernel, by decide +kernel⟩, List.mem_of_getElem? (i := 957) (by decide +kernel), List.mem_of_getElem? (i := 1125) (by decide +kernel), List.mem_of_getElem? (i := 1126) (by decide +kernel)⟩
theorem lw_p31 : lw_okq (⟨"NewsDraughtsModel", "readWindOf", "()Z"⟩, 32) := ⟨⟨by decide +kernel, by decide +kernel⟩, List.mem_of_getElem? (i := 957) (by decide +kernel), List.mem_of_getElem? (i := 1129) (by decide +kernel), List.mem_of_getElem? (i := 1130) (by decide +kernel)⟩
def lw_privs_2 : List (MethodName × Nat) := [(⟨"NewsDraughts$Sightings", "isSo", "(II)Z"⟩, 7), (⟨"NewsDraughts$Sightings", "allSoBy", "(I)Z"⟩, 7), (⟨"NewsDraughts$Chances", "openByDraw", "(I)V"⟩, 4), (⟨"NewsDraughtsModel", "clearTold", "()V"⟩, 32), (⟨"NewsDraughtsModel", "tellsHouse", "(III)V"⟩, 32), (⟨"NewsDraughtsModel", "tellsNews", "(III)V"⟩, 32), (⟨"NewsDraughtsModel", "settles", "()V"⟩, 32), (⟨"NewsDraughtsModel", "readItem", "()Z"⟩, 32), (⟨"NewsDraughtsModel", "letterAt", "(I)I"⟩, 32), (⟨"NewsDraughtsModel", "readGridOf", "()Z"⟩, 32), (⟨"NewsDraughtsModel", "readNumbers", "(I)Z"⟩, 32), (⟨"NewsDraughtsModel", "isTold", "(III)Z"⟩, 32), (⟨"NewsDraughtsModel", "readHouseOf", "()Z"⟩, 32), (⟨"NewsDraughtsModel", "lastTold", "()I"⟩, 32), (⟨"NewsDraughtsModel", "readNewsOf", "()Z"⟩, 32), (⟨"NewsDraughtsModel", "readWindOf", "()Z"⟩, 32)]
theorem lw_r2 : ∀ q ∈ lw_privs_2, lw_okq q := List.forall_mem_cons.mpr ⟨lw_p16, List.forall_mem_cons.mpr ⟨lw_p17, List.forall_mem_cons.mpr ⟨lw_p18, List.forall_mem_cons.mpr ⟨lw_p19, List.forall_mem_cons.mpr ⟨lw_p20, List.forall_mem_cons.mpr ⟨lw_p21, List.forall_mem_cons.mpr ⟨lw_p22, List.forall_mem_cons.mpr ⟨lw_p23, List.forall_mem_cons.mpr ⟨lw_p24, List.forall_mem_cons.mpr ⟨lw_p25, List.forall_mem_cons.mpr ⟨lw_p26, List.forall_mem_cons.mpr ⟨lw_p27, List.forall_mem_cons.mpr ⟨lw_p28, List.forall_mem_cons.mpr ⟨lw_p29, List.forall_mem_cons.mpr ⟨lw_p30, List.forall_mem_cons.mpr ⟨lw_p31, fun _ h => absurd h List.not_mem_nil⟩⟩⟩⟩⟩⟩⟩⟩⟩⟩⟩⟩⟩⟩⟩⟩
theorem lw_p32 : lw_okq (⟨"NewsDraughtsModel", "isHouse", "(I)Z"⟩, 32) := ⟨⟨by decide +kernel, by decide +kernel⟩, List.mem_of_getElem? (i := 957) (by decide +kernel), List.mem_of_getElem? (i := 1142) (by decide +kernel), List.mem_of_getElem? (i := 1143) (by decide +kernel)⟩
theorem lw_p33 : lw_okq (⟨"NewsDraughtsModel", "asItIs", "()V"⟩, 32) := ⟨⟨by decide +kernel, by decide +kernel⟩, List.mem_of_getElem? (i := 957) (by decide +kernel), List.mem_of_getElem? (i := 1146) (by decide +kernel), List.mem_of_getElem? (i := 1147) (by decide +kernel)⟩
theorem lw_p34 : lw_okq (⟨"NewsDraughtsModel", "known", "(I)I"⟩, 32) := ⟨⟨by decide +kernel, by decide +kernel⟩, List.mem_of_getElem? (i := 957) (by decide +kernel), List.mem_of_getElem? (i := 1150) (by decide +kernel), List.mem_of_getElem? (i := 1151) (by decide +kernel)⟩
theorem lw_p35 : lw_okq (⟨"NewsDraughtsModel", "isNews", "(I)Z"⟩, 32) := ⟨⟨by decide +kernel, by decide +kernel⟩, List.mem_of_getElem? (i := 957) (by decide +kernel), List.mem_of_getElem? (i := 1161) (by decide +kernel), List.mem_of_getElem? (i := 1162) (by decide +kernel)⟩
theorem lw_p36 : lw_okq (⟨"NewsDraughtsModel", "windOf", "(I)I"⟩, 32) := ⟨⟨by decide +kernel, by decide +kernel⟩, List.mem_of_getElem? (i := 957) (by decide +kernel), List.mem_of_getElem? (i := 1172) (by decide +kernel), List.mem_of_getElem? (i := 1173) (by decide +kernel)⟩
theorem lw_p37 : lw_okq (⟨"NewsDraughtsModel", "remembers", "()V"⟩, 32) := ⟨⟨by decide +kernel, by decide +kernel⟩, List.mem_of_getElem? (i := 957) (by decide +kernel), List.mem_of_getElem? (i := 1180) (by decide +kernel), List.mem_of_getElem? (i := 1181) (by decide +kernel)⟩
theorem lw_p38 : lw_okq (⟨"NewsDraughtsModel", "goes", "(I)V"⟩, 32) := ⟨⟨by decide +kernel, by decide +kernel⟩, List.mem_of_getElem? (i := 957) (by decide +kernel), List.mem_of_getElem? (i := 1184) (by decide +kernel), List.mem_of_getElem? (i := 1185) (by decide +kernel)⟩
theorem lw_p39 : lw_okq (⟨"NewsDraughtsModel", "goesBy", "(I)V"⟩, 32) := ⟨⟨by decide +kernel, by decide +kernel⟩, List.mem_of_getElem? (i := 957) (by decide +kernel), List.mem_of_getElem? (i := 1188) (by decide +kernel), List.mem_of_getElem? (i := 1189) (by decide +kernel)⟩
theorem lw_p40 : lw_okq (⟨"NewsDraughtsModel", "letsOut", "(II)Z"⟩, 32) := ⟨⟨by decide +kernel, by decide +kernel⟩, List.mem_of_getElem? (i := 957) (by decide +kernel), List.mem_of_getElem? (i := 1192) (by decide +kernel), List.mem_of_getElem? (i := 1193) (by decide +kernel)⟩
theorem lw_p41 : lw_okq (⟨"NewsDraughtsModel", "blowsFrom", "(IIII)V"⟩, 32) := ⟨⟨by decide +kernel, by decide +kernel⟩, List.mem_of_getElem? (i := 957) (by decide +kernel), List.mem_of_getElem? (i := 1196) (by decide +kernel), List.mem_of_getElem? (i := 1197) (by decide +kernel)⟩
theorem lw_p42 : lw_okq (⟨"NewsDraughtsModel", "beside", "(II)I"⟩, 32) := ⟨⟨by decide +kernel, by decide +kernel⟩, List.mem_of_getElem? (i := 957) (by decide +kernel), List.mem_of_getElem? (i := 1200) (by decide +kernel), List.mem_of_getElem? (i := 1201) (by decide +kernel)⟩
theorem lw_p43 : lw_okq (⟨"NewsDraughtsModel", "letsIn", "(III)Z"⟩, 32) := ⟨⟨by decide +kernel, by decide +kernel⟩, List.mem_of_getElem? (i := 957) (by decide +kernel), List.mem_of_getElem? (i := 1204) (by decide +kernel), List.mem_of_getElem? (i := 1205) (by decide +kernel)⟩
theorem lw_p44 : lw_okq (⟨"NewsDraughtsModel", "asItIsOf", "(I)V"⟩, 32) := ⟨⟨by decide +kernel, by decide +kernel⟩, List.mem_of_getElem? (i := 957) (by decide +kernel), List.mem_of_getElem? (i := 1228) (by decide +kernel), List.mem_of_getElem? (i := 1229) (by decide +kernel)⟩
theorem lw_p45 : lw_okq (⟨"NewsDraughtsModel", "knowsBehind", "(II)I"⟩, 32) := ⟨⟨by decide +kernel, by decide +kernel⟩, List.mem_of_getElem? (i := 957) (by decide +kernel), List.mem_of_getElem? (i := 1232) (by decide +kernel), List.mem_of_getElem? (i := 1233) (by decide +kernel)⟩
theorem lw_p46 : lw_okq (⟨"NewsDraughtsModel", "isCutBy", "(III)Z"⟩, 32) := ⟨⟨by decide +kernel, by decide +kernel⟩, List.mem_of_getElem? (i := 957) (by decide +kernel), List.mem_of_getElem? (i := 1244) (by decide +kernel), List.mem_of_getElem? (i := 1245) (by decide +kernel)⟩
theorem lw_p47 : lw_okq (⟨"NewsDraughtsModel", "findWay", "(IIIII)Z"⟩, 32) := ⟨⟨by decide +kernel, by decide +kernel⟩, List.mem_of_getElem? (i := 957) (by decide +kernel), List.mem_of_getElem? (i := 1252) (by decide +kernel), List.mem_of_getElem? (i := 1253) (by decide +kernel)⟩
def lw_privs_3 : List (MethodName × Nat) := [(⟨"NewsDraughtsModel", "isHouse", "(I)Z"⟩, 32), (⟨"NewsDraughtsModel", "asItIs", "()V"⟩, 32), (⟨"NewsDraughtsModel", "known", "(I)I"⟩, 32), (⟨"NewsDraughtsModel", "isNews", "(I)Z"⟩, 32), (⟨"NewsDraughtsModel", "windOf", "(I)I"⟩, 32), (⟨"NewsDraughtsModel", "remembers", "()V"⟩, 32), (⟨"NewsDraughtsModel", "goes", "(I)V"⟩, 32), (⟨"NewsDraughtsModel", "goesBy", "(I)V"⟩, 32), (⟨"NewsDraughtsModel", "letsOut", "(II)Z"⟩, 32), (⟨"NewsDraughtsModel", "blowsFrom", "(IIII)V"⟩, 32), (⟨"NewsDraughtsModel", "beside", "(II)I"⟩, 32), (⟨"NewsDraughtsModel", "letsIn", "(III)Z"⟩, 32), (⟨"NewsDraughtsModel", "asItIsOf", "(I)V"⟩, 32), (⟨"NewsDraughtsModel", "knowsBehind", "(II)I"⟩, 32), (⟨"NewsDraughtsModel", "isCutBy", "(III)Z"⟩, 32), (⟨"NewsDraughtsModel", "findWay", "(IIIII)Z"⟩, 32)]
theorem lw_r3 : ∀ q ∈ lw_privs_3, lw_okq q := List.forall_mem_cons.mpr ⟨lw_p32, List.forall_mem_cons.mpr ⟨lw_p33, List.forall_mem_cons.mpr ⟨lw_p34, List.forall_mem_cons.mpr ⟨lw_p35, List.forall_mem_cons.mpr ⟨lw_p36, List.forall_mem_cons.mpr ⟨lw_p37, List.forall_mem_cons.mpr ⟨lw_p38, List.forall_mem_cons.mpr ⟨lw_p39, List.forall_mem_cons.mpr ⟨lw_p40, List.forall_mem_cons.mpr ⟨lw_p41, List.forall_mem_cons.mpr ⟨lw_p42, List.forall_mem_cons.mpr ⟨lw_p43, List.forall_mem_cons.mpr ⟨lw_p44, List.forall_mem_cons.mpr ⟨lw_p45, List.forall_mem_cons.mpr ⟨lw_p46, List.forall_mem_cons.mpr ⟨lw_p47, fun _ h => absurd h List.not_mem_nil⟩⟩⟩⟩⟩⟩⟩⟩⟩⟩⟩⟩⟩⟩⟩⟩
theorem lw_p48 : lw_okq (⟨"NewsDraughtsModel", "isSoBy", "(IIII)Z"⟩, 32) := ⟨⟨by decide +kernel, by decide +kernel⟩, List.mem_of_getElem? (i := 957) (by decide +kernel), List.mem_of_getElem? (i := 1256) (by decide +kernel), List.mem_of_getElem? (i := 1257) (by decide +kernel)⟩
theorem lw_p49 : lw_okq (⟨"NewsDraughtsModel", "heavy", "(I)I"⟩, 32) := ⟨⟨by decide +kernel, by decide +kernel⟩, List.mem_of_getElem? (i := 957) (by decide +kernel), List.mem_of_getElem? (i := 1264) (by decide +kernel), List.mem_of_getElem? (i := 1265) (by decide +kernel)⟩
theorem lw_p50 : lw_okq (⟨"NewsDraughtsModel", "isWon", "(IIII)Z"⟩, 32) := ⟨⟨by decide +kernel, by decide +kernel⟩, List.mem_of_getElem? (i := 957) (by decide +kernel), List.mem_of_getElem? (i := 1272) (by decide +kernel), List.mem_of_getElem? (i := 1273) (by decide +kernel)⟩
theorem lw_p51 : lw_okq (⟨"NewsDraughtsModel", "knowsBy", "(IIIII)Z"⟩, 32) := ⟨⟨by decide +kernel, by decide +kernel⟩, List.mem_of_getElem? (i := 957) (by decide +kernel), List.mem_of_getElem? (i := 1276) (by decide +kernel), List.mem_of_getElem? (i := 1277) (by decide +kernel)⟩
theorem lw_p52 : lw_okq (⟨"NewsDraughtsModel", "isSoAll", "(II)Z"⟩, 32) := ⟨⟨by decide +kernel, by decide +kernel⟩, List.mem_of_getElem? (i := 957) (by decide +kernel), List.mem_of_getElem? (i := 1292) (by decide +kernel), List.mem_of_getElem? (i := 1293) (by decide +kernel)⟩
theorem lw_p53 : lw_okq (⟨"NewsDraughtsModel", "isSo", "(II)Z"⟩, 32) := ⟨⟨by decide +kernel, by decide +kernel⟩, List.mem_of_getElem? (i := 957) (by decide +kernel), List.mem_of_getElem? (i := 1296) (by decide +kernel), List.mem_of_getElem? (i := 1297) (by decide +kernel)⟩
theorem lw_p54 : lw_okq (⟨"NewsDraughtsModel", "allKnown", "()I"⟩, 32) := ⟨⟨by decide +kernel, by decide +kernel⟩, List.mem_of_getElem? (i := 957) (by decide +kernel), List.mem_of_getElem? (i := 1312) (by decide +kernel), List.mem_of_getElem? (i := 1313) (by decide +kernel)⟩
theorem lw_p55 : lw_okq (⟨"NewsDraughtsModel", "knowers", "()I"⟩, 32) := ⟨⟨by decide +kernel, by decide +kernel⟩, List.mem_of_getElem? (i := 957) (by decide +kernel), List.mem_of_getElem? (i := 1320) (by decide +kernel), List.mem_of_getElem? (i := 1321) (by decide +kernel)⟩
def lw_privs_4 : List (MethodName × Nat) := [(⟨"NewsDraughtsModel", "isSoBy", "(IIII)Z"⟩, 32), (⟨"NewsDraughtsModel", "heavy", "(I)I"⟩, 32), (⟨"NewsDraughtsModel", "isWon", "(IIII)Z"⟩, 32), (⟨"NewsDraughtsModel", "knowsBy", "(IIIII)Z"⟩, 32), (⟨"NewsDraughtsModel", "isSoAll", "(II)Z"⟩, 32), (⟨"NewsDraughtsModel", "isSo", "(II)Z"⟩, 32), (⟨"NewsDraughtsModel", "allKnown", "()I"⟩, 32), (⟨"NewsDraughtsModel", "knowers", "()I"⟩, 32)]
theorem lw_r4 : ∀ q ∈ lw_privs_4, lw_okq q := List.forall_mem_cons.mpr ⟨lw_p48, List.forall_mem_cons.mpr ⟨lw_p49, List.forall_mem_cons.mpr ⟨lw_p50, List.forall_mem_cons.mpr ⟨lw_p51, List.forall_mem_cons.mpr ⟨lw_p52, List.forall_mem_cons.mpr ⟨lw_p53, List.forall_mem_cons.mpr ⟨lw_p54, List.forall_mem_cons.mpr ⟨lw_p55, fun _ h => absurd h List.not_mem_nil⟩⟩⟩⟩⟩⟩⟩⟩
def lw_privs : List (MethodName × Nat) := lw_privs_1 ++ (lw_privs_2 ++ (lw_privs_3 ++ (lw_privs_4)))
def lw_tbl : List Cond := k2_sels lw_privs ++ tables_1
theorem lw_privs_ok : ∀ q ∈ lw_privs, lw_okq q := by
  show ∀ q ∈ lw_privs_1 ++ (lw_privs_2 ++ (lw_privs_3 ++ (lw_privs_4))), lw_okq q
  exact List.forall_mem_append.mpr ⟨lw_r1, List.forall_mem_append.mpr ⟨lw_r2, List.forall_mem_append.mpr ⟨lw_r3, lw_r4⟩⟩⟩
/-! ===== BEGIN words of one list among another's, by their places ===== -/
theorem goodIn_r {big : List Cond} (ws : List Cond) (ps : List Nat) (hp : ws = ps.filterMap (fun i => big[i]?)) (h : ws.all goodWord = true) : GoodIn big ws := by
  intro w hw
  have h1 := List.all_eq_true.mp h w hw
  rw [hp] at hw
  obtain ⟨i, -, hi⟩ := List.mem_filterMap.mp hw
  have hm : w ∈ big := by first | exact List.mem_of_getElem? hi | exact List.getElem?_mem hi
  exact ⟨hm, good_of_word h1⟩
theorem goodIn_app {big a b : List Cond} (ha : GoodIn big a) (hb : GoodIn big b) : GoodIn big (a ++ b) := fun w h => (List.mem_append.mp h).elim (ha w) (hb w)
theorem goodIn_ca {big a b : List Cond} {c : Cond} (ha : GoodIn big (c :: a)) (hb : GoodIn big b) : GoodIn big (c :: (a ++ b)) := fun w h => (List.mem_cons.mp h).elim (fun e => ha w (List.mem_cons.mpr (Or.inl e))) (fun h => (List.mem_append.mp h).elim (fun h => ha w (List.mem_cons.mpr (Or.inr h))) (hb w))
theorem goodIn_sub {big ws : List Cond} (hm : ∀ w ∈ ws, w ∈ big) (h : ws.all goodWord = true) : GoodIn big ws := fun w hw => ⟨hm w hw, good_of_word (List.all_eq_true.mp h w hw)⟩
/-! ===== END ===== -/

/-! ===== BEGIN printed: names, fields, word lists, decode rows ===== -/
def RX0 : String := "NewsDraughts$Chances"
def TX0 : u_T := fun k => match k with
  | 0 => ("NewsDraughts$Chances", "parish", "LNewsDraughts$Parish;", true)
  | 1 => ("NewsDraughts$Chances", "draught", "LNewsDraughts$Draught;", true)
  | 2 => ("NewsDraughts$Chances", "housesThatKnow", "I", false)
  | _ => ("NewsDraughts$Chances", "timesHeard", "I", false)
def tyX0 : Nat → FieldType := fun k => match k with
  | 0 => .object "NewsDraughts$Parish"
  | 1 => .object "NewsDraughts$Draught"
  | 2 => .int
  | _ => .int
abbrev wsX00 : List Cond := u_ws RX0 TX0 4
theorem nmX0 : ∀ a, a < 4 → ∀ b, b < 4 → a ≠ b → (TX0 a).2.1 ≠ (TX0 b).2.1 := by decide +kernel
theorem tyX0_ok : ∀ k, k < 4 → parseFieldDescriptor (TX0 k).2.2.1 = some (tyX0 k) := by decide +kernel
abbrev cX0_init : ByteArray := prog_2_method_1_code
def yX0_init : MethodName := ⟨RX0, "<init>", "(LNewsDraughts$Parish;LNewsDraughts$Draught;)V"⟩
abbrev cX0_gustsThatReach : ByteArray := prog_2_method_2_code
def yX0_gustsThatReach : MethodName := ⟨RX0, "gustsThatReach", "(III)I"⟩
abbrev cX0_inLowestTerms : ByteArray := prog_2_method_3_code
def yX0_inLowestTerms : MethodName := ⟨RX0, "inLowestTerms", "(III)I"⟩
abbrev cX0_waysOf : ByteArray := prog_2_method_4_code
def yX0_waysOf : MethodName := ⟨RX0, "waysOf", "(I)I"⟩
abbrev cX0_runYear : ByteArray := prog_2_method_5_code
def yX0_runYear : MethodName := ⟨RX0, "runYear", "(II)V"⟩
abbrev cX0_housesThatKnow : ByteArray := prog_2_method_6_code
def yX0_housesThatKnow : MethodName := ⟨RX0, "housesThatKnow", "()I"⟩
abbrev cX0_timesHeard : ByteArray := prog_2_method_7_code
def yX0_timesHeard : MethodName := ⟨RX0, "timesHeard", "()I"⟩
abbrev cX0_openByDraw : ByteArray := prog_2_method_8_code
def yX0_openByDraw : MethodName := ⟨RX0, "openByDraw", "(I)V"⟩
abbrev cX0_draw : ByteArray := prog_2_method_9_code
def yX0_draw : MethodName := ⟨RX0, "draw", "(II)I"⟩
def RX1 : String := "NewsDraughts$Draught"
def TX1 : u_T := fun k => match k with
  | 0 => ("NewsDraughts$Draught", "parish", "LNewsDraughts$Parish;", true)
  | 1 => ("NewsDraughts$Draught", "now", "LNewsDraughts$Standing;", true)
  | 2 => ("NewsDraughts$Draught", "sashes", "[I", true)
  | 3 => ("NewsDraughts$Draught", "needed", "[I", true)
  | 4 => ("NewsDraughts$Draught", "whoKnows", "I", false)
  | 5 => ("NewsDraughts$Draught", "gossips", "I", false)
  | 6 => ("NewsDraughts$Draught", "talkers", "I", false)
  | 7 => ("NewsDraughts$Draught", "openToGossips", "I", false)
  | 8 => ("NewsDraughts$Draught", "openToTalkers", "I", false)
  | 9 => ("NewsDraughts$Draught", "columns", "I", false)
  | 10 => ("NewsDraughts$Draught", "firstColumn", "I", false)
  | _ => ("NewsDraughts$Draught", "lastColumn", "I", false)
def tyX1 : Nat → FieldType := fun k => match k with
  | 0 => .object "NewsDraughts$Parish"
  | 1 => .object "NewsDraughts$Standing"
  | 2 => .array .int
  | 3 => .array .int
  | 4 => .int
  | 5 => .int
  | 6 => .int
  | 7 => .int
  | 8 => .int
  | 9 => .int
  | 10 => .int
  | _ => .int
abbrev wsX10 : List Cond := u_ws RX1 TX1 12
theorem nmX1 : ∀ a, a < 12 → ∀ b, b < 12 → a ≠ b → (TX1 a).2.1 ≠ (TX1 b).2.1 := by decide +kernel
theorem tyX1_ok : ∀ k, k < 12 → parseFieldDescriptor (TX1 k).2.2.1 = some (tyX1 k) := by decide +kernel
abbrev cX1_init : ByteArray := prog_3_method_1_code
def yX1_init : MethodName := ⟨RX1, "<init>", "(LNewsDraughts$Parish;LNewsDraughts$Standing;)V"⟩
abbrev cX1_pick : ByteArray := prog_3_method_2_code
def yX1_pick : MethodName := ⟨RX1, "pick", "(I)V"⟩
abbrev cX1_reopen : ByteArray := prog_3_method_3_code
def yX1_reopen : MethodName := ⟨RX1, "reopen", "(II)V"⟩
abbrev cX1_isAnother : ByteArray := prog_3_method_4_code
def yX1_isAnother : MethodName := ⟨RX1, "isAnother", "(II)Z"⟩
abbrev cX1_letsInFromTalkers : ByteArray := prog_3_method_5_code
def yX1_letsInFromTalkers : MethodName := ⟨RX1, "letsInFromTalkers", "(II)Z"⟩
abbrev cX1_letsInFromGossips : ByteArray := prog_3_method_6_code
def yX1_letsInFromGossips : MethodName := ⟨RX1, "letsInFromGossips", "(II)Z"⟩
abbrev cX1_stuff : ByteArray := prog_3_method_7_code
def yX1_stuff : MethodName := ⟨RX1, "stuff", "(I)V"⟩
abbrev cX1_sashOf : ByteArray := prog_3_method_8_code
def yX1_sashOf : MethodName := ⟨RX1, "sashOf", "(I)I"⟩
abbrev cX1_whoKnows : ByteArray := prog_3_method_9_code
def yX1_whoKnows : MethodName := ⟨RX1, "whoKnows", "()I"⟩
abbrev cX1_hears : ByteArray := prog_3_method_10_code
def yX1_hears : MethodName := ⟨RX1, "hears", "(II)Z"⟩
abbrev cX1_along : ByteArray := prog_3_method_11_code
def yX1_along : MethodName := ⟨RX1, "along", "(III)I"⟩
abbrev cX1_onward : ByteArray := prog_3_method_12_code
def yX1_onward : MethodName := ⟨RX1, "onward", "(II)I"⟩
def RX2 : String := "NewsDraughts$Openings"
def TX2 : u_T := fun k => match k with
  | 0 => ("NewsDraughts$Openings", "parish", "LNewsDraughts$Parish;", true)
  | 1 => ("NewsDraughts$Openings", "now", "LNewsDraughts$Standing;", true)
  | 2 => ("NewsDraughts$Openings", "draught", "LNewsDraughts$Draught;", true)
  | 3 => ("NewsDraughts$Openings", "steps", "I", false)
  | 4 => ("NewsDraughts$Openings", "shallKnow", "I", false)
  | 5 => ("NewsDraughts$Openings", "shallNot", "I", false)
  | 6 => ("NewsDraughts$Openings", "opened", "I", false)
  | 7 => ("NewsDraughts$Openings", "first", "I", false)
  | _ => ("NewsDraughts$Openings", "second", "I", false)
def tyX2 : Nat → FieldType := fun k => match k with
  | 0 => .object "NewsDraughts$Parish"
  | 1 => .object "NewsDraughts$Standing"
  | 2 => .object "NewsDraughts$Draught"
  | 3 => .int
  | 4 => .int
  | 5 => .int
  | 6 => .int
  | 7 => .int
  | _ => .int
abbrev wsX20 : List Cond := u_ws RX2 TX2 9
theorem nmX2 : ∀ a, a < 9 → ∀ b, b < 9 → a ≠ b → (TX2 a).2.1 ≠ (TX2 b).2.1 := by decide +kernel
theorem tyX2_ok : ∀ k, k < 9 → parseFieldDescriptor (TX2 k).2.2.1 = some (tyX2 k) := by decide +kernel
abbrev cX2_init : ByteArray := prog_4_method_1_code
def yX2_init : MethodName := ⟨RX2, "<init>", "(LNewsDraughts$Parish;LNewsDraughts$Standing;LNewsDraughts$Draught;)V"⟩
abbrev cX2_pose : ByteArray := prog_4_method_2_code
def yX2_pose : MethodName := ⟨RX2, "pose", "(IIII)V"⟩
abbrev cX2_answer : ByteArray := prog_4_method_3_code
def yX2_answer : MethodName := ⟨RX2, "answer", "(I)I"⟩
abbrev cX2_found : ByteArray := prog_4_method_4_code
def yX2_found : MethodName := ⟨RX2, "found", "(III)V"⟩
abbrev cX2_isSo : ByteArray := prog_4_method_5_code
def yX2_isSo : MethodName := ⟨RX2, "isSo", "(I)Z"⟩
abbrev cX2_isFoundByNone : ByteArray := prog_4_method_6_code
def yX2_isFoundByNone : MethodName := ⟨RX2, "isFoundByNone", "()Z"⟩
abbrev cX2_isFoundByOne : ByteArray := prog_4_method_7_code
def yX2_isFoundByOne : MethodName := ⟨RX2, "isFoundByOne", "()Z"⟩
abbrev cX2_findByTwo : ByteArray := prog_4_method_8_code
def yX2_findByTwo : MethodName := ⟨RX2, "findByTwo", "()V"⟩
abbrev cX2_isFoundWith : ByteArray := prog_4_method_9_code
def yX2_isFoundWith : MethodName := ⟨RX2, "isFoundWith", "(II)Z"⟩
abbrev cX2_fittingWidth : ByteArray := prog_4_method_10_code
def yX2_fittingWidth : MethodName := ⟨RX2, "fittingWidth", "(I)I"⟩
def RX3 : String := "NewsDraughts$Outlook"
def TX3 : u_T := fun k => match k with
  | 0 => ("NewsDraughts$Outlook", "parish", "LNewsDraughts$Parish;", true)
  | 1 => ("NewsDraughts$Outlook", "now", "LNewsDraughts$Standing;", true)
  | _ => ("NewsDraughts$Outlook", "draught", "LNewsDraughts$Draught;", true)
def tyX3 : Nat → FieldType := fun k => match k with
  | 0 => .object "NewsDraughts$Parish"
  | 1 => .object "NewsDraughts$Standing"
  | _ => .object "NewsDraughts$Draught"
abbrev wsX30 : List Cond := u_ws RX3 TX3 3
theorem nmX3 : ∀ a, a < 3 → ∀ b, b < 3 → a ≠ b → (TX3 a).2.1 ≠ (TX3 b).2.1 := by decide +kernel
theorem tyX3_ok : ∀ k, k < 3 → parseFieldDescriptor (TX3 k).2.2.1 = some (tyX3 k) := by decide +kernel
abbrev cX3_init : ByteArray := prog_5_method_1_code
def yX3_init : MethodName := ⟨RX3, "<init>", "(LNewsDraughts$Parish;LNewsDraughts$Standing;LNewsDraughts$Draught;)V"⟩
abbrev cX3_knownBehind : ByteArray := prog_5_method_2_code
def yX3_knownBehind : MethodName := ⟨RX3, "knownBehind", "(II)I"⟩
abbrev cX3_firstHeard : ByteArray := prog_5_method_3_code
def yX3_firstHeard : MethodName := ⟨RX3, "firstHeard", "(II)I"⟩
abbrev cX3_latestHouse : ByteArray := prog_5_method_4_code
def yX3_latestHouse : MethodName := ⟨RX3, "latestHouse", "(I)I"⟩
abbrev cX3_fewestStuffed : ByteArray := prog_5_method_5_code
def yX3_fewestStuffed : MethodName := ⟨RX3, "fewestStuffed", "(II)I"⟩
abbrev cX3_widestBorne : ByteArray := prog_5_method_6_code
def yX3_widestBorne : MethodName := ⟨RX3, "widestBorne", "(II)I"⟩
abbrev cX3_burden : ByteArray := prog_5_method_7_code
def yX3_burden : MethodName := ⟨RX3, "burden", "(II)I"⟩
abbrev cX3_bestToOpen : ByteArray := prog_5_method_8_code
def yX3_bestToOpen : MethodName := ⟨RX3, "bestToOpen", "(III)I"⟩
abbrev cX3_hearsInSpite : ByteArray := prog_5_method_9_code
def yX3_hearsInSpite : MethodName := ⟨RX3, "hearsInSpite", "(IIII)Z"⟩
def RX4 : String := "NewsDraughts$Parish"
def TX4 : u_T := fun k => match k with
  | 0 => ("NewsDraughts$Parish", "kinds", "[I", true)
  | 1 => ("NewsDraughts$Parish", "sashes", "[I", true)
  | 2 => ("NewsDraughts$Parish", "newsKinds", "[I", true)
  | 3 => ("NewsDraughts$Parish", "weights", "[I", true)
  | 4 => ("NewsDraughts$Parish", "beginnings", "[I", true)
  | 5 => ("NewsDraughts$Parish", "winds", "[I", true)
  | 6 => ("NewsDraughts$Parish", "rows", "I", false)
  | 7 => ("NewsDraughts$Parish", "columns", "I", false)
  | 8 => ("NewsDraughts$Parish", "firstColumn", "I", false)
  | 9 => ("NewsDraughts$Parish", "lastColumn", "I", false)
  | 10 => ("NewsDraughts$Parish", "newsTold", "I", false)
  | 11 => ("NewsDraughts$Parish", "windsTold", "I", false)
  | _ => ("NewsDraughts$Parish", "gridsAlone", "Z", false)
def tyX4 : Nat → FieldType := fun k => match k with
  | 0 => .array .int
  | 1 => .array .int
  | 2 => .array .int
  | 3 => .array .int
  | 4 => .array .int
  | 5 => .array .int
  | 6 => .int
  | 7 => .int
  | 8 => .int
  | 9 => .int
  | 10 => .int
  | 11 => .int
  | _ => .boolean
abbrev wsX40 : List Cond := u_ws RX4 TX4 13
theorem nmX4 : ∀ a, a < 13 → ∀ b, b < 13 → a ≠ b → (TX4 a).2.1 ≠ (TX4 b).2.1 := by decide +kernel
theorem tyX4_ok : ∀ k, k < 13 → parseFieldDescriptor (TX4 k).2.2.1 = some (tyX4 k) := by decide +kernel
abbrev cX4_init : ByteArray := prog_6_method_1_code
def yX4_init : MethodName := ⟨RX4, "<init>", "()V"⟩
abbrev cX4_clear : ByteArray := prog_6_method_2_code
def yX4_clear : MethodName := ⟨RX4, "clear", "()V"⟩
abbrev cX4_take : ByteArray := prog_6_method_3_code
def yX4_take : MethodName := ⟨RX4, "take", "(II[I)Z"⟩
abbrev cX4_takeGrid : ByteArray := prog_6_method_4_code
def yX4_takeGrid : MethodName := ⟨RX4, "takeGrid", "(II)Z"⟩
abbrev cX4_takeHouse : ByteArray := prog_6_method_5_code
def yX4_takeHouse : MethodName := ⟨RX4, "takeHouse", "(III)Z"⟩
abbrev cX4_takeNews : ByteArray := prog_6_method_6_code
def yX4_takeNews : MethodName := ⟨RX4, "takeNews", "(III)Z"⟩
abbrev cX4_takeWind : ByteArray := prog_6_method_7_code
def yX4_takeWind : MethodName := ⟨RX4, "takeWind", "(I)Z"⟩
abbrev cX4_rows : ByteArray := prog_6_method_8_code
def yX4_rows : MethodName := ⟨RX4, "rows", "()I"⟩
abbrev cX4_columns : ByteArray := prog_6_method_9_code
def yX4_columns : MethodName := ⟨RX4, "columns", "()I"⟩
abbrev cX4_firstColumn : ByteArray := prog_6_method_10_code
def yX4_firstColumn : MethodName := ⟨RX4, "firstColumn", "()I"⟩
abbrev cX4_lastColumn : ByteArray := prog_6_method_11_code
def yX4_lastColumn : MethodName := ⟨RX4, "lastColumn", "()I"⟩
abbrev cX4_houses : ByteArray := prog_6_method_12_code
def yX4_houses : MethodName := ⟨RX4, "houses", "()I"⟩
abbrev cX4_allHouses : ByteArray := prog_6_method_13_code
def yX4_allHouses : MethodName := ⟨RX4, "allHouses", "()I"⟩
abbrev cX4_hasHouse : ByteArray := prog_6_method_14_code
def yX4_hasHouse : MethodName := ⟨RX4, "hasHouse", "(I)Z"⟩
abbrev cX4_hasHouses : ByteArray := prog_6_method_15_code
def yX4_hasHouses : MethodName := ⟨RX4, "hasHouses", "(I)Z"⟩
abbrev cX4_kindOf : ByteArray := prog_6_method_16_code
def yX4_kindOf : MethodName := ⟨RX4, "kindOf", "(I)I"⟩
abbrev cX4_sashOf : ByteArray := prog_6_method_17_code
def yX4_sashOf : MethodName := ⟨RX4, "sashOf", "(I)I"⟩
abbrev cX4_newsTold : ByteArray := prog_6_method_18_code
def yX4_newsTold : MethodName := ⟨RX4, "newsTold", "()I"⟩
abbrev cX4_hasNews : ByteArray := prog_6_method_19_code
def yX4_hasNews : MethodName := ⟨RX4, "hasNews", "(I)Z"⟩
abbrev cX4_newsKindOf : ByteArray := prog_6_method_20_code
def yX4_newsKindOf : MethodName := ⟨RX4, "newsKindOf", "(I)I"⟩
abbrev cX4_weightOf : ByteArray := prog_6_method_21_code
def yX4_weightOf : MethodName := ⟨RX4, "weightOf", "(I)I"⟩
abbrev cX4_beginningOf : ByteArray := prog_6_method_22_code
def yX4_beginningOf : MethodName := ⟨RX4, "beginningOf", "(I)I"⟩
abbrev cX4_windsInTurn : ByteArray := prog_6_method_23_code
def yX4_windsInTurn : MethodName := ⟨RX4, "windsInTurn", "()I"⟩
abbrev cX4_windOf : ByteArray := prog_6_method_24_code
def yX4_windOf : MethodName := ⟨RX4, "windOf", "(I)I"⟩
def RX5 : String := "NewsDraughts$Pile"
def TX5 : u_T := fun k => match k with
  | 0 => ("NewsDraughts$Pile", "places", "[LNewsDraughts$Standing;", true)
  | 1 => ("NewsDraughts$Pile", "lowest", "I", false)
  | _ => ("NewsDraughts$Pile", "size", "I", false)
def tyX5 : Nat → FieldType := fun k => match k with
  | 0 => .array (.object "NewsDraughts$Standing")
  | 1 => .int
  | _ => .int
abbrev wsX50 : List Cond := u_ws RX5 TX5 3
theorem nmX5 : ∀ a, a < 3 → ∀ b, b < 3 → a ≠ b → (TX5 a).2.1 ≠ (TX5 b).2.1 := by decide +kernel
theorem tyX5_ok : ∀ k, k < 3 → parseFieldDescriptor (TX5 k).2.2.1 = some (tyX5 k) := by decide +kernel
abbrev cX5_init : ByteArray := prog_7_method_1_code
def yX5_init : MethodName := ⟨RX5, "<init>", "(I)V"⟩
abbrev cX5_push : ByteArray := prog_7_method_2_code
def yX5_push : MethodName := ⟨RX5, "push", "(LNewsDraughts$Standing;)V"⟩
abbrev cX5_popInto : ByteArray := prog_7_method_3_code
def yX5_popInto : MethodName := ⟨RX5, "popInto", "(LNewsDraughts$Standing;)Z"⟩
abbrev cX5_clear : ByteArray := prog_7_method_4_code
def yX5_clear : MethodName := ⟨RX5, "clear", "()V"⟩
abbrev cX5_size : ByteArray := prog_7_method_5_code
def yX5_size : MethodName := ⟨RX5, "size", "()I"⟩
abbrev cX5_isFull : ByteArray := prog_7_method_6_code
def yX5_isFull : MethodName := ⟨RX5, "isFull", "()Z"⟩
abbrev cX5_placeOf : ByteArray := prog_7_method_7_code
def yX5_placeOf : MethodName := ⟨RX5, "placeOf", "(I)LNewsDraughts$Standing;"⟩
def RX6 : String := "NewsDraughts$Reader"
def TX6 : u_T := fun k => match k with
  | 0 => ("NewsDraughts$Reader", "sheet", "LNewsDraughts$Sheet;", true)
  | 1 => ("NewsDraughts$Reader", "numbers", "[I", true)
  | _ => ("NewsDraughts$Reader", "place", "I", false)
def tyX6 : Nat → FieldType := fun k => match k with
  | 0 => .object "NewsDraughts$Sheet"
  | 1 => .array .int
  | _ => .int
abbrev wsX60 : List Cond := u_ws RX6 TX6 3
theorem nmX6 : ∀ a, a < 3 → ∀ b, b < 3 → a ≠ b → (TX6 a).2.1 ≠ (TX6 b).2.1 := by decide +kernel
theorem tyX6_ok : ∀ k, k < 3 → parseFieldDescriptor (TX6 k).2.2.1 = some (tyX6 k) := by decide +kernel
abbrev cX6_init : ByteArray := prog_8_method_1_code
def yX6_init : MethodName := ⟨RX6, "<init>", "(LNewsDraughts$Sheet;)V"⟩
abbrev cX6_readInto : ByteArray := prog_8_method_2_code
def yX6_readInto : MethodName := ⟨RX6, "readInto", "(LNewsDraughts$Parish;)I"⟩
abbrev cX6_readNumbers : ByteArray := prog_8_method_3_code
def yX6_readNumbers : MethodName := ⟨RX6, "readNumbers", "()I"⟩
abbrev cX6_readNumber : ByteArray := prog_8_method_4_code
def yX6_readNumber : MethodName := ⟨RX6, "readNumber", "()I"⟩
abbrev cX6_isFigure : ByteArray := prog_8_method_5_code
def yX6_isFigure : MethodName := ⟨RX6, "isFigure", "(I)Z"⟩
def RX7 : String := "NewsDraughts$Sheet"
def TX7 : u_T := fun k => match k with
  | 0 => ("NewsDraughts$Sheet", "letters", "[I", true)
  | _ => ("NewsDraughts$Sheet", "length", "I", false)
def tyX7 : Nat → FieldType := fun k => match k with
  | 0 => .array .int
  | _ => .int
abbrev wsX70 : List Cond := u_ws RX7 TX7 2
theorem nmX7 : ∀ a, a < 2 → ∀ b, b < 2 → a ≠ b → (TX7 a).2.1 ≠ (TX7 b).2.1 := by decide +kernel
theorem tyX7_ok : ∀ k, k < 2 → parseFieldDescriptor (TX7 k).2.2.1 = some (tyX7 k) := by decide +kernel
abbrev cX7_init : ByteArray := prog_9_method_1_code
def yX7_init : MethodName := ⟨RX7, "<init>", "()V"⟩
abbrev cX7_add : ByteArray := prog_9_method_2_code
def yX7_add : MethodName := ⟨RX7, "add", "(I)Z"⟩
abbrev cX7_clear : ByteArray := prog_9_method_3_code
def yX7_clear : MethodName := ⟨RX7, "clear", "()V"⟩
abbrev cX7_length : ByteArray := prog_9_method_4_code
def yX7_length : MethodName := ⟨RX7, "length", "()I"⟩
abbrev cX7_letterAt : ByteArray := prog_9_method_5_code
def yX7_letterAt : MethodName := ⟨RX7, "letterAt", "(I)I"⟩
def RX8 : String := "NewsDraughts$Sightings"
def TX8 : u_T := fun k => match k with
  | 0 => ("NewsDraughts$Sightings", "parish", "LNewsDraughts$Parish;", true)
  | 1 => ("NewsDraughts$Sightings", "draught", "LNewsDraughts$Draught;", true)
  | 2 => ("NewsDraughts$Sightings", "houses", "[I", true)
  | 3 => ("NewsDraughts$Sightings", "news", "[I", true)
  | 4 => ("NewsDraughts$Sightings", "times", "[I", true)
  | 5 => ("NewsDraughts$Sightings", "knows", "[I", true)
  | _ => ("NewsDraughts$Sightings", "size", "I", false)
def tyX8 : Nat → FieldType := fun k => match k with
  | 0 => .object "NewsDraughts$Parish"
  | 1 => .object "NewsDraughts$Draught"
  | 2 => .array .int
  | 3 => .array .int
  | 4 => .array .int
  | 5 => .array .int
  | _ => .int
abbrev wsX80 : List Cond := u_ws RX8 TX8 7
theorem nmX8 : ∀ a, a < 7 → ∀ b, b < 7 → a ≠ b → (TX8 a).2.1 ≠ (TX8 b).2.1 := by decide +kernel
theorem tyX8_ok : ∀ k, k < 7 → parseFieldDescriptor (TX8 k).2.2.1 = some (tyX8 k) := by decide +kernel
abbrev cX8_init : ByteArray := prog_10_method_1_code
def yX8_init : MethodName := ⟨RX8, "<init>", "(LNewsDraughts$Parish;LNewsDraughts$Draught;)V"⟩
abbrev cX8_add : ByteArray := prog_10_method_2_code
def yX8_add : MethodName := ⟨RX8, "add", "(IIIZ)Z"⟩
abbrev cX8_clear : ByteArray := prog_10_method_3_code
def yX8_clear : MethodName := ⟨RX8, "clear", "()V"⟩
abbrev cX8_size : ByteArray := prog_10_method_4_code
def yX8_size : MethodName := ⟨RX8, "size", "()I"⟩
abbrev cX8_beginnings : ByteArray := prog_10_method_5_code
def yX8_beginnings : MethodName := ⟨RX8, "beginnings", "(I)I"⟩
abbrev cX8_allSoFrom : ByteArray := prog_10_method_6_code
def yX8_allSoFrom : MethodName := ⟨RX8, "allSoFrom", "(II)Z"⟩
abbrev cX8_nextWinds : ByteArray := prog_10_method_7_code
def yX8_nextWinds : MethodName := ⟨RX8, "nextWinds", "()I"⟩
abbrev cX8_allSoBy : ByteArray := prog_10_method_8_code
def yX8_allSoBy : MethodName := ⟨RX8, "allSoBy", "(I)Z"⟩
abbrev cX8_isSo : ByteArray := prog_10_method_9_code
def yX8_isSo : MethodName := ⟨RX8, "isSo", "(II)Z"⟩
def RX9 : String := "NewsDraughts$Standing"
def TX9 : u_T := fun k => match k with
  | 0 => ("NewsDraughts$Standing", "sashes", "[I", true)
  | 1 => ("NewsDraughts$Standing", "whoKnows", "[I", true)
  | _ => ("NewsDraughts$Standing", "stepsGone", "I", false)
def tyX9 : Nat → FieldType := fun k => match k with
  | 0 => .array .int
  | 1 => .array .int
  | _ => .int
abbrev wsX90 : List Cond := u_ws RX9 TX9 3
theorem nmX9 : ∀ a, a < 3 → ∀ b, b < 3 → a ≠ b → (TX9 a).2.1 ≠ (TX9 b).2.1 := by decide +kernel
theorem tyX9_ok : ∀ k, k < 3 → parseFieldDescriptor (TX9 k).2.2.1 = some (tyX9 k) := by decide +kernel
abbrev cX9_init : ByteArray := prog_11_method_1_code
def yX9_init : MethodName := ⟨RX9, "<init>", "()V"⟩
abbrev cX9_begin : ByteArray := prog_11_method_2_code
def yX9_begin : MethodName := ⟨RX9, "begin", "(LNewsDraughts$Parish;)V"⟩
abbrev cX9_copyOf : ByteArray := prog_11_method_3_code
def yX9_copyOf : MethodName := ⟨RX9, "copyOf", "(LNewsDraughts$Standing;)V"⟩
abbrev cX9_sashOf : ByteArray := prog_11_method_4_code
def yX9_sashOf : MethodName := ⟨RX9, "sashOf", "(I)I"⟩
abbrev cX9_setSash : ByteArray := prog_11_method_5_code
def yX9_setSash : MethodName := ⟨RX9, "setSash", "(II)V"⟩
abbrev cX9_whoKnows : ByteArray := prog_11_method_6_code
def yX9_whoKnows : MethodName := ⟨RX9, "whoKnows", "(I)I"⟩
abbrev cX9_setWhoKnows : ByteArray := prog_11_method_7_code
def yX9_setWhoKnows : MethodName := ⟨RX9, "setWhoKnows", "(II)V"⟩
abbrev cX9_whoKnowsAny : ByteArray := prog_11_method_8_code
def yX9_whoKnowsAny : MethodName := ⟨RX9, "whoKnowsAny", "()I"⟩
abbrev cX9_knownIn : ByteArray := prog_11_method_9_code
def yX9_knownIn : MethodName := ⟨RX9, "knownIn", "(I)I"⟩
abbrev cX9_stepsGone : ByteArray := prog_11_method_10_code
def yX9_stepsGone : MethodName := ⟨RX9, "stepsGone", "()I"⟩
abbrev cX9_goOn : ByteArray := prog_11_method_11_code
def yX9_goOn : MethodName := ⟨RX9, "goOn", "(I)V"⟩
def RX10 : String := "NewsDraughts"
def TX10 : u_T := fun k => match k with
  | 0 => ("NewsDraughts", "sheet", "LNewsDraughts$Sheet;", true)
  | 1 => ("NewsDraughts", "reader", "LNewsDraughts$Reader;", true)
  | 2 => ("NewsDraughts", "draft", "LNewsDraughts$Parish;", true)
  | 3 => ("NewsDraughts", "parish", "LNewsDraughts$Parish;", true)
  | 4 => ("NewsDraughts", "now", "LNewsDraughts$Standing;", true)
  | 5 => ("NewsDraughts", "undone", "LNewsDraughts$Pile;", true)
  | 6 => ("NewsDraughts", "kept", "LNewsDraughts$Pile;", true)
  | 7 => ("NewsDraughts", "draught", "LNewsDraughts$Draught;", true)
  | 8 => ("NewsDraughts", "outlook", "LNewsDraughts$Outlook;", true)
  | 9 => ("NewsDraughts", "ways", "LNewsDraughts$Openings;", true)
  | 10 => ("NewsDraughts", "chances", "LNewsDraughts$Chances;", true)
  | _ => ("NewsDraughts", "sightings", "LNewsDraughts$Sightings;", true)
def tyX10 : Nat → FieldType := fun k => match k with
  | 0 => .object "NewsDraughts$Sheet"
  | 1 => .object "NewsDraughts$Reader"
  | 2 => .object "NewsDraughts$Parish"
  | 3 => .object "NewsDraughts$Parish"
  | 4 => .object "NewsDraughts$Standing"
  | 5 => .object "NewsDraughts$Pile"
  | 6 => .object "NewsDraughts$Pile"
  | 7 => .object "NewsDraughts$Draught"
  | 8 => .object "NewsDraughts$Outlook"
  | 9 => .object "NewsDraughts$Openings"
  | 10 => .object "NewsDraughts$Chances"
  | _ => .object "NewsDraughts$Sightings"
abbrev wsX100 : List Cond := u_ws RX10 TX10 12
theorem nmX10 : ∀ a, a < 12 → ∀ b, b < 12 → a ≠ b → (TX10 a).2.1 ≠ (TX10 b).2.1 := by decide +kernel
theorem tyX10_ok : ∀ k, k < 12 → parseFieldDescriptor (TX10 k).2.2.1 = some (tyX10 k) := by decide +kernel
abbrev cX10_init : ByteArray := prog_1_method_1_code
def yX10_init : MethodName := ⟨RX10, "<init>", "()V"⟩
abbrev cX10_write : ByteArray := prog_1_method_2_code
def yX10_write : MethodName := ⟨RX10, "write", "(I)I"⟩
abbrev cX10_wipe : ByteArray := prog_1_method_3_code
def yX10_wipe : MethodName := ⟨RX10, "wipe", "()I"⟩
abbrev cX10_fault : ByteArray := prog_1_method_4_code
def yX10_fault : MethodName := ⟨RX10, "fault", "()I"⟩
abbrev cX10_lay : ByteArray := prog_1_method_5_code
def yX10_lay : MethodName := ⟨RX10, "lay", "()I"⟩
abbrev cX10_house : ByteArray := prog_1_method_6_code
def yX10_house : MethodName := ⟨RX10, "house", "(II)I"⟩
abbrev cX10_news : ByteArray := prog_1_method_7_code
def yX10_news : MethodName := ⟨RX10, "news", "(II)I"⟩
abbrev cX10_wind : ByteArray := prog_1_method_8_code
def yX10_wind : MethodName := ⟨RX10, "wind", "(I)I"⟩
abbrev cX10_step : ByteArray := prog_1_method_9_code
def yX10_step : MethodName := ⟨RX10, "step", "(I)I"⟩
abbrev cX10_open : ByteArray := prog_1_method_10_code
def yX10_open : MethodName := ⟨RX10, "open", "(II)I"⟩
abbrev cX10_tell : ByteArray := prog_1_method_11_code
def yX10_tell : MethodName := ⟨RX10, "tell", "(II)I"⟩
abbrev cX10_undo : ByteArray := prog_1_method_12_code
def yX10_undo : MethodName := ⟨RX10, "undo", "()I"⟩
abbrev cX10_behind : ByteArray := prog_1_method_13_code
def yX10_behind : MethodName := ⟨RX10, "behind", "(II)I"⟩
abbrev cX10_when : ByteArray := prog_1_method_14_code
def yX10_when : MethodName := ⟨RX10, "when", "(II)I"⟩
abbrev cX10_last : ByteArray := prog_1_method_15_code
def yX10_last : MethodName := ⟨RX10, "last", "(II)I"⟩
abbrev cX10_cut : ByteArray := prog_1_method_16_code
def yX10_cut : MethodName := ⟨RX10, "cut", "(III)I"⟩
abbrev cX10_openings : ByteArray := prog_1_method_17_code
def yX10_openings : MethodName := ⟨RX10, "openings", "(IIIII)I"⟩
abbrev cX10_bears : ByteArray := prog_1_method_18_code
def yX10_bears : MethodName := ⟨RX10, "bears", "(II)I"⟩
abbrev cX10_quarrel : ByteArray := prog_1_method_19_code
def yX10_quarrel : MethodName := ⟨RX10, "quarrel", "(IIII)I"⟩
abbrev cX10_see : ByteArray := prog_1_method_20_code
def yX10_see : MethodName := ⟨RX10, "see", "(IIIZ)I"⟩
abbrev cX10_forget : ByteArray := prog_1_method_21_code
def yX10_forget : MethodName := ⟨RX10, "forget", "()I"⟩
abbrev cX10_began : ByteArray := prog_1_method_22_code
def yX10_began : MethodName := ⟨RX10, "began", "(I)I"⟩
abbrev cX10_blew : ByteArray := prog_1_method_23_code
def yX10_blew : MethodName := ⟨RX10, "blew", "()I"⟩
abbrev cX10_gusts : ByteArray := prog_1_method_24_code
def yX10_gusts : MethodName := ⟨RX10, "gusts", "(IIII)I"⟩
abbrev cX10_year : ByteArray := prog_1_method_25_code
def yX10_year : MethodName := ⟨RX10, "year", "(III)I"⟩
abbrev cX10_keep : ByteArray := prog_1_method_26_code
def yX10_keep : MethodName := ⟨RX10, "keep", "()I"⟩
abbrev cX10_back : ByteArray := prog_1_method_27_code
def yX10_back : MethodName := ⟨RX10, "back", "()I"⟩
abbrev cX10_count : ByteArray := prog_1_method_28_code
def yX10_count : MethodName := ⟨RX10, "count", "(I)I"⟩
abbrev cX10_layText : ByteArray := prog_1_method_29_code
def yX10_layText : MethodName := ⟨RX10, "layText", "()Z"⟩
abbrev cX10_within : ByteArray := prog_1_method_30_code
def yX10_within : MethodName := ⟨RX10, "within", "(III)Z"⟩
abbrev cX10_isWidth : ByteArray := prog_1_method_31_code
def yX10_isWidth : MethodName := ⟨RX10, "isWidth", "(I)Z"⟩
abbrev cX10_bit : ByteArray := prog_1_method_32_code
def yX10_bit : MethodName := ⟨RX10, "bit", "(I)I"⟩
abbrev cX10_holds : ByteArray := prog_1_method_33_code
def yX10_holds : MethodName := ⟨RX10, "holds", "(II)Z"⟩
abbrev cX10_at : ByteArray := prog_1_method_34_code
def yX10_at : MethodName := ⟨RX10, "at", "([II)I"⟩
abbrev cX10_put : ByteArray := prog_1_method_35_code
def yX10_put : MethodName := ⟨RX10, "put", "([III)V"⟩
abbrev cX10_fill : ByteArray := prog_1_method_36_code
def yX10_fill : MethodName := ⟨RX10, "fill", "([II)V"⟩
abbrev cX10_copy : ByteArray := prog_1_method_37_code
def yX10_copy : MethodName := ⟨RX10, "copy", "([I[I)V"⟩
def RX11 : String := "NewsDraughtsModel"
def TX11 : u_T := fun k => match k with
  | 0 => ("NewsDraughtsModel", "rows", "I", false)
  | 1 => ("NewsDraughtsModel", "columns", "I", false)
  | 2 => ("NewsDraughtsModel", "houses", "I", false)
  | 3 => ("NewsDraughtsModel", "kinds", "[I", true)
  | 4 => ("NewsDraughtsModel", "newsMany", "I", false)
  | 5 => ("NewsDraughtsModel", "news", "[I", true)
  | 6 => ("NewsDraughtsModel", "windMany", "I", false)
  | 7 => ("NewsDraughtsModel", "winds", "[I", true)
  | 8 => ("NewsDraughtsModel", "st", "[I", true)
  | 9 => ("NewsDraughtsModel", "acts", "I", false)
  | 10 => ("NewsDraughtsModel", "was", "[I", true)
  | 11 => ("NewsDraughtsModel", "keeps", "I", false)
  | 12 => ("NewsDraughtsModel", "kept", "[I", true)
  | 13 => ("NewsDraughtsModel", "sees", "I", false)
  | 14 => ("NewsDraughtsModel", "seen", "[I", true)
  | 15 => ("NewsDraughtsModel", "text", "[I", true)
  | 16 => ("NewsDraughtsModel", "texted", "I", false)
  | 17 => ("NewsDraughtsModel", "at", "I", false)
  | 18 => ("NewsDraughtsModel", "told", "[I", true)
  | 19 => ("NewsDraughtsModel", "isBegun", "Z", false)
  | 20 => ("NewsDraughtsModel", "readRows", "I", false)
  | 21 => ("NewsDraughtsModel", "readColumns", "I", false)
  | 22 => ("NewsDraughtsModel", "readKind", "[I", true)
  | 23 => ("NewsDraughtsModel", "readOpen", "[I", true)
  | 24 => ("NewsDraughtsModel", "readNewsMany", "I", false)
  | 25 => ("NewsDraughtsModel", "readNews", "[I", true)
  | 26 => ("NewsDraughtsModel", "readWinds", "I", false)
  | 27 => ("NewsDraughtsModel", "readWind", "[I", true)
  | 28 => ("NewsDraughtsModel", "now", "[I", true)
  | 29 => ("NewsDraughtsModel", "only", "I", false)
  | 30 => ("NewsDraughtsModel", "one", "I", false)
  | _ => ("NewsDraughtsModel", "other", "I", false)
def tyX11 : Nat → FieldType := fun k => match k with
  | 0 => .int
  | 1 => .int
  | 2 => .int
  | 3 => .array .int
  | 4 => .int
  | 5 => .array .int
  | 6 => .int
  | 7 => .array .int
  | 8 => .array .int
  | 9 => .int
  | 10 => .array .int
  | 11 => .int
  | 12 => .array .int
  | 13 => .int
  | 14 => .array .int
  | 15 => .array .int
  | 16 => .int
  | 17 => .int
  | 18 => .array .int
  | 19 => .boolean
  | 20 => .int
  | 21 => .int
  | 22 => .array .int
  | 23 => .array .int
  | 24 => .int
  | 25 => .array .int
  | 26 => .int
  | 27 => .array .int
  | 28 => .array .int
  | 29 => .int
  | 30 => .int
  | _ => .int
abbrev wsX110 : List Cond := u_ws RX11 TX11 32
theorem nmX11 : ∀ a, a < 32 → ∀ b, b < 32 → a ≠ b → (TX11 a).2.1 ≠ (TX11 b).2.1 := by decide +kernel
theorem tyX11_ok : ∀ k, k < 32 → parseFieldDescriptor (TX11 k).2.2.1 = some (tyX11 k) := by decide +kernel
abbrev cX11_init : ByteArray := prog_13_method_1_code
def yX11_init : MethodName := ⟨RX11, "<init>", "()V"⟩
abbrev cX11_tellsHouse : ByteArray := prog_13_method_3_code
def yX11_tellsHouse : MethodName := ⟨RX11, "tellsHouse", "(III)V"⟩
abbrev cX11_tellsNews : ByteArray := prog_13_method_4_code
def yX11_tellsNews : MethodName := ⟨RX11, "tellsNews", "(III)V"⟩
abbrev cX11_in : ByteArray := prog_13_method_5_code
def yX11_in : MethodName := ⟨RX11, "in", "(III)Z"⟩
abbrev cX11_has : ByteArray := prog_13_method_6_code
def yX11_has : MethodName := ⟨RX11, "has", "(II)Z"⟩
abbrev cX11_bits : ByteArray := prog_13_method_7_code
def yX11_bits : MethodName := ⟨RX11, "bits", "(I)I"⟩
abbrev cX11_isHouse : ByteArray := prog_13_method_8_code
def yX11_isHouse : MethodName := ⟨RX11, "isHouse", "(I)Z"⟩
abbrev cX11_isNews : ByteArray := prog_13_method_9_code
def yX11_isNews : MethodName := ⟨RX11, "isNews", "(I)Z"⟩
abbrev cX11_write : ByteArray := prog_13_method_10_code
def yX11_write : MethodName := ⟨RX11, "write", "(I)I"⟩
abbrev cX11_wipe : ByteArray := prog_13_method_11_code
def yX11_wipe : MethodName := ⟨RX11, "wipe", "()I"⟩
abbrev cX11_letterAt : ByteArray := prog_13_method_12_code
def yX11_letterAt : MethodName := ⟨RX11, "letterAt", "(I)I"⟩
abbrev cX11_isFigure : ByteArray := prog_13_method_13_code
def yX11_isFigure : MethodName := ⟨RX11, "isFigure", "(I)Z"⟩
abbrev cX11_readNumbers : ByteArray := prog_13_method_14_code
def yX11_readNumbers : MethodName := ⟨RX11, "readNumbers", "(I)Z"⟩
abbrev cX11_isTold : ByteArray := prog_13_method_15_code
def yX11_isTold : MethodName := ⟨RX11, "isTold", "(III)Z"⟩
abbrev cX11_clearTold : ByteArray := prog_13_method_16_code
def yX11_clearTold : MethodName := ⟨RX11, "clearTold", "()V"⟩
abbrev cX11_lastTold : ByteArray := prog_13_method_17_code
def yX11_lastTold : MethodName := ⟨RX11, "lastTold", "()I"⟩
abbrev cX11_readGridOf : ByteArray := prog_13_method_18_code
def yX11_readGridOf : MethodName := ⟨RX11, "readGridOf", "()Z"⟩
abbrev cX11_readHouseOf : ByteArray := prog_13_method_19_code
def yX11_readHouseOf : MethodName := ⟨RX11, "readHouseOf", "()Z"⟩
abbrev cX11_readNewsOf : ByteArray := prog_13_method_20_code
def yX11_readNewsOf : MethodName := ⟨RX11, "readNewsOf", "()Z"⟩
abbrev cX11_readWindOf : ByteArray := prog_13_method_21_code
def yX11_readWindOf : MethodName := ⟨RX11, "readWindOf", "()Z"⟩
abbrev cX11_readItem : ByteArray := prog_13_method_22_code
def yX11_readItem : MethodName := ⟨RX11, "readItem", "()Z"⟩
abbrev cX11_fault : ByteArray := prog_13_method_23_code
def yX11_fault : MethodName := ⟨RX11, "fault", "()I"⟩
abbrev cX11_lay : ByteArray := prog_13_method_24_code
def yX11_lay : MethodName := ⟨RX11, "lay", "()I"⟩
abbrev cX11_copies : ByteArray := prog_13_method_25_code
def yX11_copies : MethodName := ⟨RX11, "copies", "([II[III)V"⟩
abbrev cX11_settles : ByteArray := prog_13_method_26_code
def yX11_settles : MethodName := ⟨RX11, "settles", "()V"⟩
abbrev cX11_asItIs : ByteArray := prog_13_method_27_code
def yX11_asItIs : MethodName := ⟨RX11, "asItIs", "()V"⟩
abbrev cX11_asItIsOf : ByteArray := prog_13_method_28_code
def yX11_asItIsOf : MethodName := ⟨RX11, "asItIsOf", "(I)V"⟩
abbrev cX11_windOf : ByteArray := prog_13_method_29_code
def yX11_windOf : MethodName := ⟨RX11, "windOf", "(I)I"⟩
abbrev cX11_beside : ByteArray := prog_13_method_30_code
def yX11_beside : MethodName := ⟨RX11, "beside", "(II)I"⟩
abbrev cX11_letsOut : ByteArray := prog_13_method_31_code
def yX11_letsOut : MethodName := ⟨RX11, "letsOut", "(II)Z"⟩
abbrev cX11_letsIn : ByteArray := prog_13_method_32_code
def yX11_letsIn : MethodName := ⟨RX11, "letsIn", "(III)Z"⟩
abbrev cX11_blowsFrom : ByteArray := prog_13_method_33_code
def yX11_blowsFrom : MethodName := ⟨RX11, "blowsFrom", "(IIII)V"⟩
abbrev cX11_goesBy : ByteArray := prog_13_method_34_code
def yX11_goesBy : MethodName := ⟨RX11, "goesBy", "(I)V"⟩
abbrev cX11_goes : ByteArray := prog_13_method_35_code
def yX11_goes : MethodName := ⟨RX11, "goes", "(I)V"⟩
abbrev cX11_known : ByteArray := prog_13_method_36_code
def yX11_known : MethodName := ⟨RX11, "known", "(I)I"⟩
abbrev cX11_house : ByteArray := prog_13_method_37_code
def yX11_house : MethodName := ⟨RX11, "house", "(II)I"⟩
abbrev cX11_news : ByteArray := prog_13_method_38_code
def yX11_news : MethodName := ⟨RX11, "news", "(II)I"⟩
abbrev cX11_wind : ByteArray := prog_13_method_39_code
def yX11_wind : MethodName := ⟨RX11, "wind", "(I)I"⟩
abbrev cX11_remembers : ByteArray := prog_13_method_40_code
def yX11_remembers : MethodName := ⟨RX11, "remembers", "()V"⟩
abbrev cX11_step : ByteArray := prog_13_method_41_code
def yX11_step : MethodName := ⟨RX11, "step", "(I)I"⟩
abbrev cX11_open : ByteArray := prog_13_method_42_code
def yX11_open : MethodName := ⟨RX11, "open", "(II)I"⟩
abbrev cX11_tell : ByteArray := prog_13_method_43_code
def yX11_tell : MethodName := ⟨RX11, "tell", "(II)I"⟩
abbrev cX11_undo : ByteArray := prog_13_method_44_code
def yX11_undo : MethodName := ⟨RX11, "undo", "()I"⟩
abbrev cX11_behind : ByteArray := prog_13_method_45_code
def yX11_behind : MethodName := ⟨RX11, "behind", "(II)I"⟩
abbrev cX11_knowsBehind : ByteArray := prog_13_method_46_code
def yX11_knowsBehind : MethodName := ⟨RX11, "knowsBehind", "(II)I"⟩
abbrev cX11_when : ByteArray := prog_13_method_47_code
def yX11_when : MethodName := ⟨RX11, "when", "(II)I"⟩
abbrev cX11_last : ByteArray := prog_13_method_48_code
def yX11_last : MethodName := ⟨RX11, "last", "(II)I"⟩
abbrev cX11_isCutBy : ByteArray := prog_13_method_49_code
def yX11_isCutBy : MethodName := ⟨RX11, "isCutBy", "(III)Z"⟩
abbrev cX11_cut : ByteArray := prog_13_method_50_code
def yX11_cut : MethodName := ⟨RX11, "cut", "(III)I"⟩
abbrev cX11_isSoBy : ByteArray := prog_13_method_51_code
def yX11_isSoBy : MethodName := ⟨RX11, "isSoBy", "(IIII)Z"⟩
abbrev cX11_findWay : ByteArray := prog_13_method_52_code
def yX11_findWay : MethodName := ⟨RX11, "findWay", "(IIIII)Z"⟩
abbrev cX11_openings : ByteArray := prog_13_method_53_code
def yX11_openings : MethodName := ⟨RX11, "openings", "(IIIII)I"⟩
abbrev cX11_heavy : ByteArray := prog_13_method_54_code
def yX11_heavy : MethodName := ⟨RX11, "heavy", "(I)I"⟩
abbrev cX11_bears : ByteArray := prog_13_method_55_code
def yX11_bears : MethodName := ⟨RX11, "bears", "(II)I"⟩
abbrev cX11_knowsBy : ByteArray := prog_13_method_56_code
def yX11_knowsBy : MethodName := ⟨RX11, "knowsBy", "(IIIII)Z"⟩
abbrev cX11_isWon : ByteArray := prog_13_method_57_code
def yX11_isWon : MethodName := ⟨RX11, "isWon", "(IIII)Z"⟩
abbrev cX11_quarrel : ByteArray := prog_13_method_58_code
def yX11_quarrel : MethodName := ⟨RX11, "quarrel", "(IIII)I"⟩
abbrev cX11_see : ByteArray := prog_13_method_59_code
def yX11_see : MethodName := ⟨RX11, "see", "(IIIZ)I"⟩
abbrev cX11_forget : ByteArray := prog_13_method_60_code
def yX11_forget : MethodName := ⟨RX11, "forget", "()I"⟩
abbrev cX11_isSo : ByteArray := prog_13_method_61_code
def yX11_isSo : MethodName := ⟨RX11, "isSo", "(II)Z"⟩
abbrev cX11_isSoAll : ByteArray := prog_13_method_62_code
def yX11_isSoAll : MethodName := ⟨RX11, "isSoAll", "(II)Z"⟩
abbrev cX11_began : ByteArray := prog_13_method_63_code
def yX11_began : MethodName := ⟨RX11, "began", "(I)I"⟩
abbrev cX11_blew : ByteArray := prog_13_method_64_code
def yX11_blew : MethodName := ⟨RX11, "blew", "()I"⟩
abbrev cX11_gusts : ByteArray := prog_13_method_65_code
def yX11_gusts : MethodName := ⟨RX11, "gusts", "(IIII)I"⟩
abbrev cX11_knowers : ByteArray := prog_13_method_66_code
def yX11_knowers : MethodName := ⟨RX11, "knowers", "()I"⟩
abbrev cX11_allKnown : ByteArray := prog_13_method_67_code
def yX11_allKnown : MethodName := ⟨RX11, "allKnown", "()I"⟩
abbrev cX11_year : ByteArray := prog_13_method_68_code
def yX11_year : MethodName := ⟨RX11, "year", "(III)I"⟩
abbrev cX11_keep : ByteArray := prog_13_method_69_code
def yX11_keep : MethodName := ⟨RX11, "keep", "()I"⟩
abbrev cX11_back : ByteArray := prog_13_method_70_code
def yX11_back : MethodName := ⟨RX11, "back", "()I"⟩
abbrev cX11_count : ByteArray := prog_13_method_71_code
def yX11_count : MethodName := ⟨RX11, "count", "(I)I"⟩
def RJ6 : String := "java/lang/Integer"
def TJ6 : u_T := fun k => match k with
  | _ => ("", "", "", false)
def tyJ6 : Nat → FieldType := fun k => match k with
  | _ => .int
abbrev wsJ60 : List Cond := u_ws RJ6 TJ6 0
theorem nmJ6 : ∀ a, a < 0 → ∀ b, b < 0 → a ≠ b → (TJ6 a).2.1 ≠ (TJ6 b).2.1 := by decide +kernel
theorem tyJ6_ok : ∀ k, k < 0 → parseFieldDescriptor (TJ6 k).2.2.1 = some (tyJ6 k) := by decide +kernel
abbrev cJ6_bitCount_0f7a4 : ByteArray := prog_14_method_49_code
def yJ6_bitCount_0f7a4 : MethodName := ⟨RJ6, "bitCount", "(I)I"⟩
def RJ9 : String := "java/lang/Math"
def TJ9 : u_T := fun k => match k with
  | _ => ("", "", "", false)
def tyJ9 : Nat → FieldType := fun k => match k with
  | _ => .int
abbrev wsJ90 : List Cond := u_ws RJ9 TJ9 0
theorem nmJ9 : ∀ a, a < 0 → ∀ b, b < 0 → a ≠ b → (TJ9 a).2.1 ≠ (TJ9 b).2.1 := by decide +kernel
theorem tyJ9_ok : ∀ k, k < 0 → parseFieldDescriptor (TJ9 k).2.2.1 = some (tyJ9 k) := by decide +kernel
abbrev cJ9_floorMod_7cf53 : ByteArray := prog_15_method_50_code
def yJ9_floorMod_7cf53 : MethodName := ⟨RJ9, "floorMod", "(II)I"⟩
abbrev cJ9_max_7cf53 : ByteArray := prog_15_method_65_code
def yJ9_max_7cf53 : MethodName := ⟨RJ9, "max", "(II)I"⟩
abbrev cJ9_min_7cf53 : ByteArray := prog_15_method_69_code
def yJ9_min_7cf53 : MethodName := ⟨RJ9, "min", "(II)I"⟩
def RJ0 : String := "java/lang/String"
def TJ0 : u_T := fun k => match k with
  | _ => ("", "", "", false)
def tyJ0 : Nat → FieldType := fun k => match k with
  | _ => .int
abbrev wsJ00 : List Cond := u_ws RJ0 TJ0 0
theorem nmJ0 : ∀ a, a < 0 → ∀ b, b < 0 → a ≠ b → (TJ0 a).2.1 ≠ (TJ0 b).2.1 := by decide +kernel
theorem tyJ0_ok : ∀ k, k < 0 → parseFieldDescriptor (TJ0 k).2.2.1 = some (tyJ0 k) := by decide +kernel
abbrev cJ0_length_8abf5 : ByteArray := prog_16_method_54_code
def yJ0_length_8abf5 : MethodName := ⟨RJ0, "length", "()I"⟩
abbrev cJ0_charAt_5068e : ByteArray := prog_16_method_56_code
def yJ0_charAt_5068e : MethodName := ⟨RJ0, "charAt", "(I)C"⟩
abbrev cJ0_coder_7d493 : ByteArray := prog_16_method_152_code
def yJ0_coder_7d493 : MethodName := ⟨RJ0, "coder", "()B"⟩
abbrev cJ0_isLatin1_aae02 : ByteArray := prog_16_method_154_code
def yJ0_isLatin1_aae02 : MethodName := ⟨RJ0, "isLatin1", "()Z"⟩
abbrev cJ0_checkIndex_df160 : ByteArray := prog_16_method_155_code
def yJ0_checkIndex_df160 : MethodName := ⟨RJ0, "checkIndex", "(II)V"⟩
def RJ1 : String := "java/lang/StringLatin1"
def TJ1 : u_T := fun k => match k with
  | _ => ("", "", "", false)
def tyJ1 : Nat → FieldType := fun k => match k with
  | _ => .int
abbrev wsJ10 : List Cond := u_ws RJ1 TJ1 0
theorem nmJ1 : ∀ a, a < 0 → ∀ b, b < 0 → a ≠ b → (TJ1 a).2.1 ≠ (TJ1 b).2.1 := by decide +kernel
theorem tyJ1_ok : ∀ k, k < 0 → parseFieldDescriptor (TJ1 k).2.2.1 = some (tyJ1 k) := by decide +kernel
abbrev cJ1_charAt_3b067 : ByteArray := prog_17_method_2_code
def yJ1_charAt_3b067 : MethodName := ⟨RJ1, "charAt", "([BI)C"⟩
def RJ2 : String := "java/lang/StringUTF16"
def TJ2 : u_T := fun k => match k with
  | _ => ("", "", "", false)
def tyJ2 : Nat → FieldType := fun k => match k with
  | _ => .int
abbrev wsJ20 : List Cond := u_ws RJ2 TJ2 0
theorem nmJ2 : ∀ a, a < 0 → ∀ b, b < 0 → a ≠ b → (TJ2 a).2.1 ≠ (TJ2 b).2.1 := by decide +kernel
theorem tyJ2_ok : ∀ k, k < 0 → parseFieldDescriptor (TJ2 k).2.2.1 = some (tyJ2 k) := by decide +kernel
abbrev cJ2_getChar_3b067 : ByteArray := prog_18_method_5_code
def yJ2_getChar_3b067 : MethodName := ⟨RJ2, "getChar", "([BI)C"⟩
abbrev cJ2_length_9d52b : ByteArray := prog_18_method_6_code
def yJ2_length_9d52b : MethodName := ⟨RJ2, "length", "([B)I"⟩
abbrev cJ2_charAt_3b067 : ByteArray := prog_18_method_83_code
def yJ2_charAt_3b067 : MethodName := ⟨RJ2, "charAt", "([BI)C"⟩
abbrev cJ2_checkIndex_2214a : ByteArray := prog_18_method_91_code
def yJ2_checkIndex_2214a : MethodName := ⟨RJ2, "checkIndex", "(I[B)V"⟩
def RJ3 : String := "jdk/internal/util/Preconditions"
def TJ3 : u_T := fun k => match k with
  | _ => ("", "", "", false)
def tyJ3 : Nat → FieldType := fun k => match k with
  | _ => .int
abbrev wsJ30 : List Cond := u_ws RJ3 TJ3 0
theorem nmJ3 : ∀ a, a < 0 → ∀ b, b < 0 → a ≠ b → (TJ3 a).2.1 ≠ (TJ3 b).2.1 := by decide +kernel
theorem tyJ3_ok : ∀ k, k < 0 → parseFieldDescriptor (TJ3 k).2.2.1 = some (tyJ3 k) := by decide +kernel
abbrev cJ3_checkIndex_8e157 : ByteArray := prog_19_method_11_code
def yJ3_checkIndex_8e157 : MethodName := ⟨RJ3, "checkIndex", "(IILjava/util/function/BiFunction;)I"⟩
def RL : String := "NewsDraughtsLaw"
abbrev cL_law : ByteArray := code
def yL_law : MethodName := ⟨RL, "law", "([I)Z"⟩
def wsL_law_r1 : List Cond := [Cond.classLink RL 7 RX10, Cond.instantiable RX10 12, Cond.initialized RX10, Cond.classLink RL 10 RX11, Cond.instantiable RX11 32, Cond.initialized RX11, Cond.methodLink RL 9 yX10_init, Cond.instanceMethod yX10_init, Cond.code yX10_init cX10_init 2 none, Cond.methodLink RX10 1 objectInit, Cond.instanceMethod objectInit, Cond.code objectInit ⟨#[0xb1]⟩ 1 none, Cond.classLink RX10 7 RX7, Cond.instantiable RX7 2, Cond.initialized RX7, Cond.fieldLink RX10 10 "NewsDraughts" "sheet" "LNewsDraughts$Sheet;", Cond.classLink RX10 16 RX6, Cond.instantiable RX6 3, Cond.initialized RX6, Cond.fieldLink RX10 21 "NewsDraughts" "reader" "LNewsDraughts$Reader;", Cond.classLink RX10 25 RX4, Cond.instantiable RX4 13, Cond.initialized RX4, Cond.fieldLink RX10 28 "NewsDraughts" "draft" "LNewsDraughts$Parish;"]
def wsL_law_r2 : List Cond := [Cond.fieldLink RX10 32 "NewsDraughts" "parish" "LNewsDraughts$Parish;", Cond.classLink RX10 35 RX9, Cond.instantiable RX9 3, Cond.initialized RX9, Cond.fieldLink RX10 38 "NewsDraughts" "now" "LNewsDraughts$Standing;", Cond.classLink RX10 42 RX5, Cond.instantiable RX5 3, Cond.initialized RX5, Cond.fieldLink RX10 47 "NewsDraughts" "undone" "LNewsDraughts$Pile;", Cond.fieldLink RX10 51 "NewsDraughts" "kept" "LNewsDraughts$Pile;", Cond.classLink RX10 54 RX1, Cond.instantiable RX1 12, Cond.initialized RX1, Cond.fieldLink RX10 59 "NewsDraughts" "draught" "LNewsDraughts$Draught;", Cond.classLink RX10 63 RX3, Cond.instantiable RX3 3, Cond.initialized RX3, Cond.fieldLink RX10 68 "NewsDraughts" "outlook" "LNewsDraughts$Outlook;", Cond.classLink RX10 72 RX2, Cond.instantiable RX2 9, Cond.initialized RX2, Cond.fieldLink RX10 75 "NewsDraughts" "ways" "LNewsDraughts$Openings;", Cond.classLink RX10 79 RX0, Cond.instantiable RX0 4]
def wsL_law_r3 : List Cond := [Cond.initialized RX0, Cond.fieldLink RX10 84 "NewsDraughts" "chances" "LNewsDraughts$Chances;", Cond.classLink RX10 88 RX8, Cond.instantiable RX8 7, Cond.initialized RX8, Cond.fieldLink RX10 91 "NewsDraughts" "sightings" "LNewsDraughts$Sightings;", Cond.instanceMethod yX7_init, Cond.code yX7_init cX7_init 1 none, Cond.methodLink RX7 3 objectInit, Cond.arrayClass .int, Cond.fieldLink RX7 9 "NewsDraughts$Sheet" "letters" "[I", Cond.fieldLink RX7 15 "NewsDraughts$Sheet" "length" "I", Cond.methodLink RX10 18 yX6_init, Cond.instanceMethod yX6_init, Cond.code yX6_init cX6_init 2 none, Cond.methodLink RX6 3 objectInit, Cond.fieldLink RX6 9 "NewsDraughts$Reader" "numbers" "[I", Cond.fieldLink RX6 15 "NewsDraughts$Reader" "place" "I", Cond.fieldLink RX6 19 "NewsDraughts$Reader" "sheet" "LNewsDraughts$Sheet;", Cond.instanceMethod yX4_init, Cond.code yX4_init cX4_init 1 none, Cond.methodLink RX4 3 objectInit, Cond.fieldLink RX4 9 "NewsDraughts$Parish" "kinds" "[I", Cond.fieldLink RX4 15 "NewsDraughts$Parish" "sashes" "[I"]
def wsL_law_r4 : List Cond := [Cond.fieldLink RX4 18 "NewsDraughts$Parish" "newsKinds" "[I", Cond.fieldLink RX4 21 "NewsDraughts$Parish" "weights" "[I", Cond.fieldLink RX4 24 "NewsDraughts$Parish" "beginnings" "[I", Cond.fieldLink RX4 27 "NewsDraughts$Parish" "winds" "[I", Cond.fieldLink RX4 30 "NewsDraughts$Parish" "rows" "I", Cond.fieldLink RX4 34 "NewsDraughts$Parish" "columns" "I", Cond.fieldLink RX4 37 "NewsDraughts$Parish" "firstColumn" "I", Cond.fieldLink RX4 40 "NewsDraughts$Parish" "lastColumn" "I", Cond.fieldLink RX4 43 "NewsDraughts$Parish" "newsTold" "I", Cond.fieldLink RX4 46 "NewsDraughts$Parish" "windsTold" "I", Cond.fieldLink RX4 49 "NewsDraughts$Parish" "gridsAlone" "Z", Cond.instanceMethod yX9_init, Cond.code yX9_init cX9_init 1 none, Cond.methodLink RX9 3 objectInit, Cond.fieldLink RX9 9 "NewsDraughts$Standing" "sashes" "[I", Cond.fieldLink RX9 15 "NewsDraughts$Standing" "whoKnows" "[I", Cond.fieldLink RX9 18 "NewsDraughts$Standing" "stepsGone" "I", Cond.methodLink RX10 44 yX5_init, Cond.instanceMethod yX5_init, Cond.code yX5_init cX5_init 3 none, Cond.methodLink RX5 1 objectInit, Cond.fieldLink RX5 7 "NewsDraughts$Pile" "lowest" "I", Cond.fieldLink RX5 13 "NewsDraughts$Pile" "size" "I", Cond.classLink RX5 16 RX9]
def wsL_law_r5 : List Cond := [Cond.fieldLink RX5 18 "NewsDraughts$Pile" "places" "[LNewsDraughts$Standing;", Cond.methodLink RX10 56 yX1_init, Cond.instanceMethod yX1_init, Cond.code yX1_init cX1_init 3 none, Cond.methodLink RX1 3 objectInit, Cond.fieldLink RX1 9 "NewsDraughts$Draught" "sashes" "[I", Cond.fieldLink RX1 15 "NewsDraughts$Draught" "needed" "[I", Cond.fieldLink RX1 18 "NewsDraughts$Draught" "whoKnows" "I", Cond.fieldLink RX1 22 "NewsDraughts$Draught" "gossips" "I", Cond.fieldLink RX1 25 "NewsDraughts$Draught" "talkers" "I", Cond.fieldLink RX1 28 "NewsDraughts$Draught" "openToGossips" "I", Cond.fieldLink RX1 31 "NewsDraughts$Draught" "openToTalkers" "I", Cond.fieldLink RX1 34 "NewsDraughts$Draught" "columns" "I", Cond.fieldLink RX1 37 "NewsDraughts$Draught" "firstColumn" "I", Cond.fieldLink RX1 40 "NewsDraughts$Draught" "lastColumn" "I", Cond.fieldLink RX1 43 "NewsDraughts$Draught" "parish" "LNewsDraughts$Parish;", Cond.fieldLink RX1 47 "NewsDraughts$Draught" "now" "LNewsDraughts$Standing;", Cond.methodLink RX10 65 yX3_init, Cond.instanceMethod yX3_init, Cond.code yX3_init cX3_init 4 none, Cond.methodLink RX3 3 objectInit, Cond.fieldLink RX3 9 "NewsDraughts$Outlook" "parish" "LNewsDraughts$Parish;", Cond.fieldLink RX3 15 "NewsDraughts$Outlook" "now" "LNewsDraughts$Standing;", Cond.fieldLink RX3 19 "NewsDraughts$Outlook" "draught" "LNewsDraughts$Draught;"]
def wsL_law_r6 : List Cond := [Cond.methodLink RX10 74 yX2_init, Cond.instanceMethod yX2_init, Cond.code yX2_init cX2_init 4 none, Cond.methodLink RX2 3 objectInit, Cond.fieldLink RX2 9 "NewsDraughts$Openings" "steps" "I", Cond.fieldLink RX2 15 "NewsDraughts$Openings" "shallKnow" "I", Cond.fieldLink RX2 18 "NewsDraughts$Openings" "shallNot" "I", Cond.fieldLink RX2 21 "NewsDraughts$Openings" "opened" "I", Cond.fieldLink RX2 24 "NewsDraughts$Openings" "first" "I", Cond.fieldLink RX2 27 "NewsDraughts$Openings" "second" "I", Cond.fieldLink RX2 30 "NewsDraughts$Openings" "parish" "LNewsDraughts$Parish;", Cond.fieldLink RX2 34 "NewsDraughts$Openings" "now" "LNewsDraughts$Standing;", Cond.fieldLink RX2 38 "NewsDraughts$Openings" "draught" "LNewsDraughts$Draught;", Cond.methodLink RX10 81 yX0_init, Cond.instanceMethod yX0_init, Cond.code yX0_init cX0_init 3 none, Cond.methodLink RX0 3 objectInit, Cond.fieldLink RX0 9 "NewsDraughts$Chances" "housesThatKnow" "I", Cond.fieldLink RX0 15 "NewsDraughts$Chances" "timesHeard" "I", Cond.fieldLink RX0 18 "NewsDraughts$Chances" "parish" "LNewsDraughts$Parish;", Cond.fieldLink RX0 22 "NewsDraughts$Chances" "draught" "LNewsDraughts$Draught;", Cond.methodLink RX10 90 yX8_init, Cond.instanceMethod yX8_init, Cond.code yX8_init cX8_init 3 none]
def wsL_law_r7 : List Cond := [Cond.methodLink RX8 3 objectInit, Cond.fieldLink RX8 9 "NewsDraughts$Sightings" "houses" "[I", Cond.fieldLink RX8 15 "NewsDraughts$Sightings" "news" "[I", Cond.fieldLink RX8 18 "NewsDraughts$Sightings" "times" "[I", Cond.fieldLink RX8 21 "NewsDraughts$Sightings" "knows" "[I", Cond.fieldLink RX8 24 "NewsDraughts$Sightings" "size" "I", Cond.fieldLink RX8 28 "NewsDraughts$Sightings" "parish" "LNewsDraughts$Parish;", Cond.fieldLink RX8 32 "NewsDraughts$Sightings" "draught" "LNewsDraughts$Draught;", Cond.methodLink RX10 97 yJ0_length_8abf5, Cond.instanceMethod yJ0_length_8abf5, Cond.selects RJ0 yJ0_length_8abf5 yJ0_length_8abf5, Cond.initialized RJ0, Cond.code yJ0_length_8abf5 cJ0_length_8abf5 1 (some .int), Cond.fieldLink RJ0 9 "java/lang/String" "value" "[B", Cond.methodLink RJ0 335 yJ0_coder_7d493, Cond.instanceMethod yJ0_coder_7d493, Cond.selects RJ0 yJ0_coder_7d493 yJ0_coder_7d493, Cond.code yJ0_coder_7d493 cJ0_coder_7d493 1 (some .byte), Cond.fieldLink RJ0 38 "java/lang/String" "COMPACT_STRINGS" "Z", Cond.fieldLink RJ0 15 "java/lang/String" "coder" "B", Cond.methodLink RX10 103 yJ0_charAt_5068e, Cond.instanceMethod yJ0_charAt_5068e, Cond.selects RJ0 yJ0_charAt_5068e yJ0_charAt_5068e, Cond.code yJ0_charAt_5068e cJ0_charAt_5068e 2 (some .char)]
def wsL_law_r8 : List Cond := [Cond.methodLink RJ0 492 yJ0_isLatin1_aae02, Cond.instanceMethod yJ0_isLatin1_aae02, Cond.selects RJ0 yJ0_isLatin1_aae02 yJ0_isLatin1_aae02, Cond.code yJ0_isLatin1_aae02 cJ0_isLatin1_aae02 1 (some .boolean), Cond.methodLink RJ0 495 yJ1_charAt_3b067, Cond.static yJ1_charAt_3b067, Cond.initialized RJ1, Cond.code yJ1_charAt_3b067 cJ1_charAt_3b067 2 (some .char), Cond.methodLink RJ1 9 yJ0_checkIndex_df160, Cond.static yJ0_checkIndex_df160, Cond.code yJ0_checkIndex_df160 cJ0_checkIndex_df160 2 none, Cond.fieldLink RJ0 1053 "jdk/internal/util/Preconditions" "SIOOBE_FORMATTER" "Ljava/util/function/BiFunction;", Cond.methodLink RJ0 1059 yJ3_checkIndex_8e157, Cond.static yJ3_checkIndex_8e157, Cond.initialized RJ3, Cond.code yJ3_checkIndex_8e157 cJ3_checkIndex_8e157 3 (some .int), Cond.methodLink RJ0 498 yJ2_charAt_3b067, Cond.static yJ2_charAt_3b067, Cond.initialized RJ2, Cond.code yJ2_charAt_3b067 cJ2_charAt_3b067 2 (some .char), Cond.methodLink RJ2 67 yJ2_checkIndex_2214a, Cond.static yJ2_checkIndex_2214a, Cond.code yJ2_checkIndex_2214a cJ2_checkIndex_2214a 2 none, Cond.methodLink RJ2 48 yJ2_length_9d52b]
def wsL_law_r9 : List Cond := [Cond.static yJ2_length_9d52b, Cond.code yJ2_length_9d52b cJ2_length_9d52b 1 (some .int), Cond.methodLink RJ2 414 yJ0_checkIndex_df160, Cond.methodLink RJ2 71 yJ2_getChar_3b067, Cond.static yJ2_getChar_3b067, Cond.code yJ2_getChar_3b067 cJ2_getChar_3b067 2 (some .char), Cond.fieldLink RJ2 44 "java/lang/StringUTF16" "$assertionsDisabled" "Z", Cond.fieldLink RJ2 59 "java/lang/StringUTF16" "HI_BYTE_SHIFT" "I", Cond.fieldLink RJ2 63 "java/lang/StringUTF16" "LO_BYTE_SHIFT" "I", Cond.methodLink RX10 107 yX7_add, Cond.instanceMethod yX7_add, Cond.selects RX7 yX7_add yX7_add, Cond.code yX7_add cX7_add 2 (some .boolean), Cond.static yX10_put, Cond.code yX10_put cX10_put 3 none, Cond.methodLink RX10 111 yX10_layText, Cond.instanceMethod yX10_layText, Cond.selects RX10 yX10_layText yX10_layText, Cond.code yX10_layText cX10_layText 1 (some .boolean), Cond.methodLink RX10 123 yX6_readInto, Cond.instanceMethod yX6_readInto, Cond.selects RX6 yX6_readInto yX6_readInto, Cond.code yX6_readInto cX6_readInto 5 (some .int), Cond.methodLink RX6 23 yX4_clear]
def wsL_law_r10 : List Cond := [Cond.instanceMethod yX4_clear, Cond.selects RX4 yX4_clear yX4_clear, Cond.code yX4_clear cX4_clear 1 none, Cond.static yX10_fill, Cond.code yX10_fill cX10_fill 3 none, Cond.methodLink RX4 57 yX4_takeGrid, Cond.instanceMethod yX4_takeGrid, Cond.selects RX4 yX4_takeGrid yX4_takeGrid, Cond.code yX4_takeGrid cX4_takeGrid 4 (some .boolean), Cond.static yX10_within, Cond.code yX10_within cX10_within 3 (some .boolean), Cond.static yX10_bit, Cond.code yX10_bit cX10_bit 1 (some .int), Cond.methodLink RX6 28 yX7_length, Cond.instanceMethod yX7_length, Cond.selects RX7 yX7_length yX7_length, Cond.code yX7_length cX7_length 1 (some .int), Cond.methodLink RX6 34 yX6_readNumbers, Cond.instanceMethod yX6_readNumbers, Cond.selects RX6 yX6_readNumbers yX6_readNumbers, Cond.code yX6_readNumbers cX6_readNumbers 4 (some .int), Cond.methodLink RX6 45 yX6_readNumber, Cond.instanceMethod yX6_readNumber, Cond.selects RX6 yX6_readNumber yX6_readNumber]
def wsL_law_r11 : List Cond := [Cond.code yX6_readNumber cX6_readNumber 3 (some .int), Cond.methodLink RX6 37 yX7_letterAt, Cond.instanceMethod yX7_letterAt, Cond.selects RX7 yX7_letterAt yX7_letterAt, Cond.code yX7_letterAt cX7_letterAt 2 (some .int), Cond.static yX10_at, Cond.code yX10_at cX10_at 2 (some .int), Cond.methodLink RX6 52 yX6_isFigure, Cond.static yX6_isFigure, Cond.code yX6_isFigure cX6_isFigure 1 (some .boolean), Cond.methodLink RX6 41 yX4_take, Cond.instanceMethod yX4_take, Cond.selects RX4 yX4_take yX4_take, Cond.code yX4_take cX4_take 7 (some .boolean), Cond.methodLink RX4 65 yX4_takeHouse, Cond.instanceMethod yX4_takeHouse, Cond.selects RX4 yX4_takeHouse yX4_takeHouse, Cond.code yX4_takeHouse cX4_takeHouse 4 (some .boolean), Cond.methodLink RX4 83 yX4_hasHouse, Cond.instanceMethod yX4_hasHouse, Cond.selects RX4 yX4_hasHouse yX4_hasHouse, Cond.code yX4_hasHouse cX4_hasHouse 2 (some .boolean), Cond.methodLink RX4 93 yX4_houses, Cond.instanceMethod yX4_houses]
def wsL_law_r12 : List Cond := [Cond.selects RX4 yX4_houses yX4_houses, Cond.code yX4_houses cX4_houses 1 (some .int), Cond.static yX10_isWidth, Cond.code yX10_isWidth cX10_isWidth 1 (some .boolean), Cond.methodLink RX10 118 yX10_within, Cond.methodLink RX4 69 yX4_takeNews, Cond.instanceMethod yX4_takeNews, Cond.selects RX4 yX4_takeNews yX4_takeNews, Cond.code yX4_takeNews cX4_takeNews 4 (some .boolean), Cond.methodLink RX4 72 yX4_takeWind, Cond.instanceMethod yX4_takeWind, Cond.selects RX4 yX4_takeWind yX4_takeWind, Cond.code yX4_takeWind cX4_takeWind 2 (some .boolean), Cond.methodLink RX10 173 yX4_newsTold, Cond.instanceMethod yX4_newsTold, Cond.selects RX4 yX4_newsTold yX4_newsTold, Cond.code yX4_newsTold cX4_newsTold 1 (some .int), Cond.methodLink RX10 293 yX9_begin, Cond.instanceMethod yX9_begin, Cond.selects RX9 yX9_begin yX9_begin, Cond.code yX9_begin cX9_begin 3 none, Cond.methodLink RX9 22 yX4_sashOf, Cond.instanceMethod yX4_sashOf, Cond.selects RX4 yX4_sashOf yX4_sashOf]
def wsL_law_r13 : List Cond := [Cond.code yX4_sashOf cX4_sashOf 2 (some .int), Cond.methodLink RX9 32 yX4_hasNews, Cond.instanceMethod yX4_hasNews, Cond.selects RX4 yX4_hasNews yX4_hasNews, Cond.code yX4_hasNews cX4_hasNews 2 (some .boolean), Cond.methodLink RX9 36 yX4_beginningOf, Cond.instanceMethod yX4_beginningOf, Cond.selects RX4 yX4_beginningOf yX4_beginningOf, Cond.code yX4_beginningOf cX4_beginningOf 2 (some .int), Cond.methodLink RX10 283 yX5_clear, Cond.instanceMethod yX5_clear, Cond.selects RX5 yX5_clear yX5_clear, Cond.code yX5_clear cX5_clear 1 none, Cond.methodLink RX10 258 yX8_clear, Cond.instanceMethod yX8_clear, Cond.selects RX8 yX8_clear yX8_clear, Cond.code yX8_clear cX8_clear 1 none, Cond.methodLink RX10 115 yX7_clear, Cond.instanceMethod yX7_clear, Cond.selects RX7 yX7_clear yX7_clear, Cond.code yX7_clear cX7_clear 1 none, Cond.methodLink RL 12 yX11_init, Cond.instanceMethod yX11_init, Cond.code yX11_init cX11_init 1 none]
def wsL_law_r14 : List Cond := [Cond.methodLink RX11 1 objectInit, Cond.fieldLink RX11 7 "NewsDraughtsModel" "kinds" "[I", Cond.fieldLink RX11 13 "NewsDraughtsModel" "news" "[I", Cond.fieldLink RX11 16 "NewsDraughtsModel" "winds" "[I", Cond.fieldLink RX11 19 "NewsDraughtsModel" "st" "[I", Cond.fieldLink RX11 22 "NewsDraughtsModel" "was" "[I", Cond.fieldLink RX11 25 "NewsDraughtsModel" "kept" "[I", Cond.fieldLink RX11 28 "NewsDraughtsModel" "seen" "[I", Cond.fieldLink RX11 31 "NewsDraughtsModel" "text" "[I", Cond.fieldLink RX11 34 "NewsDraughtsModel" "told" "[I", Cond.fieldLink RX11 37 "NewsDraughtsModel" "readKind" "[I", Cond.fieldLink RX11 40 "NewsDraughtsModel" "readOpen" "[I", Cond.fieldLink RX11 43 "NewsDraughtsModel" "readNews" "[I", Cond.fieldLink RX11 46 "NewsDraughtsModel" "readWind" "[I", Cond.fieldLink RX11 49 "NewsDraughtsModel" "now" "[I", Cond.fieldLink RX11 62 "NewsDraughtsModel" "readWinds" "I", Cond.methodLink RX11 52 yX11_clearTold, Cond.instanceMethod yX11_clearTold, Cond.selects RX11 yX11_clearTold yX11_clearTold, Cond.code yX11_clearTold cX11_clearTold 2 none, Cond.fieldLink RX11 96 "NewsDraughtsModel" "isBegun" "Z", Cond.fieldLink RX11 100 "NewsDraughtsModel" "readRows" "I", Cond.fieldLink RX11 103 "NewsDraughtsModel" "readColumns" "I", Cond.fieldLink RX11 69 "NewsDraughtsModel" "readNewsMany" "I"]
def wsL_law_r15 : List Cond := [Cond.methodLink RX11 55 yX11_tellsHouse, Cond.instanceMethod yX11_tellsHouse, Cond.selects RX11 yX11_tellsHouse yX11_tellsHouse, Cond.code yX11_tellsHouse cX11_tellsHouse 4 none, Cond.methodLink RX11 59 yX11_tellsNews, Cond.instanceMethod yX11_tellsNews, Cond.selects RX11 yX11_tellsNews yX11_tellsNews, Cond.code yX11_tellsNews cX11_tellsNews 4 none, Cond.methodLink RX11 66 yX11_settles, Cond.instanceMethod yX11_settles, Cond.selects RX11 yX11_settles yX11_settles, Cond.code yX11_settles cX11_settles 2 none, Cond.fieldLink RX11 135 "NewsDraughtsModel" "rows" "I", Cond.fieldLink RX11 138 "NewsDraughtsModel" "columns" "I", Cond.fieldLink RX11 72 "NewsDraughtsModel" "houses" "I", Cond.fieldLink RX11 79 "NewsDraughtsModel" "newsMany" "I", Cond.fieldLink RX11 145 "NewsDraughtsModel" "windMany" "I", Cond.fieldLink RX11 148 "NewsDraughtsModel" "acts" "I", Cond.fieldLink RX11 151 "NewsDraughtsModel" "keeps" "I", Cond.fieldLink RX11 154 "NewsDraughtsModel" "sees" "I", Cond.methodLink RX11 141 yX11_copies, Cond.static yX11_copies, Cond.code yX11_copies cX11_copies 6 none, Cond.methodLink RL 13 yX10_write]
def wsL_law_r16 : List Cond := [Cond.instanceMethod yX10_write, Cond.selects RX10 yX10_write yX10_write, Cond.code yX10_write cX10_write 2 (some .int), Cond.methodLink RX10 122 yX7_length, Cond.methodLink RL 17 yX11_write, Cond.instanceMethod yX11_write, Cond.selects RX11 yX11_write yX11_write, Cond.code yX11_write cX11_write 2 (some .int), Cond.fieldLink RX11 82 "NewsDraughtsModel" "texted" "I", Cond.methodLink RX11 75 yX11_in, Cond.static yX11_in, Cond.code yX11_in cX11_in 3 (some .boolean), Cond.methodLink RL 18 yX10_wipe, Cond.instanceMethod yX10_wipe, Cond.selects RX10 yX10_wipe yX10_wipe, Cond.code yX10_wipe cX10_wipe 2 (some .int), Cond.methodLink RL 22 yX11_wipe, Cond.instanceMethod yX11_wipe, Cond.selects RX11 yX11_wipe yX11_wipe, Cond.code yX11_wipe cX11_wipe 2 (some .int), Cond.methodLink RL 23 yX10_fault, Cond.instanceMethod yX10_fault, Cond.selects RX10 yX10_fault yX10_fault, Cond.code yX10_fault cX10_fault 1 (some .int)]
def wsL_law_r17 : List Cond := [Cond.methodLink RL 26 yX11_fault, Cond.instanceMethod yX11_fault, Cond.selects RX11 yX11_fault yX11_fault, Cond.code yX11_fault cX11_fault 2 (some .int), Cond.fieldLink RX11 85 "NewsDraughtsModel" "at" "I", Cond.methodLink RX11 129 yX11_readItem, Cond.instanceMethod yX11_readItem, Cond.selects RX11 yX11_readItem yX11_readItem, Cond.code yX11_readItem cX11_readItem 2 (some .boolean), Cond.methodLink RX11 88 yX11_letterAt, Cond.instanceMethod yX11_letterAt, Cond.selects RX11 yX11_letterAt yX11_letterAt, Cond.code yX11_letterAt cX11_letterAt 2 (some .int), Cond.methodLink RX11 116 yX11_readGridOf, Cond.instanceMethod yX11_readGridOf, Cond.selects RX11 yX11_readGridOf yX11_readGridOf, Cond.code yX11_readGridOf cX11_readGridOf 1 (some .boolean), Cond.methodLink RX11 106 yX11_readNumbers, Cond.instanceMethod yX11_readNumbers, Cond.selects RX11 yX11_readNumbers yX11_readNumbers, Cond.code yX11_readNumbers cX11_readNumbers 3 (some .boolean), Cond.methodLink RX11 92 yX11_isFigure, Cond.static yX11_isFigure, Cond.code yX11_isFigure cX11_isFigure 1 (some .boolean)]
def wsL_law_r18 : List Cond := [Cond.methodLink RX11 109 yX11_isTold, Cond.instanceMethod yX11_isTold, Cond.selects RX11 yX11_isTold yX11_isTold, Cond.code yX11_isTold cX11_isTold 4 (some .boolean), Cond.methodLink RX11 120 yX11_readHouseOf, Cond.instanceMethod yX11_readHouseOf, Cond.selects RX11 yX11_readHouseOf yX11_readHouseOf, Cond.code yX11_readHouseOf cX11_readHouseOf 1 (some .boolean), Cond.methodLink RX11 112 yX11_lastTold, Cond.instanceMethod yX11_lastTold, Cond.selects RX11 yX11_lastTold yX11_lastTold, Cond.code yX11_lastTold cX11_lastTold 1 (some .int), Cond.methodLink RX11 123 yX11_readNewsOf, Cond.instanceMethod yX11_readNewsOf, Cond.selects RX11 yX11_readNewsOf yX11_readNewsOf, Cond.code yX11_readNewsOf cX11_readNewsOf 1 (some .boolean), Cond.methodLink RX11 126 yX11_readWindOf, Cond.instanceMethod yX11_readWindOf, Cond.selects RX11 yX11_readWindOf yX11_readWindOf, Cond.code yX11_readWindOf cX11_readWindOf 1 (some .boolean), Cond.methodLink RL 27 yX10_lay, Cond.instanceMethod yX10_lay, Cond.selects RX10 yX10_lay yX10_lay, Cond.code yX10_lay cX10_lay 1 (some .int)]
def wsL_law_r19 : List Cond := [Cond.methodLink RX10 127 yX4_houses, Cond.methodLink RL 30 yX11_lay, Cond.instanceMethod yX11_lay, Cond.selects RX11 yX11_lay yX11_lay, Cond.code yX11_lay cX11_lay 1 (some .int), Cond.methodLink RX11 132 yX11_fault, Cond.methodLink RL 31 yX10_house, Cond.instanceMethod yX10_house, Cond.selects RX10 yX10_house yX10_house, Cond.code yX10_house cX10_house 3 (some .int), Cond.methodLink RX10 130 yX4_hasHouse, Cond.methodLink RX10 133 yX4_kindOf, Cond.instanceMethod yX4_kindOf, Cond.selects RX4 yX4_kindOf yX4_kindOf, Cond.code yX4_kindOf cX4_kindOf 2 (some .int), Cond.methodLink RX10 137 yX9_sashOf, Cond.instanceMethod yX9_sashOf, Cond.selects RX9 yX9_sashOf yX9_sashOf, Cond.code yX9_sashOf cX9_sashOf 2 (some .int), Cond.methodLink RX10 140 yX9_knownIn, Cond.instanceMethod yX9_knownIn, Cond.selects RX9 yX9_knownIn yX9_knownIn, Cond.code yX9_knownIn cX9_knownIn 4 (some .int), Cond.methodLink RX9 50 yX9_whoKnows]
def wsL_law_r20 : List Cond := [Cond.instanceMethod yX9_whoKnows, Cond.selects RX9 yX9_whoKnows yX9_whoKnows, Cond.code yX9_whoKnows cX9_whoKnows 2 (some .int), Cond.static yX10_holds, Cond.code yX10_holds cX10_holds 2 (some .boolean), Cond.methodLink RX10 202 yX10_bit, Cond.methodLink RL 35 yX11_house, Cond.instanceMethod yX11_house, Cond.selects RX11 yX11_house yX11_house, Cond.code yX11_house cX11_house 3 (some .int), Cond.methodLink RX11 188 yX11_isHouse, Cond.instanceMethod yX11_isHouse, Cond.selects RX11 yX11_isHouse yX11_isHouse, Cond.code yX11_isHouse cX11_isHouse 2 (some .boolean), Cond.methodLink RX11 160 yX11_asItIs, Cond.instanceMethod yX11_asItIs, Cond.selects RX11 yX11_asItIs yX11_asItIs, Cond.code yX11_asItIs cX11_asItIs 1 none, Cond.fieldLink RX11 157 "NewsDraughtsModel" "only" "I", Cond.methodLink RX11 191 yX11_known, Cond.instanceMethod yX11_known, Cond.selects RX11 yX11_known yX11_known, Cond.code yX11_known cX11_known 4 (some .int), Cond.methodLink RX11 167 yX11_has]
def wsL_law_r21 : List Cond := [Cond.static yX11_has, Cond.code yX11_has cX11_has 2 (some .boolean), Cond.methodLink RL 36 yX10_news, Cond.instanceMethod yX10_news, Cond.selects RX10 yX10_news yX10_news, Cond.code yX10_news cX10_news 3 (some .int), Cond.methodLink RX10 143 yX4_hasNews, Cond.methodLink RX10 146 yX4_newsKindOf, Cond.instanceMethod yX4_newsKindOf, Cond.selects RX4 yX4_newsKindOf yX4_newsKindOf, Cond.code yX4_newsKindOf cX4_newsKindOf 2 (some .int), Cond.methodLink RX10 149 yX4_weightOf, Cond.instanceMethod yX4_weightOf, Cond.selects RX4 yX4_weightOf yX4_weightOf, Cond.code yX4_weightOf cX4_weightOf 2 (some .int), Cond.methodLink RX10 152 yX4_beginningOf, Cond.methodLink RX10 155 yX9_whoKnows, Cond.methodLink RX10 158 yJ6_bitCount_0f7a4, Cond.static yJ6_bitCount_0f7a4, Cond.initialized RJ6, Cond.code yJ6_bitCount_0f7a4 cJ6_bitCount_0f7a4 1 (some .int), Cond.constant RJ6 265 (1431655765), Cond.constant RJ6 266 (858993459), Cond.constant RJ6 267 (252645135)]
def wsL_law_r22 : List Cond := [Cond.methodLink RL 39 yX11_news, Cond.instanceMethod yX11_news, Cond.selects RX11 yX11_news yX11_news, Cond.code yX11_news cX11_news 3 (some .int), Cond.methodLink RX11 194 yX11_isNews, Cond.instanceMethod yX11_isNews, Cond.selects RX11 yX11_isNews yX11_isNews, Cond.code yX11_isNews cX11_isNews 2 (some .boolean), Cond.methodLink RX11 197 yX11_bits, Cond.static yX11_bits, Cond.code yX11_bits cX11_bits 3 (some .int), Cond.methodLink RL 40 yX10_wind, Cond.instanceMethod yX10_wind, Cond.selects RX10 yX10_wind yX10_wind, Cond.code yX10_wind cX10_wind 2 (some .int), Cond.methodLink RX10 163 yX9_stepsGone, Cond.instanceMethod yX9_stepsGone, Cond.selects RX9 yX9_stepsGone yX9_stepsGone, Cond.code yX9_stepsGone cX9_stepsGone 1 (some .int), Cond.methodLink RX10 166 yX4_windOf, Cond.instanceMethod yX4_windOf, Cond.selects RX4 yX4_windOf yX4_windOf, Cond.code yX4_windOf cX4_windOf 3 (some .int), Cond.methodLink RX4 100 yX4_windsInTurn]
def wsL_law_r23 : List Cond := [Cond.instanceMethod yX4_windsInTurn, Cond.selects RX4 yX4_windsInTurn yX4_windsInTurn, Cond.code yX4_windsInTurn cX4_windsInTurn 1 (some .int), Cond.methodLink RX4 103 yJ9_floorMod_7cf53, Cond.static yJ9_floorMod_7cf53, Cond.initialized RJ9, Cond.code yJ9_floorMod_7cf53 cJ9_floorMod_7cf53 3 (some .int), Cond.methodLink RL 43 yX11_wind, Cond.instanceMethod yX11_wind, Cond.selects RX11 yX11_wind yX11_wind, Cond.code yX11_wind cX11_wind 2 (some .int), Cond.methodLink RX11 181 yX11_windOf, Cond.instanceMethod yX11_windOf, Cond.selects RX11 yX11_windOf yX11_windOf, Cond.code yX11_windOf cX11_windOf 2 (some .int), Cond.methodLink RL 44 yX10_step, Cond.instanceMethod yX10_step, Cond.selects RX10 yX10_step yX10_step, Cond.code yX10_step cX10_step 3 (some .int), Cond.methodLink RX10 169 yX5_push, Cond.instanceMethod yX5_push, Cond.selects RX5 yX5_push yX5_push, Cond.code yX5_push cX5_push 3 none, Cond.methodLink RX5 23 yX5_placeOf]
def wsL_law_r24 : List Cond := [Cond.instanceMethod yX5_placeOf, Cond.selects RX5 yX5_placeOf yX5_placeOf, Cond.code yX5_placeOf cX5_placeOf 3 (some (.object "NewsDraughts$Standing")), Cond.methodLink RX5 35 yJ9_floorMod_7cf53, Cond.methodLink RX5 27 yX9_copyOf, Cond.instanceMethod yX9_copyOf, Cond.selects RX9 yX9_copyOf yX9_copyOf, Cond.code yX9_copyOf cX9_copyOf 2 none, Cond.static yX10_copy, Cond.code yX10_copy cX10_copy 3 none, Cond.methodLink RX10 297 yX10_at, Cond.methodLink RX5 31 yX5_isFull, Cond.instanceMethod yX5_isFull, Cond.selects RX5 yX5_isFull yX5_isFull, Cond.code yX5_isFull cX5_isFull 1 (some .boolean), Cond.methodLink RX10 176 yX1_pick, Cond.instanceMethod yX1_pick, Cond.selects RX1 yX1_pick yX1_pick, Cond.code yX1_pick cX1_pick 6 none, Cond.methodLink RX1 51 yX4_newsKindOf, Cond.methodLink RX1 57 yX9_whoKnows, Cond.methodLink RX1 61 yX4_columns, Cond.instanceMethod yX4_columns, Cond.selects RX4 yX4_columns yX4_columns]
def wsL_law_r25 : List Cond := [Cond.code yX4_columns cX4_columns 1 (some .int), Cond.methodLink RX1 64 yX4_firstColumn, Cond.instanceMethod yX4_firstColumn, Cond.selects RX4 yX4_firstColumn yX4_firstColumn, Cond.code yX4_firstColumn cX4_firstColumn 1 (some .int), Cond.methodLink RX1 66 yX4_lastColumn, Cond.instanceMethod yX4_lastColumn, Cond.selects RX4 yX4_lastColumn yX4_lastColumn, Cond.code yX4_lastColumn cX4_lastColumn 1 (some .int), Cond.methodLink RX1 68 yX4_houses, Cond.methodLink RX1 71 yX4_kindOf, Cond.methodLink RX1 77 yX4_weightOf, Cond.methodLink RX1 84 yX9_sashOf, Cond.methodLink RX1 87 yX1_reopen, Cond.instanceMethod yX1_reopen, Cond.selects RX1 yX1_reopen yX1_reopen, Cond.code yX1_reopen cX1_reopen 3 none, Cond.methodLink RX1 91 yX1_letsInFromTalkers, Cond.instanceMethod yX1_letsInFromTalkers, Cond.selects RX1 yX1_letsInFromTalkers yX1_letsInFromTalkers, Cond.code yX1_letsInFromTalkers cX1_letsInFromTalkers 3 (some .boolean), Cond.methodLink RX1 95 yX1_letsInFromGossips, Cond.instanceMethod yX1_letsInFromGossips, Cond.selects RX1 yX1_letsInFromGossips yX1_letsInFromGossips]
def wsL_law_r26 : List Cond := [Cond.code yX1_letsInFromGossips cX1_letsInFromGossips 3 (some .boolean), Cond.methodLink RX10 179 yX1_whoKnows, Cond.instanceMethod yX1_whoKnows, Cond.selects RX1 yX1_whoKnows yX1_whoKnows, Cond.code yX1_whoKnows cX1_whoKnows 1 (some .int), Cond.methodLink RX10 181 yX1_along, Cond.instanceMethod yX1_along, Cond.selects RX1 yX1_along yX1_along, Cond.code yX1_along cX1_along 9 (some .int), Cond.methodLink RX1 109 yX4_windsInTurn, Cond.methodLink RX1 112 yX9_stepsGone, Cond.methodLink RX1 115 yX4_windOf, Cond.methodLink RX1 118 yX1_onward, Cond.instanceMethod yX1_onward, Cond.selects RX1 yX1_onward yX1_onward, Cond.code yX1_onward cX1_onward 6 (some .int), Cond.methodLink RX10 185 yX9_setWhoKnows, Cond.instanceMethod yX9_setWhoKnows, Cond.selects RX9 yX9_setWhoKnows yX9_setWhoKnows, Cond.code yX9_setWhoKnows cX9_setWhoKnows 3 none, Cond.methodLink RX10 189 yX9_goOn, Cond.instanceMethod yX9_goOn, Cond.selects RX9 yX9_goOn yX9_goOn, Cond.code yX9_goOn cX9_goOn 2 none]
def wsL_law_r27 : List Cond := [Cond.methodLink RL 47 yX11_step, Cond.instanceMethod yX11_step, Cond.selects RX11 yX11_step yX11_step, Cond.code yX11_step cX11_step 2 (some .int), Cond.methodLink RX11 200 yX11_remembers, Cond.instanceMethod yX11_remembers, Cond.selects RX11 yX11_remembers yX11_remembers, Cond.code yX11_remembers cX11_remembers 2 none, Cond.methodLink RX11 203 yX11_goes, Cond.instanceMethod yX11_goes, Cond.selects RX11 yX11_goes yX11_goes, Cond.code yX11_goes cX11_goes 3 none, Cond.methodLink RX11 184 yX11_goesBy, Cond.instanceMethod yX11_goesBy, Cond.selects RX11 yX11_goesBy yX11_goesBy, Cond.code yX11_goesBy cX11_goesBy 6 none, Cond.methodLink RX11 174 yX11_letsOut, Cond.instanceMethod yX11_letsOut, Cond.selects RX11 yX11_letsOut yX11_letsOut, Cond.code yX11_letsOut cX11_letsOut 3 (some .boolean), Cond.methodLink RX11 177 yX11_blowsFrom, Cond.instanceMethod yX11_blowsFrom, Cond.selects RX11 yX11_blowsFrom yX11_blowsFrom, Cond.code yX11_blowsFrom cX11_blowsFrom 6 none]
def wsL_law_r28 : List Cond := [Cond.methodLink RX11 163 yX11_beside, Cond.instanceMethod yX11_beside, Cond.selects RX11 yX11_beside yX11_beside, Cond.code yX11_beside cX11_beside 5 (some .int), Cond.methodLink RX11 171 yX11_letsIn, Cond.instanceMethod yX11_letsIn, Cond.selects RX11 yX11_letsIn yX11_letsIn, Cond.code yX11_letsIn cX11_letsIn 5 (some .boolean), Cond.methodLink RL 48 yX10_open, Cond.instanceMethod yX10_open, Cond.selects RX10 yX10_open yX10_open, Cond.code yX10_open cX10_open 4 (some .int), Cond.methodLink RX10 192 yX10_isWidth, Cond.methodLink RX10 195 yX9_setSash, Cond.instanceMethod yX9_setSash, Cond.selects RX9 yX9_setSash yX9_setSash, Cond.code yX9_setSash cX9_setSash 3 none, Cond.methodLink RL 51 yX11_open, Cond.instanceMethod yX11_open, Cond.selects RX11 yX11_open yX11_open, Cond.code yX11_open cX11_open 4 (some .int), Cond.methodLink RL 52 yX10_tell, Cond.instanceMethod yX10_tell, Cond.selects RX10 yX10_tell yX10_tell]
def wsL_law_r29 : List Cond := [Cond.code yX10_tell cX10_tell 4 (some .int), Cond.methodLink RX10 198 yX10_holds, Cond.methodLink RL 55 yX11_tell, Cond.instanceMethod yX11_tell, Cond.selects RX11 yX11_tell yX11_tell, Cond.code yX11_tell cX11_tell 3 (some .int), Cond.methodLink RL 56 yX10_undo, Cond.instanceMethod yX10_undo, Cond.selects RX10 yX10_undo yX10_undo, Cond.code yX10_undo cX10_undo 1 (some .int), Cond.methodLink RX10 205 yX5_popInto, Cond.instanceMethod yX5_popInto, Cond.selects RX5 yX5_popInto yX5_popInto, Cond.code yX5_popInto cX5_popInto 3 (some .boolean), Cond.methodLink RX10 209 yX5_size, Cond.instanceMethod yX5_size, Cond.selects RX5 yX5_size yX5_size, Cond.code yX5_size cX5_size 1 (some .int), Cond.methodLink RL 59 yX11_undo, Cond.instanceMethod yX11_undo, Cond.selects RX11 yX11_undo yX11_undo, Cond.code yX11_undo cX11_undo 1 (some .int), Cond.methodLink RL 60 yX10_behind, Cond.instanceMethod yX10_behind]
def wsL_law_r30 : List Cond := [Cond.selects RX10 yX10_behind yX10_behind, Cond.code yX10_behind cX10_behind 3 (some .int), Cond.methodLink RX10 212 yX3_knownBehind, Cond.instanceMethod yX3_knownBehind, Cond.selects RX3 yX3_knownBehind yX3_knownBehind, Cond.code yX3_knownBehind cX3_knownBehind 5 (some .int), Cond.methodLink RX3 23 yX4_newsTold, Cond.methodLink RX3 29 yX1_pick, Cond.methodLink RX3 35 yX1_hears, Cond.instanceMethod yX1_hears, Cond.selects RX1 yX1_hears yX1_hears, Cond.code yX1_hears cX1_hears 3 (some .boolean), Cond.methodLink RX1 105 yX1_along, Cond.methodLink RL 63 yX11_behind, Cond.instanceMethod yX11_behind, Cond.selects RX11 yX11_behind yX11_behind, Cond.code yX11_behind cX11_behind 3 (some .int), Cond.methodLink RL 64 yX10_when, Cond.instanceMethod yX10_when, Cond.selects RX10 yX10_when yX10_when, Cond.code yX10_when cX10_when 3 (some .int), Cond.methodLink RX10 216 yX3_firstHeard, Cond.instanceMethod yX3_firstHeard, Cond.selects RX3 yX3_firstHeard yX3_firstHeard]
def wsL_law_r31 : List Cond := [Cond.code yX3_firstHeard cX3_firstHeard 5 (some .int), Cond.methodLink RX3 43 yX1_whoKnows, Cond.methodLink RX3 49 yX1_along, Cond.methodLink RL 67 yX11_when, Cond.instanceMethod yX11_when, Cond.selects RX11 yX11_when yX11_when, Cond.code yX11_when cX11_when 3 (some .int), Cond.methodLink RX11 206 yX11_asItIsOf, Cond.instanceMethod yX11_asItIsOf, Cond.selects RX11 yX11_asItIsOf yX11_asItIsOf, Cond.code yX11_asItIsOf cX11_asItIsOf 2 none, Cond.methodLink RX11 209 yX11_knowsBehind, Cond.instanceMethod yX11_knowsBehind, Cond.selects RX11 yX11_knowsBehind yX11_knowsBehind, Cond.code yX11_knowsBehind cX11_knowsBehind 4 (some .int), Cond.methodLink RL 68 yX10_last, Cond.instanceMethod yX10_last, Cond.selects RX10 yX10_last yX10_last, Cond.code yX10_last cX10_last 4 (some .int), Cond.methodLink RX10 219 yX3_latestHouse, Cond.instanceMethod yX3_latestHouse, Cond.selects RX3 yX3_latestHouse yX3_latestHouse, Cond.code yX3_latestHouse cX3_latestHouse 6 (some .int), Cond.methodLink RX3 53 yX4_houses]
def wsL_law_r32 : List Cond := [Cond.methodLink RX3 56 yX3_firstHeard, Cond.methodLink RL 71 yX11_last, Cond.instanceMethod yX11_last, Cond.selects RX11 yX11_last yX11_last, Cond.code yX11_last cX11_last 8 (some .int), Cond.methodLink RL 72 yX10_cut, Cond.instanceMethod yX10_cut, Cond.selects RX10 yX10_cut yX10_cut, Cond.code yX10_cut cX10_cut 5 (some .int), Cond.methodLink RX10 222 yX3_fewestStuffed, Cond.instanceMethod yX3_fewestStuffed, Cond.selects RX3 yX3_fewestStuffed yX3_fewestStuffed, Cond.code yX3_fewestStuffed cX3_fewestStuffed 7 (some .int), Cond.methodLink RX3 60 yX9_whoKnows, Cond.methodLink RX3 64 yX4_allHouses, Cond.instanceMethod yX4_allHouses, Cond.selects RX4 yX4_allHouses yX4_allHouses, Cond.code yX4_allHouses cX4_allHouses 1 (some .int), Cond.methodLink RX3 67 yJ6_bitCount_0f7a4, Cond.methodLink RX3 72 yX1_stuff, Cond.instanceMethod yX1_stuff, Cond.selects RX1 yX1_stuff yX1_stuff, Cond.code yX1_stuff cX1_stuff 3 none, Cond.methodLink RL 76 yX11_cut]
def wsL_law_r33 : List Cond := [Cond.instanceMethod yX11_cut, Cond.selects RX11 yX11_cut yX11_cut, Cond.code yX11_cut cX11_cut 6 (some .int), Cond.methodLink RX11 212 yX11_isCutBy, Cond.instanceMethod yX11_isCutBy, Cond.selects RX11 yX11_isCutBy yX11_isCutBy, Cond.code yX11_isCutBy cX11_isCutBy 5 (some .boolean), Cond.methodLink RL 77 yX10_openings, Cond.instanceMethod yX10_openings, Cond.selects RX10 yX10_openings yX10_openings, Cond.code yX10_openings cX10_openings 6 (some .int), Cond.methodLink RX10 225 yX4_hasHouses, Cond.instanceMethod yX4_hasHouses, Cond.selects RX4 yX4_hasHouses yX4_hasHouses, Cond.code yX4_hasHouses cX4_hasHouses 2 (some .boolean), Cond.methodLink RX4 97 yX4_allHouses, Cond.methodLink RX10 228 yX2_pose, Cond.instanceMethod yX2_pose, Cond.selects RX2 yX2_pose yX2_pose, Cond.code yX2_pose cX2_pose 5 none, Cond.methodLink RX2 42 yX2_found, Cond.instanceMethod yX2_found, Cond.selects RX2 yX2_found yX2_found, Cond.code yX2_found cX2_found 4 none]
def wsL_law_r34 : List Cond := [Cond.methodLink RX2 46 yX1_pick, Cond.methodLink RX10 232 yX2_isFoundByNone, Cond.instanceMethod yX2_isFoundByNone, Cond.selects RX2 yX2_isFoundByNone yX2_isFoundByNone, Cond.code yX2_isFoundByNone cX2_isFoundByNone 1 (some .boolean), Cond.methodLink RX2 52 yX1_whoKnows, Cond.methodLink RX2 56 yX1_along, Cond.methodLink RX2 60 yX2_isSo, Cond.instanceMethod yX2_isSo, Cond.selects RX2 yX2_isSo yX2_isSo, Cond.code yX2_isSo cX2_isSo 2 (some .boolean), Cond.methodLink RX10 235 yX2_isFoundByOne, Cond.instanceMethod yX2_isFoundByOne, Cond.selects RX2 yX2_isFoundByOne yX2_isFoundByOne, Cond.code yX2_isFoundByOne cX2_isFoundByOne 3 (some .boolean), Cond.methodLink RX2 64 yX4_houses, Cond.methodLink RX2 69 yX2_fittingWidth, Cond.instanceMethod yX2_fittingWidth, Cond.selects RX2 yX2_fittingWidth yX2_fittingWidth, Cond.code yX2_fittingWidth cX2_fittingWidth 4 (some .int), Cond.methodLink RX2 73 yX1_isAnother, Cond.instanceMethod yX1_isAnother, Cond.selects RX1 yX1_isAnother yX1_isAnother, Cond.code yX1_isAnother cX1_isAnother 3 (some .boolean)]
def wsL_law_r35 : List Cond := [Cond.methodLink RX2 77 yX1_reopen, Cond.methodLink RX2 84 yX9_sashOf, Cond.methodLink RX10 238 yX2_findByTwo, Cond.instanceMethod yX2_findByTwo, Cond.selects RX2 yX2_findByTwo yX2_findByTwo, Cond.code yX2_findByTwo cX2_findByTwo 3 none, Cond.methodLink RX2 81 yX2_isFoundWith, Cond.instanceMethod yX2_isFoundWith, Cond.selects RX2 yX2_isFoundWith yX2_isFoundWith, Cond.code yX2_isFoundWith cX2_isFoundWith 5 (some .boolean), Cond.methodLink RX10 241 yX2_answer, Cond.instanceMethod yX2_answer, Cond.selects RX2 yX2_answer yX2_answer, Cond.code yX2_answer cX2_answer 2 (some .int), Cond.methodLink RL 81 yX11_openings, Cond.instanceMethod yX11_openings, Cond.selects RX11 yX11_openings yX11_openings, Cond.code yX11_openings cX11_openings 8 (some .int), Cond.fieldLink RX11 215 "NewsDraughtsModel" "one" "I", Cond.fieldLink RX11 218 "NewsDraughtsModel" "other" "I", Cond.methodLink RX11 225 yX11_findWay, Cond.instanceMethod yX11_findWay, Cond.selects RX11 yX11_findWay yX11_findWay, Cond.code yX11_findWay cX11_findWay 10 (some .boolean)]
def wsL_law_r36 : List Cond := [Cond.methodLink RX11 221 yX11_isSoBy, Cond.instanceMethod yX11_isSoBy, Cond.selects RX11 yX11_isSoBy yX11_isSoBy, Cond.code yX11_isSoBy cX11_isSoBy 5 (some .boolean), Cond.methodLink RL 82 yX10_bears, Cond.instanceMethod yX10_bears, Cond.selects RX10 yX10_bears yX10_bears, Cond.code yX10_bears cX10_bears 3 (some .int), Cond.methodLink RX10 244 yX3_widestBorne, Cond.instanceMethod yX3_widestBorne, Cond.selects RX3 yX3_widestBorne yX3_widestBorne, Cond.code yX3_widestBorne cX3_widestBorne 4 (some .int), Cond.methodLink RX3 75 yX3_burden, Cond.instanceMethod yX3_burden, Cond.selects RX3 yX3_burden yX3_burden, Cond.code yX3_burden cX3_burden 5 (some .int), Cond.methodLink RX3 78 yX1_reopen, Cond.methodLink RX3 82 yX4_weightOf, Cond.methodLink RL 85 yX11_bears, Cond.instanceMethod yX11_bears, Cond.selects RX11 yX11_bears yX11_bears, Cond.code yX11_bears cX11_bears 4 (some .int), Cond.methodLink RX11 229 yX11_heavy, Cond.instanceMethod yX11_heavy]
def wsL_law_r37 : List Cond := [Cond.selects RX11 yX11_heavy yX11_heavy, Cond.code yX11_heavy cX11_heavy 4 (some .int), Cond.methodLink RL 86 yX10_quarrel, Cond.instanceMethod yX10_quarrel, Cond.selects RX10 yX10_quarrel yX10_quarrel, Cond.code yX10_quarrel cX10_quarrel 6 (some .int), Cond.methodLink RX10 247 yX3_bestToOpen, Cond.instanceMethod yX3_bestToOpen, Cond.selects RX3 yX3_bestToOpen yX3_bestToOpen, Cond.code yX3_bestToOpen cX3_bestToOpen 5 (some .int), Cond.methodLink RX3 85 yX3_hearsInSpite, Cond.instanceMethod yX3_hearsInSpite, Cond.selects RX3 yX3_hearsInSpite yX3_hearsInSpite, Cond.code yX3_hearsInSpite cX3_hearsInSpite 8 (some .boolean), Cond.methodLink RX3 96 Lib.Math.min.name, Cond.static Lib.Math.min.name, Cond.initialized "java/lang/Math", Cond.code Lib.Math.min.name Lib.Math.min.code 2 (some .int), Cond.methodLink RX3 102 Lib.Math.max.name, Cond.static Lib.Math.max.name, Cond.code Lib.Math.max.name Lib.Math.max.code 2 (some .int), Cond.methodLink RX3 89 yX4_hasHouse, Cond.methodLink RX3 93 yX9_sashOf, Cond.methodLink RX3 101 yX1_sashOf]
def wsL_law_r38 : List Cond := [Cond.instanceMethod yX1_sashOf, Cond.selects RX1 yX1_sashOf yX1_sashOf, Cond.code yX1_sashOf cX1_sashOf 2 (some .int), Cond.methodLink RX10 250 yX3_hearsInSpite, Cond.methodLink RL 90 yX11_quarrel, Cond.instanceMethod yX11_quarrel, Cond.selects RX11 yX11_quarrel yX11_quarrel, Cond.code yX11_quarrel cX11_quarrel 7 (some .int), Cond.methodLink RX11 235 yX11_isWon, Cond.instanceMethod yX11_isWon, Cond.selects RX11 yX11_isWon yX11_isWon, Cond.code yX11_isWon cX11_isWon 7 (some .boolean), Cond.methodLink RX11 232 yX11_knowsBy, Cond.instanceMethod yX11_knowsBy, Cond.selects RX11 yX11_knowsBy yX11_knowsBy, Cond.code yX11_knowsBy cX11_knowsBy 6 (some .boolean), Cond.methodLink RL 91 yX10_see, Cond.instanceMethod yX10_see, Cond.selects RX10 yX10_see yX10_see, Cond.code yX10_see cX10_see 5 (some .int), Cond.methodLink RX10 254 yX8_add, Cond.instanceMethod yX8_add, Cond.selects RX8 yX8_add yX8_add, Cond.code yX8_add cX8_add 5 (some .boolean)]
def wsL_law_r39 : List Cond := [Cond.methodLink RX10 257 yX8_size, Cond.instanceMethod yX8_size, Cond.selects RX8 yX8_size yX8_size, Cond.code yX8_size cX8_size 1 (some .int), Cond.methodLink RL 95 yX11_see, Cond.instanceMethod yX11_see, Cond.selects RX11 yX11_see yX11_see, Cond.code yX11_see cX11_see 5 (some .int), Cond.methodLink RL 96 yX10_forget, Cond.instanceMethod yX10_forget, Cond.selects RX10 yX10_forget yX10_forget, Cond.code yX10_forget cX10_forget 2 (some .int), Cond.methodLink RL 99 yX11_forget, Cond.instanceMethod yX11_forget, Cond.selects RX11 yX11_forget yX11_forget, Cond.code yX11_forget cX11_forget 2 (some .int), Cond.methodLink RL 100 yX10_began, Cond.instanceMethod yX10_began, Cond.selects RX10 yX10_began yX10_began, Cond.code yX10_began cX10_began 2 (some .int), Cond.methodLink RX10 259 yX8_beginnings, Cond.instanceMethod yX8_beginnings, Cond.selects RX8 yX8_beginnings yX8_beginnings, Cond.code yX8_beginnings cX8_beginnings 4 (some .int)]
def wsL_law_r40 : List Cond := [Cond.methodLink RX8 40 yX4_houses, Cond.methodLink RX8 45 yX8_allSoFrom, Cond.instanceMethod yX8_allSoFrom, Cond.selects RX8 yX8_allSoFrom yX8_allSoFrom, Cond.code yX8_allSoFrom cX8_allSoFrom 4 (some .boolean), Cond.methodLink RX8 53 yX1_pick, Cond.methodLink RX8 63 yX1_along, Cond.methodLink RX8 67 yX8_isSo, Cond.instanceMethod yX8_isSo, Cond.selects RX8 yX8_isSo yX8_isSo, Cond.code yX8_isSo cX8_isSo 3 (some .boolean), Cond.methodLink RL 103 yX11_began, Cond.instanceMethod yX11_began, Cond.selects RX11 yX11_began yX11_began, Cond.code yX11_began cX11_began 4 (some .int), Cond.methodLink RX11 241 yX11_isSoAll, Cond.instanceMethod yX11_isSoAll, Cond.selects RX11 yX11_isSoAll yX11_isSoAll, Cond.code yX11_isSoAll cX11_isSoAll 5 (some .boolean), Cond.methodLink RX11 238 yX11_isSo, Cond.instanceMethod yX11_isSo, Cond.selects RX11 yX11_isSo yX11_isSo, Cond.code yX11_isSo cX11_isSo 5 (some .boolean), Cond.methodLink RL 104 yX10_blew]
def wsL_law_r41 : List Cond := [Cond.instanceMethod yX10_blew, Cond.selects RX10 yX10_blew yX10_blew, Cond.code yX10_blew cX10_blew 1 (some .int), Cond.methodLink RX10 262 yX8_nextWinds, Cond.instanceMethod yX8_nextWinds, Cond.selects RX8 yX8_nextWinds yX8_nextWinds, Cond.code yX8_nextWinds cX8_nextWinds 3 (some .int), Cond.methodLink RX8 70 yX8_allSoBy, Cond.instanceMethod yX8_allSoBy, Cond.selects RX8 yX8_allSoBy yX8_allSoBy, Cond.code yX8_allSoBy cX8_allSoBy 4 (some .boolean), Cond.methodLink RX8 74 yX1_whoKnows, Cond.methodLink RX8 77 yX1_onward, Cond.methodLink RL 107 yX11_blew, Cond.instanceMethod yX11_blew, Cond.selects RX11 yX11_blew yX11_blew, Cond.code yX11_blew cX11_blew 3 (some .int), Cond.methodLink RL 108 yX10_gusts, Cond.instanceMethod yX10_gusts, Cond.selects RX10 yX10_gusts yX10_gusts, Cond.code yX10_gusts cX10_gusts 5 (some .int), Cond.methodLink RX10 265 yX0_gustsThatReach, Cond.instanceMethod yX0_gustsThatReach, Cond.selects RX0 yX0_gustsThatReach yX0_gustsThatReach]
def wsL_law_r42 : List Cond := [Cond.code yX0_gustsThatReach cX0_gustsThatReach 8 (some .int), Cond.methodLink RX0 26 yX1_pick, Cond.methodLink RX0 32 yX0_waysOf, Cond.static yX0_waysOf, Cond.code yX0_waysOf cX0_waysOf 1 (some .int), Cond.methodLink RX0 36 yX1_whoKnows, Cond.methodLink RX0 40 yX1_onward, Cond.methodLink RX10 268 yX0_inLowestTerms, Cond.instanceMethod yX0_inLowestTerms, Cond.selects RX0 yX0_inLowestTerms yX0_inLowestTerms, Cond.code yX0_inLowestTerms cX0_inLowestTerms 7 (some .int), Cond.methodLink RL 111 yX11_gusts, Cond.instanceMethod yX11_gusts, Cond.selects RX11 yX11_gusts yX11_gusts, Cond.code yX11_gusts cX11_gusts 10 (some .int), Cond.methodLink RL 112 yX10_year, Cond.instanceMethod yX10_year, Cond.selects RX10 yX10_year yX10_year, Cond.code yX10_year cX10_year 4 (some .int), Cond.methodLink RX10 271 yX0_runYear, Cond.instanceMethod yX0_runYear, Cond.selects RX0 yX0_runYear yX0_runYear, Cond.code yX0_runYear cX0_runYear 7 none, Cond.methodLink RX0 48 yX4_newsTold]
def wsL_law_r43 : List Cond := [Cond.methodLink RX0 53 yX0_draw, Cond.static yX0_draw, Cond.code yX0_draw cX0_draw 4 (some .int), Cond.constantLong RX0 75 (7919), Cond.constantLong RX0 77 (6151), Cond.constantLong RX0 79 (65521), Cond.constantLong RX0 81 (2), Cond.methodLink RX0 56 yX0_openByDraw, Cond.instanceMethod yX0_openByDraw, Cond.selects RX0 yX0_openByDraw yX0_openByDraw, Cond.code yX0_openByDraw cX0_openByDraw 3 none, Cond.methodLink RX0 68 yX4_houses, Cond.methodLink RX0 71 yX1_reopen, Cond.methodLink RX0 59 yX1_along, Cond.methodLink RX0 63 yJ6_bitCount_0f7a4, Cond.methodLink RX10 274 yX0_housesThatKnow, Cond.instanceMethod yX0_housesThatKnow, Cond.selects RX0 yX0_housesThatKnow yX0_housesThatKnow, Cond.code yX0_housesThatKnow cX0_housesThatKnow 1 (some .int), Cond.methodLink RX10 277 yX0_timesHeard, Cond.instanceMethod yX0_timesHeard, Cond.selects RX0 yX0_timesHeard yX0_timesHeard, Cond.code yX0_timesHeard cX0_timesHeard 1 (some .int), Cond.methodLink RL 115 yX11_year]
def wsL_law_r44 : List Cond := [Cond.instanceMethod yX11_year, Cond.selects RX11 yX11_year yX11_year, Cond.code yX11_year cX11_year 9 (some .int), Cond.constantLong RX11 247 (7919), Cond.constantLong RX11 249 (6151), Cond.constantLong RX11 251 (65521), Cond.constantLong RX11 253 (2), Cond.methodLink RX11 244 yX11_allKnown, Cond.instanceMethod yX11_allKnown, Cond.selects RX11 yX11_allKnown yX11_allKnown, Cond.code yX11_allKnown cX11_allKnown 3 (some .int), Cond.methodLink RX11 255 yX11_knowers, Cond.instanceMethod yX11_knowers, Cond.selects RX11 yX11_knowers yX11_knowers, Cond.code yX11_knowers cX11_knowers 3 (some .int), Cond.methodLink RL 116 yX10_keep, Cond.instanceMethod yX10_keep, Cond.selects RX10 yX10_keep yX10_keep, Cond.code yX10_keep cX10_keep 1 (some .int), Cond.methodLink RX10 280 yX5_isFull, Cond.methodLink RL 119 yX11_keep, Cond.instanceMethod yX11_keep, Cond.selects RX11 yX11_keep yX11_keep, Cond.code yX11_keep cX11_keep 1 (some .int)]
def wsL_law_r45 : List Cond := [Cond.methodLink RL 120 yX10_back, Cond.instanceMethod yX10_back, Cond.selects RX10 yX10_back yX10_back, Cond.code yX10_back cX10_back 1 (some .int), Cond.methodLink RL 123 yX11_back, Cond.instanceMethod yX11_back, Cond.selects RX11 yX11_back yX11_back, Cond.code yX11_back cX11_back 1 (some .int), Cond.methodLink RL 124 yX10_count, Cond.instanceMethod yX10_count, Cond.selects RX10 yX10_count yX10_count, Cond.code yX10_count cX10_count 2 (some .int), Cond.methodLink RX10 284 yX4_rows, Cond.instanceMethod yX4_rows, Cond.selects RX4 yX4_rows yX4_rows, Cond.code yX4_rows cX4_rows 1 (some .int), Cond.methodLink RX10 287 yX4_windsInTurn, Cond.methodLink RX10 290 yX9_whoKnowsAny, Cond.instanceMethod yX9_whoKnowsAny, Cond.selects RX9 yX9_whoKnowsAny yX9_whoKnowsAny, Cond.code yX9_whoKnowsAny cX9_whoKnowsAny 3 (some .int), Cond.methodLink RL 127 yX11_count, Cond.instanceMethod yX11_count, Cond.selects RX11 yX11_count yX11_count]
def wsL_law_r46 : List Cond := [Cond.code yX11_count cX11_count 2 (some .int)]
def wsL_law : List Cond := (wsL_law_r1 ++ (wsL_law_r2 ++ (wsL_law_r3 ++ (wsL_law_r4 ++ (wsL_law_r5 ++ (wsL_law_r6 ++ (wsL_law_r7 ++ (wsL_law_r8 ++ (wsL_law_r9 ++ (wsL_law_r10 ++ (wsL_law_r11 ++ (wsL_law_r12 ++ (wsL_law_r13 ++ (wsL_law_r14 ++ (wsL_law_r15 ++ (wsL_law_r16 ++ (wsL_law_r17 ++ (wsL_law_r18 ++ (wsL_law_r19 ++ (wsL_law_r20 ++ (wsL_law_r21 ++ (wsL_law_r22 ++ (wsL_law_r23 ++ (wsL_law_r24 ++ (wsL_law_r25 ++ (wsL_law_r26 ++ (wsL_law_r27 ++ (wsL_law_r28 ++ (wsL_law_r29 ++ (wsL_law_r30 ++ (wsL_law_r31 ++ (wsL_law_r32 ++ (wsL_law_r33 ++ (wsL_law_r34 ++ (wsL_law_r35 ++ (wsL_law_r36 ++ (wsL_law_r37 ++ (wsL_law_r38 ++ (wsL_law_r39 ++ (wsL_law_r40 ++ (wsL_law_r41 ++ (wsL_law_r42 ++ (wsL_law_r43 ++ (wsL_law_r44 ++ (wsL_law_r45 ++ wsL_law_r46))))))))))))))))))))))))))))))))))))))))))))) ++ wsX100 ++ wsX110 ++ wsX70 ++ wsX60 ++ wsX40 ++ wsX90 ++ wsX50 ++ wsX10 ++ wsX30 ++ wsX20 ++ wsX00 ++ wsX80 ++ ([] : List Cond)
set_option maxRecDepth 20000 in
theorem wsL_law_r1_in : ∀ w ∈ wsL_law_r1, w ∈ lw_tbl := fun w h => (goodIn_p wsL_law_r1 [79, 82] (by decide +kernel) (by decide +kernel) w h).1
set_option maxRecDepth 20000 in
theorem wsL_law_r2_in : ∀ w ∈ wsL_law_r2, w ∈ lw_tbl := fun w h => (goodIn_p wsL_law_r2 [] (by decide +kernel) (by decide +kernel) w h).1
set_option maxRecDepth 20000 in
theorem wsL_law_r3_in : ∀ w ∈ wsL_law_r3, w ∈ lw_tbl := fun w h => (goodIn_p wsL_law_r3 [87, 101, 117] (by decide +kernel) (by decide +kernel) w h).1
set_option maxRecDepth 20000 in
theorem wsL_law_r4_in : ∀ w ∈ wsL_law_r4, w ∈ lw_tbl := fun w h => (goodIn_p wsL_law_r4 [163, 179] (by decide +kernel) (by decide +kernel) w h).1
set_option maxRecDepth 20000 in
theorem wsL_law_r5_in : ∀ w ∈ wsL_law_r5, w ∈ lw_tbl := fun w h => (goodIn_p wsL_law_r5 [198, 241] (by decide +kernel) (by decide +kernel) w h).1
set_option maxRecDepth 20000 in
theorem wsL_law_r6_in : ∀ w ∈ wsL_law_r6, w ∈ lw_tbl := fun w h => (goodIn_p wsL_law_r6 [257, 291, 310] (by decide +kernel) (by decide +kernel) w h).1
set_option maxRecDepth 20000 in
theorem wsL_law_r7_in : ∀ w ∈ wsL_law_r7, w ∈ lw_tbl := fun w h => (goodIn_p wsL_law_r7 [338, 342, 348] (by decide +kernel) (by decide +kernel) w h).1
set_option maxRecDepth 20000 in
theorem wsL_law_r8_in : ∀ w ∈ wsL_law_r8, w ∈ lw_tbl := fun w h => (goodIn_p wsL_law_r8 [352, 355, 358, 363, 366, 369] (by decide +kernel) (by decide +kernel) w h).1
set_option maxRecDepth 20000 in
theorem wsL_law_r9_in : ∀ w ∈ wsL_law_r9, w ∈ lw_tbl := fun w h => (goodIn_p wsL_law_r9 [372, 376, 386, 389, 393, 397] (by decide +kernel) (by decide +kernel) w h).1
set_option maxRecDepth 20000 in
theorem wsL_law_r10_in : ∀ w ∈ wsL_law_r10, w ∈ lw_tbl := fun w h => (goodIn_p wsL_law_r10 [401, 404, 408, 411, 414, 418, 422] (by decide +kernel) (by decide +kernel) w h).1
set_option maxRecDepth 20000 in
theorem wsL_law_r11_in : ∀ w ∈ wsL_law_r11, w ∈ lw_tbl := fun w h => (goodIn_p wsL_law_r11 [426, 430, 433, 436, 442, 447, 451] (by decide +kernel) (by decide +kernel) w h).1
set_option maxRecDepth 20000 in
theorem wsL_law_r12_in : ∀ w ∈ wsL_law_r12, w ∈ lw_tbl := fun w h => (goodIn_p wsL_law_r12 [455, 458, 464, 468, 472, 476] (by decide +kernel) (by decide +kernel) w h).1
set_option maxRecDepth 20000 in
theorem wsL_law_r13_in : ∀ w ∈ wsL_law_r13, w ∈ lw_tbl := fun w h => (goodIn_p wsL_law_r13 [480, 485, 489, 494, 498, 502, 1016] (by decide +kernel) (by decide +kernel) w h).1
set_option maxRecDepth 20000 in
theorem wsL_law_r14_in : ∀ w ∈ wsL_law_r14, w ∈ lw_tbl := fun w h => (goodIn_p wsL_law_r14 [1021] (by decide +kernel) (by decide +kernel) w h).1
set_option maxRecDepth 20000 in
theorem wsL_law_r15_in : ∀ w ∈ wsL_law_r15, w ∈ lw_tbl := fun w h => (goodIn_p wsL_law_r15 [1025, 1029, 1033, 1036] (by decide +kernel) (by decide +kernel) w h).1
set_option maxRecDepth 20000 in
theorem wsL_law_r16_in : ∀ w ∈ wsL_law_r16, w ∈ lw_tbl := fun w h => (goodIn_p wsL_law_r16 [544, 1137, 1140, 549, 1144, 553] (by decide +kernel) (by decide +kernel) w h).1
set_option maxRecDepth 20000 in
theorem wsL_law_r17_in : ∀ w ∈ wsL_law_r17, w ∈ lw_tbl := fun w h => (goodIn_p wsL_law_r17 [1148, 1152, 1156, 1160, 1164, 1167] (by decide +kernel) (by decide +kernel) w h).1
set_option maxRecDepth 20000 in
theorem wsL_law_r18_in : ∀ w ∈ wsL_law_r18, w ∈ lw_tbl := fun w h => (goodIn_p wsL_law_r18 [1171, 1175, 1179, 1183, 1187, 557] (by decide +kernel) (by decide +kernel) w h).1
set_option maxRecDepth 20000 in
theorem wsL_law_r19_in : ∀ w ∈ wsL_law_r19, w ∈ lw_tbl := fun w h => (goodIn_p wsL_law_r19 [1191, 562, 567, 571, 576] (by decide +kernel) (by decide +kernel) w h).1
set_option maxRecDepth 20000 in
theorem wsL_law_r20_in : ∀ w ∈ wsL_law_r20, w ∈ lw_tbl := fun w h => (goodIn_p wsL_law_r20 [580, 583, 1196, 1200, 1204, 1208] (by decide +kernel) (by decide +kernel) w h).1
set_option maxRecDepth 20000 in
theorem wsL_law_r21_in : ∀ w ∈ wsL_law_r21, w ∈ lw_tbl := fun w h => (goodIn_p wsL_law_r21 [1211, 588, 593, 597, 602] (by decide +kernel) (by decide +kernel) w h).1
set_option maxRecDepth 20000 in
theorem wsL_law_r22_in : ∀ w ∈ wsL_law_r22, w ∈ lw_tbl := fun w h => (goodIn_p wsL_law_r22 [1215, 1219, 1222, 609, 613, 617] (by decide +kernel) (by decide +kernel) w h).1
set_option maxRecDepth 20000 in
theorem wsL_law_r23_in : ∀ w ∈ wsL_law_r23, w ∈ lw_tbl := fun w h => (goodIn_p wsL_law_r23 [621, 624, 1226, 1230, 628, 632] (by decide +kernel) (by decide +kernel) w h).1
set_option maxRecDepth 20000 in
theorem wsL_law_r24_in : ∀ w ∈ wsL_law_r24, w ∈ lw_tbl := fun w h => (goodIn_p wsL_law_r24 [636, 641, 644, 649, 653] (by decide +kernel) (by decide +kernel) w h).1
set_option maxRecDepth 20000 in
theorem wsL_law_r25_in : ∀ w ∈ wsL_law_r25, w ∈ lw_tbl := fun w h => (goodIn_p wsL_law_r25 [659, 663, 667, 677, 681] (by decide +kernel) (by decide +kernel) w h).1
set_option maxRecDepth 20000 in
theorem wsL_law_r26_in : ∀ w ∈ wsL_law_r26, w ∈ lw_tbl := fun w h => (goodIn_p wsL_law_r26 [686, 690, 694, 701, 705, 709] (by decide +kernel) (by decide +kernel) w h).1
set_option maxRecDepth 20000 in
theorem wsL_law_r27_in : ∀ w ∈ wsL_law_r27, w ∈ lw_tbl := fun w h => (goodIn_p wsL_law_r27 [1234, 1238, 1242, 1246, 1250, 1254] (by decide +kernel) (by decide +kernel) w h).1
set_option maxRecDepth 20000 in
theorem wsL_law_r28_in : ∀ w ∈ wsL_law_r28, w ∈ lw_tbl := fun w h => (goodIn_p wsL_law_r28 [1258, 1262, 713, 718, 1266] (by decide +kernel) (by decide +kernel) w h).1
set_option maxRecDepth 20000 in
theorem wsL_law_r29_in : ∀ w ∈ wsL_law_r29, w ∈ lw_tbl := fun w h => (goodIn_p wsL_law_r29 [722, 1270, 727, 731, 735, 1274] (by decide +kernel) (by decide +kernel) w h).1
set_option maxRecDepth 20000 in
theorem wsL_law_r30_in : ∀ w ∈ wsL_law_r30, w ∈ lw_tbl := fun w h => (goodIn_p wsL_law_r30 [739, 743, 749, 1278, 756] (by decide +kernel) (by decide +kernel) w h).1
set_option maxRecDepth 20000 in
theorem wsL_law_r31_in : ∀ w ∈ wsL_law_r31, w ∈ lw_tbl := fun w h => (goodIn_p wsL_law_r31 [760, 1282, 1286, 1290, 767, 771] (by decide +kernel) (by decide +kernel) w h).1
set_option maxRecDepth 20000 in
theorem wsL_law_r32_in : ∀ w ∈ wsL_law_r32, w ∈ lw_tbl := fun w h => (goodIn_p wsL_law_r32 [1294, 777, 781, 786, 791] (by decide +kernel) (by decide +kernel) w h).1
set_option maxRecDepth 20000 in
theorem wsL_law_r33_in : ∀ w ∈ wsL_law_r33, w ∈ lw_tbl := fun w h => (goodIn_p wsL_law_r33 [1298, 1302, 795, 799, 804, 808] (by decide +kernel) (by decide +kernel) w h).1
set_option maxRecDepth 20000 in
theorem wsL_law_r34_in : ∀ w ∈ wsL_law_r34, w ∈ lw_tbl := fun w h => (goodIn_p wsL_law_r34 [813, 819, 823, 828, 832] (by decide +kernel) (by decide +kernel) w h).1
set_option maxRecDepth 20000 in
theorem wsL_law_r35_in : ∀ w ∈ wsL_law_r35, w ∈ lw_tbl := fun w h => (goodIn_p wsL_law_r35 [838, 842, 846, 1306, 1310] (by decide +kernel) (by decide +kernel) w h).1
set_option maxRecDepth 20000 in
theorem wsL_law_r36_in : ∀ w ∈ wsL_law_r36, w ∈ lw_tbl := fun w h => (goodIn_p wsL_law_r36 [1314, 850, 854, 858, 1318] (by decide +kernel) (by decide +kernel) w h).1
set_option maxRecDepth 20000 in
theorem wsL_law_r37_in : ∀ w ∈ wsL_law_r37, w ∈ lw_tbl := fun w h => (goodIn_p wsL_law_r37 [1322, 864, 868, 872, 877, 884] (by decide +kernel) (by decide +kernel) w h).1
set_option maxRecDepth 20000 in
theorem wsL_law_r38_in : ∀ w ∈ wsL_law_r38, w ∈ lw_tbl := fun w h => (goodIn_p wsL_law_r38 [881, 1326, 1330, 1334, 889, 893] (by decide +kernel) (by decide +kernel) w h).1
set_option maxRecDepth 20000 in
theorem wsL_law_r39_in : ∀ w ∈ wsL_law_r39, w ∈ lw_tbl := fun w h => (goodIn_p wsL_law_r39 [898, 1338, 902, 1342, 906, 910] (by decide +kernel) (by decide +kernel) w h).1
set_option maxRecDepth 20000 in
theorem wsL_law_r40_in : ∀ w ∈ wsL_law_r40, w ∈ lw_tbl := fun w h => (goodIn_p wsL_law_r40 [915, 923, 1346, 1350, 1354] (by decide +kernel) (by decide +kernel) w h).1
set_option maxRecDepth 20000 in
theorem wsL_law_r41_in : ∀ w ∈ wsL_law_r41, w ∈ lw_tbl := fun w h => (goodIn_p wsL_law_r41 [928, 932, 936, 1358, 942] (by decide +kernel) (by decide +kernel) w h).1
set_option maxRecDepth 20000 in
theorem wsL_law_r42_in : ∀ w ∈ wsL_law_r42, w ∈ lw_tbl := fun w h => (goodIn_p wsL_law_r42 [946, 950, 957, 1362, 961, 965] (by decide +kernel) (by decide +kernel) w h).1
set_option maxRecDepth 20000 in
theorem wsL_law_r43_in : ∀ w ∈ wsL_law_r43, w ∈ lw_tbl := fun w h => (goodIn_p wsL_law_r43 [969, 977, 985, 989] (by decide +kernel) (by decide +kernel) w h).1
set_option maxRecDepth 20000 in
theorem wsL_law_r44_in : ∀ w ∈ wsL_law_r44, w ∈ lw_tbl := fun w h => (goodIn_p wsL_law_r44 [1366, 1370, 1378, 993, 1382] (by decide +kernel) (by decide +kernel) w h).1
set_option maxRecDepth 20000 in
theorem wsL_law_r45_in : ∀ w ∈ wsL_law_r45, w ∈ lw_tbl := fun w h => (goodIn_p wsL_law_r45 [998, 1386, 1002, 1006, 1011] (by decide +kernel) (by decide +kernel) w h).1
set_option maxRecDepth 20000 in
theorem wsL_law_r46_in : ∀ w ∈ wsL_law_r46, w ∈ lw_tbl := fun w h => (goodIn_p wsL_law_r46 [1390] (by decide +kernel) (by decide +kernel) w h).1
set_option maxRecDepth 20000 in
theorem wsX100_inT : ∀ w ∈ wsX100, w ∈ lw_tbl := fun w h => (goodIn_p wsX100 [] (by decide +kernel) (by decide +kernel) w h).1
set_option maxRecDepth 20000 in
theorem wsX110_inT : ∀ w ∈ wsX110, w ∈ lw_tbl := fun w h => (goodIn_p wsX110 [] (by decide +kernel) (by decide +kernel) w h).1
set_option maxRecDepth 20000 in
theorem wsX70_inT : ∀ w ∈ wsX70, w ∈ lw_tbl := fun w h => (goodIn_p wsX70 [] (by decide +kernel) (by decide +kernel) w h).1
set_option maxRecDepth 20000 in
theorem wsX60_inT : ∀ w ∈ wsX60, w ∈ lw_tbl := fun w h => (goodIn_p wsX60 [] (by decide +kernel) (by decide +kernel) w h).1
set_option maxRecDepth 20000 in
theorem wsX40_inT : ∀ w ∈ wsX40, w ∈ lw_tbl := fun w h => (goodIn_p wsX40 [] (by decide +kernel) (by decide +kernel) w h).1
set_option maxRecDepth 20000 in
theorem wsX90_inT : ∀ w ∈ wsX90, w ∈ lw_tbl := fun w h => (goodIn_p wsX90 [] (by decide +kernel) (by decide +kernel) w h).1
set_option maxRecDepth 20000 in
theorem wsX50_inT : ∀ w ∈ wsX50, w ∈ lw_tbl := fun w h => (goodIn_p wsX50 [] (by decide +kernel) (by decide +kernel) w h).1
set_option maxRecDepth 20000 in
theorem wsX10_inT : ∀ w ∈ wsX10, w ∈ lw_tbl := fun w h => (goodIn_p wsX10 [] (by decide +kernel) (by decide +kernel) w h).1
set_option maxRecDepth 20000 in
theorem wsX30_inT : ∀ w ∈ wsX30, w ∈ lw_tbl := fun w h => (goodIn_p wsX30 [] (by decide +kernel) (by decide +kernel) w h).1
set_option maxRecDepth 20000 in
theorem wsX20_inT : ∀ w ∈ wsX20, w ∈ lw_tbl := fun w h => (goodIn_p wsX20 [] (by decide +kernel) (by decide +kernel) w h).1
set_option maxRecDepth 20000 in
theorem wsX00_inT : ∀ w ∈ wsX00, w ∈ lw_tbl := fun w h => (goodIn_p wsX00 [] (by decide +kernel) (by decide +kernel) w h).1
set_option maxRecDepth 20000 in
theorem wsX80_inT : ∀ w ∈ wsX80, w ∈ lw_tbl := fun w h => (goodIn_p wsX80 [] (by decide +kernel) (by decide +kernel) w h).1
theorem mem_app2 {a b : List Cond} {P : Cond → Prop} (ha : ∀ w ∈ a, P w) (hb : ∀ w ∈ b, P w) : ∀ w ∈ a ++ b, P w := fun w h => (List.mem_append.mp h).elim (ha w) (hb w)
theorem wsL_law_in : ∀ w ∈ wsL_law, w ∈ lw_tbl := mem_app2 (mem_app2 (mem_app2 (mem_app2 (mem_app2 (mem_app2 (mem_app2 (mem_app2 (mem_app2 (mem_app2 (mem_app2 (mem_app2 (mem_app2 (mem_app2 wsL_law_r1_in (mem_app2 wsL_law_r2_in (mem_app2 wsL_law_r3_in (mem_app2 wsL_law_r4_in (mem_app2 wsL_law_r5_in (mem_app2 wsL_law_r6_in (mem_app2 wsL_law_r7_in (mem_app2 wsL_law_r8_in (mem_app2 wsL_law_r9_in (mem_app2 wsL_law_r10_in (mem_app2 wsL_law_r11_in (mem_app2 wsL_law_r12_in (mem_app2 wsL_law_r13_in (mem_app2 wsL_law_r14_in (mem_app2 wsL_law_r15_in (mem_app2 wsL_law_r16_in (mem_app2 wsL_law_r17_in (mem_app2 wsL_law_r18_in (mem_app2 wsL_law_r19_in (mem_app2 wsL_law_r20_in (mem_app2 wsL_law_r21_in (mem_app2 wsL_law_r22_in (mem_app2 wsL_law_r23_in (mem_app2 wsL_law_r24_in (mem_app2 wsL_law_r25_in (mem_app2 wsL_law_r26_in (mem_app2 wsL_law_r27_in (mem_app2 wsL_law_r28_in (mem_app2 wsL_law_r29_in (mem_app2 wsL_law_r30_in (mem_app2 wsL_law_r31_in (mem_app2 wsL_law_r32_in (mem_app2 wsL_law_r33_in (mem_app2 wsL_law_r34_in (mem_app2 wsL_law_r35_in (mem_app2 wsL_law_r36_in (mem_app2 wsL_law_r37_in (mem_app2 wsL_law_r38_in (mem_app2 wsL_law_r39_in (mem_app2 wsL_law_r40_in (mem_app2 wsL_law_r41_in (mem_app2 wsL_law_r42_in (mem_app2 wsL_law_r43_in (mem_app2 wsL_law_r44_in (mem_app2 wsL_law_r45_in wsL_law_r46_in))))))))))))))))))))))))))))))))))))))))))))) wsX100_inT) wsX110_inT) wsX70_inT) wsX60_inT) wsX40_inT) wsX90_inT) wsX50_inT) wsX10_inT) wsX30_inT) wsX20_inT) wsX00_inT) wsX80_inT) (fun _ h => absurd h List.not_mem_nil)
theorem inlX0 : ∀ w ∈ wsX00, w ∈ wsL_law := fun _ h => List.mem_append_left _ (List.mem_append_left _ (List.mem_append_right _ h))
theorem inX0 : ∀ w ∈ wsX00, w ∈ lw_tbl := fun w h => wsL_law_in w (inlX0 w h)
theorem inlX1 : ∀ w ∈ wsX10, w ∈ wsL_law := fun _ h => List.mem_append_left _ (List.mem_append_left _ (List.mem_append_left _ (List.mem_append_left _ (List.mem_append_left _ (List.mem_append_right _ h)))))
theorem inX1 : ∀ w ∈ wsX10, w ∈ lw_tbl := fun w h => wsL_law_in w (inlX1 w h)
theorem inlX2 : ∀ w ∈ wsX20, w ∈ wsL_law := fun _ h => List.mem_append_left _ (List.mem_append_left _ (List.mem_append_left _ (List.mem_append_right _ h)))
theorem inX2 : ∀ w ∈ wsX20, w ∈ lw_tbl := fun w h => wsL_law_in w (inlX2 w h)
theorem inlX3 : ∀ w ∈ wsX30, w ∈ wsL_law := fun _ h => List.mem_append_left _ (List.mem_append_left _ (List.mem_append_left _ (List.mem_append_left _ (List.mem_append_right _ h))))
theorem inX3 : ∀ w ∈ wsX30, w ∈ lw_tbl := fun w h => wsL_law_in w (inlX3 w h)
theorem inlX4 : ∀ w ∈ wsX40, w ∈ wsL_law := fun _ h => List.mem_append_left _ (List.mem_append_left _ (List.mem_append_left _ (List.mem_append_left _ (List.mem_append_left _ (List.mem_append_left _ (List.mem_append_left _ (List.mem_append_left _ (List.mem_append_right _ h))))))))
theorem inX4 : ∀ w ∈ wsX40, w ∈ lw_tbl := fun w h => wsL_law_in w (inlX4 w h)
theorem inlX5 : ∀ w ∈ wsX50, w ∈ wsL_law := fun _ h => List.mem_append_left _ (List.mem_append_left _ (List.mem_append_left _ (List.mem_append_left _ (List.mem_append_left _ (List.mem_append_left _ (List.mem_append_right _ h))))))
theorem inX5 : ∀ w ∈ wsX50, w ∈ lw_tbl := fun w h => wsL_law_in w (inlX5 w h)
theorem inlX6 : ∀ w ∈ wsX60, w ∈ wsL_law := fun _ h => List.mem_append_left _ (List.mem_append_left _ (List.mem_append_left _ (List.mem_append_left _ (List.mem_append_left _ (List.mem_append_left _ (List.mem_append_left _ (List.mem_append_left _ (List.mem_append_left _ (List.mem_append_right _ h)))))))))
theorem inX6 : ∀ w ∈ wsX60, w ∈ lw_tbl := fun w h => wsL_law_in w (inlX6 w h)
theorem inlX7 : ∀ w ∈ wsX70, w ∈ wsL_law := fun _ h => List.mem_append_left _ (List.mem_append_left _ (List.mem_append_left _ (List.mem_append_left _ (List.mem_append_left _ (List.mem_append_left _ (List.mem_append_left _ (List.mem_append_left _ (List.mem_append_left _ (List.mem_append_left _ (List.mem_append_right _ h))))))))))
theorem inX7 : ∀ w ∈ wsX70, w ∈ lw_tbl := fun w h => wsL_law_in w (inlX7 w h)
theorem inlX8 : ∀ w ∈ wsX80, w ∈ wsL_law := fun _ h => List.mem_append_left _ (List.mem_append_right _ h)
theorem inX8 : ∀ w ∈ wsX80, w ∈ lw_tbl := fun w h => wsL_law_in w (inlX8 w h)
theorem inlX9 : ∀ w ∈ wsX90, w ∈ wsL_law := fun _ h => List.mem_append_left _ (List.mem_append_left _ (List.mem_append_left _ (List.mem_append_left _ (List.mem_append_left _ (List.mem_append_left _ (List.mem_append_left _ (List.mem_append_right _ h)))))))
theorem inX9 : ∀ w ∈ wsX90, w ∈ lw_tbl := fun w h => wsL_law_in w (inlX9 w h)
theorem inlX10 : ∀ w ∈ wsX100, w ∈ wsL_law := fun _ h => List.mem_append_left _ (List.mem_append_left _ (List.mem_append_left _ (List.mem_append_left _ (List.mem_append_left _ (List.mem_append_left _ (List.mem_append_left _ (List.mem_append_left _ (List.mem_append_left _ (List.mem_append_left _ (List.mem_append_left _ (List.mem_append_left _ (List.mem_append_right _ h))))))))))))
theorem inX10 : ∀ w ∈ wsX100, w ∈ lw_tbl := fun w h => wsL_law_in w (inlX10 w h)
theorem inlX11 : ∀ w ∈ wsX110, w ∈ wsL_law := fun _ h => List.mem_append_left _ (List.mem_append_left _ (List.mem_append_left _ (List.mem_append_left _ (List.mem_append_left _ (List.mem_append_left _ (List.mem_append_left _ (List.mem_append_left _ (List.mem_append_left _ (List.mem_append_left _ (List.mem_append_left _ (List.mem_append_right _ h)))))))))))
theorem inX11 : ∀ w ∈ wsX110, w ∈ lw_tbl := fun w h => wsL_law_in w (inlX11 w h)
theorem inJ6 : ∀ w ∈ wsJ60, w ∈ lw_tbl := by decide +kernel
theorem inJ9 : ∀ w ∈ wsJ90, w ∈ lw_tbl := by decide +kernel
theorem inJ0 : ∀ w ∈ wsJ00, w ∈ lw_tbl := by decide +kernel
theorem inJ1 : ∀ w ∈ wsJ10, w ∈ lw_tbl := by decide +kernel
theorem inJ2 : ∀ w ∈ wsJ20, w ∈ lw_tbl := by decide +kernel
theorem inJ3 : ∀ w ∈ wsJ30, w ∈ lw_tbl := by decide +kernel
abbrev vwCl : List vw_C := [(RX0, TX0, 4), (RX1, TX1, 12), (RX2, TX2, 9), (RX3, TX3, 3), (RX4, TX4, 13), (RX5, TX5, 3), (RX6, TX6, 3), (RX7, TX7, 2), (RX8, TX8, 7), (RX9, TX9, 3), (RX10, TX10, 12), (RX11, TX11, 32)]
/-! ===== END printed: names ===== -/
end
