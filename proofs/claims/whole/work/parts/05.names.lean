-- ===== PART A: goes FIRST, ahead of the names: the tables' words, and 'selects' of the private methods out of them =====
/-- a private method of a class that the tables say can be made, by its rows of tables_1 -/
def lw_okq (q : MethodName × Nat) : Prop := (q.1.cls ≠ "java/lang/invoke/MethodHandle" ∧ q.1.cls ≠ "java/lang/invoke/VarHandle") ∧ Cond.instantiable q.1.cls q.2 ∈ tables_1 ∧ Cond.privateMethod q.1 ∈ tables_1 ∧ Cond.instanceMethod q.1 ∈ tables_1
theorem lw_p0 : lw_okq (⟨"DrawingMachine", "beginAnew", "()V"⟩, 9) := ⟨⟨by decide +kernel, by decide +kernel⟩, List.mem_of_getElem? (i := 41) (by decide +kernel), List.mem_of_getElem? (i := 463) (by decide +kernel), List.mem_of_getElem? (i := 464) (by decide +kernel)⟩
theorem lw_p1 : lw_okq (⟨"java/lang/Throwable", "fillInStackTrace", "(I)Ljava/lang/Throwable;"⟩, 6) := ⟨⟨by decide +kernel, by decide +kernel⟩, List.mem_of_getElem? (i := 526) (by decide +kernel), List.mem_of_getElem? (i := 524) (by decide +kernel), List.mem_of_getElem? (i := 525) (by decide +kernel)⟩
theorem lw_p2 : lw_okq (⟨"DrawingMachine", "refusal", "()I"⟩, 9) := ⟨⟨by decide +kernel, by decide +kernel⟩, List.mem_of_getElem? (i := 41) (by decide +kernel), List.mem_of_getElem? (i := 934) (by decide +kernel), List.mem_of_getElem? (i := 935) (by decide +kernel)⟩
theorem lw_p3 : lw_okq (⟨"DrawingMachine$Course", "source", "()[I"⟩, 15) := ⟨⟨by decide +kernel, by decide +kernel⟩, List.mem_of_getElem? (i := 105) (by decide +kernel), List.mem_of_getElem? (i := 942) (by decide +kernel), List.mem_of_getElem? (i := 943) (by decide +kernel)⟩
theorem lw_p4 : lw_okq (⟨"DrawingMachine$Course", "limit", "()I"⟩, 15) := ⟨⟨by decide +kernel, by decide +kernel⟩, List.mem_of_getElem? (i := 105) (by decide +kernel), List.mem_of_getElem? (i := 946) (by decide +kernel), List.mem_of_getElem? (i := 947) (by decide +kernel)⟩
theorem lw_p5 : lw_okq (⟨"DrawingMachine$Course", "valuesMayBe", "()Z"⟩, 15) := ⟨⟨by decide +kernel, by decide +kernel⟩, List.mem_of_getElem? (i := 105) (by decide +kernel), List.mem_of_getElem? (i := 956) (by decide +kernel), List.mem_of_getElem? (i := 957) (by decide +kernel)⟩
theorem lw_p6 : lw_okq (⟨"DrawingMachine", "placesAreThere", "()Z"⟩, 9) := ⟨⟨by decide +kernel, by decide +kernel⟩, List.mem_of_getElem? (i := 41) (by decide +kernel), List.mem_of_getElem? (i := 966) (by decide +kernel), List.mem_of_getElem? (i := 967) (by decide +kernel)⟩
theorem lw_p7 : lw_okq (⟨"DrawingMachine", "stateAllows", "()Z"⟩, 9) := ⟨⟨by decide +kernel, by decide +kernel⟩, List.mem_of_getElem? (i := 41) (by decide +kernel), List.mem_of_getElem? (i := 973) (by decide +kernel), List.mem_of_getElem? (i := 974) (by decide +kernel)⟩
theorem lw_p8 : lw_okq (⟨"DrawingMachine", "isDraw", "()Z"⟩, 9) := ⟨⟨by decide +kernel, by decide +kernel⟩, List.mem_of_getElem? (i := 41) (by decide +kernel), List.mem_of_getElem? (i := 977) (by decide +kernel), List.mem_of_getElem? (i := 978) (by decide +kernel)⟩
theorem lw_p9 : lw_okq (⟨"DrawingMachine$Drawing", "vertexOf", "(LDrawingMachine$Course;I)I"⟩, 9) := ⟨⟨by decide +kernel, by decide +kernel⟩, List.mem_of_getElem? (i := 200) (by decide +kernel), List.mem_of_getElem? (i := 995) (by decide +kernel), List.mem_of_getElem? (i := 996) (by decide +kernel)⟩
theorem lw_p10 : lw_okq (⟨"DrawingMachine$Vertices", "loadAttribute", "(II[I)V"⟩, 2) := ⟨⟨by decide +kernel, by decide +kernel⟩, List.mem_of_getElem? (i := 266) (by decide +kernel), List.mem_of_getElem? (i := 1016) (by decide +kernel), List.mem_of_getElem? (i := 1017) (by decide +kernel)⟩
theorem lw_p11 : lw_okq (⟨"DrawingMachine$Vertices", "part", "(IJI)I"⟩, 2) := ⟨⟨by decide +kernel, by decide +kernel⟩, List.mem_of_getElem? (i := 266) (by decide +kernel), List.mem_of_getElem? (i := 1021) (by decide +kernel), List.mem_of_getElem? (i := 1022) (by decide +kernel)⟩
theorem lw_p12 : lw_okq (⟨"DrawingMachine$Processor", "readSources", "(III)V"⟩, 9) := ⟨⟨by decide +kernel, by decide +kernel⟩, List.mem_of_getElem? (i := 206) (by decide +kernel), List.mem_of_getElem? (i := 1033) (by decide +kernel), List.mem_of_getElem? (i := 1034) (by decide +kernel)⟩
theorem lw_p13 : lw_okq (⟨"DrawingMachine$Processor", "readSource", "(I[I)V"⟩, 9) := ⟨⟨by decide +kernel, by decide +kernel⟩, List.mem_of_getElem? (i := 206) (by decide +kernel), List.mem_of_getElem? (i := 1038) (by decide +kernel), List.mem_of_getElem? (i := 1039) (by decide +kernel)⟩
theorem lw_p14 : lw_okq (⟨"DrawingMachine$Textures", "readLevel", "(IIII[I)V"⟩, 6) := ⟨⟨by decide +kernel, by decide +kernel⟩, List.mem_of_getElem? (i := 212) (by decide +kernel), List.mem_of_getElem? (i := 1051) (by decide +kernel), List.mem_of_getElem? (i := 1052) (by decide +kernel)⟩
theorem lw_p15 : lw_okq (⟨"DrawingMachine$Textures", "readTexel", "(III[I)V"⟩, 6) := ⟨⟨by decide +kernel, by decide +kernel⟩, List.mem_of_getElem? (i := 212) (by decide +kernel), List.mem_of_getElem? (i := 1066) (by decide +kernel), List.mem_of_getElem? (i := 1067) (by decide +kernel)⟩
def lw_privs_1 : List (MethodName × Nat) := [(⟨"DrawingMachine", "beginAnew", "()V"⟩, 9), (⟨"java/lang/Throwable", "fillInStackTrace", "(I)Ljava/lang/Throwable;"⟩, 6), (⟨"DrawingMachine", "refusal", "()I"⟩, 9), (⟨"DrawingMachine$Course", "source", "()[I"⟩, 15), (⟨"DrawingMachine$Course", "limit", "()I"⟩, 15), (⟨"DrawingMachine$Course", "valuesMayBe", "()Z"⟩, 15), (⟨"DrawingMachine", "placesAreThere", "()Z"⟩, 9), (⟨"DrawingMachine", "stateAllows", "()Z"⟩, 9), (⟨"DrawingMachine", "isDraw", "()Z"⟩, 9), (⟨"DrawingMachine$Drawing", "vertexOf", "(LDrawingMachine$Course;I)I"⟩, 9), (⟨"DrawingMachine$Vertices", "loadAttribute", "(II[I)V"⟩, 2), (⟨"DrawingMachine$Vertices", "part", "(IJI)I"⟩, 2), (⟨"DrawingMachine$Processor", "readSources", "(III)V"⟩, 9), (⟨"DrawingMachine$Processor", "readSource", "(I[I)V"⟩, 9), (⟨"DrawingMachine$Textures", "readLevel", "(IIII[I)V"⟩, 6), (⟨"DrawingMachine$Textures", "readTexel", "(III[I)V"⟩, 6)]
theorem lw_r1 : ∀ q ∈ lw_privs_1, lw_okq q := List.forall_mem_cons.mpr ⟨lw_p0, List.forall_mem_cons.mpr ⟨lw_p1, List.forall_mem_cons.mpr ⟨lw_p2, List.forall_mem_cons.mpr ⟨lw_p3, List.forall_mem_cons.mpr ⟨lw_p4, List.forall_mem_cons.mpr ⟨lw_p5, List.forall_mem_cons.mpr ⟨lw_p6, List.forall_mem_cons.mpr ⟨lw_p7, List.forall_mem_cons.mpr ⟨lw_p8, List.forall_mem_cons.mpr ⟨lw_p9, List.forall_mem_cons.mpr ⟨lw_p10, List.forall_mem_cons.mpr ⟨lw_p11, List.forall_mem_cons.mpr ⟨lw_p12, List.forall_mem_cons.mpr ⟨lw_p13, List.forall_mem_cons.mpr ⟨lw_p14, List.forall_mem_cons.mpr ⟨lw_p15, fun _ h => absurd h List.not_mem_nil⟩⟩⟩⟩⟩⟩⟩⟩⟩⟩⟩⟩⟩⟩⟩⟩
theorem lw_p16 : lw_okq (⟨"DrawingMachine$Processor", "setTarget", "(I)V"⟩, 9) := ⟨⟨by decide +kernel, by decide +kernel⟩, List.mem_of_getElem? (i := 206) (by decide +kernel), List.mem_of_getElem? (i := 1083) (by decide +kernel), List.mem_of_getElem? (i := 1084) (by decide +kernel)⟩
theorem lw_p17 : lw_okq (⟨"DrawingMachine$Processor", "reckon", "(I)V"⟩, 9) := ⟨⟨by decide +kernel, by decide +kernel⟩, List.mem_of_getElem? (i := 206) (by decide +kernel), List.mem_of_getElem? (i := 1088) (by decide +kernel), List.mem_of_getElem? (i := 1089) (by decide +kernel)⟩
theorem lw_p18 : lw_okq (⟨"DrawingMachine$Processor", "dotProduct", "(I)I"⟩, 9) := ⟨⟨by decide +kernel, by decide +kernel⟩, List.mem_of_getElem? (i := 206) (by decide +kernel), List.mem_of_getElem? (i := 1092) (by decide +kernel), List.mem_of_getElem? (i := 1093) (by decide +kernel)⟩
theorem lw_p19 : lw_okq (⟨"DrawingMachine$Processor", "setAll", "(I)V"⟩, 9) := ⟨⟨by decide +kernel, by decide +kernel⟩, List.mem_of_getElem? (i := 206) (by decide +kernel), List.mem_of_getElem? (i := 1099) (by decide +kernel), List.mem_of_getElem? (i := 1100) (by decide +kernel)⟩
theorem lw_p20 : lw_okq (⟨"DrawingMachine$Processor", "crossProduct", "()V"⟩, 9) := ⟨⟨by decide +kernel, by decide +kernel⟩, List.mem_of_getElem? (i := 206) (by decide +kernel), List.mem_of_getElem? (i := 1118) (by decide +kernel), List.mem_of_getElem? (i := 1119) (by decide +kernel)⟩
theorem lw_p21 : lw_okq (⟨"DrawingMachine$Processor", "readUniform", "(I)V"⟩, 9) := ⟨⟨by decide +kernel, by decide +kernel⟩, List.mem_of_getElem? (i := 206) (by decide +kernel), List.mem_of_getElem? (i := 1122) (by decide +kernel), List.mem_of_getElem? (i := 1123) (by decide +kernel)⟩
theorem lw_p22 : lw_okq (⟨"DrawingMachine$Shape", "cutBy", "(Z)V"⟩, 8) := ⟨⟨by decide +kernel, by decide +kernel⟩, List.mem_of_getElem? (i := 279) (by decide +kernel), List.mem_of_getElem? (i := 1141) (by decide +kernel), List.mem_of_getElem? (i := 1142) (by decide +kernel)⟩
theorem lw_p23 : lw_okq (⟨"DrawingMachine$Shape", "lay", "(I)V"⟩, 8) := ⟨⟨by decide +kernel, by decide +kernel⟩, List.mem_of_getElem? (i := 279) (by decide +kernel), List.mem_of_getElem? (i := 1158) (by decide +kernel), List.mem_of_getElem? (i := 1159) (by decide +kernel)⟩
theorem lw_p24 : lw_okq (⟨"DrawingMachine$Drawing", "shows", "(J)Z"⟩, 9) := ⟨⟨by decide +kernel, by decide +kernel⟩, List.mem_of_getElem? (i := 200) (by decide +kernel), List.mem_of_getElem? (i := 1180) (by decide +kernel), List.mem_of_getElem? (i := 1181) (by decide +kernel)⟩
theorem lw_p25 : lw_okq (⟨"DrawingMachine$Drawing", "fill", "(LDrawingMachine$Program;)V"⟩, 9) := ⟨⟨by decide +kernel, by decide +kernel⟩, List.mem_of_getElem? (i := 200) (by decide +kernel), List.mem_of_getElem? (i := 1184) (by decide +kernel), List.mem_of_getElem? (i := 1185) (by decide +kernel)⟩
theorem lw_p26 : lw_okq (⟨"DrawingMachine$Covering", "setEdge", "(III)V"⟩, 15) := ⟨⟨by decide +kernel, by decide +kernel⟩, List.mem_of_getElem? (i := 318) (by decide +kernel), List.mem_of_getElem? (i := 1192) (by decide +kernel), List.mem_of_getElem? (i := 1193) (by decide +kernel)⟩
theorem lw_p27 : lw_okq (⟨"DrawingMachine$Covering", "leastOf", "([I)I"⟩, 15) := ⟨⟨by decide +kernel, by decide +kernel⟩, List.mem_of_getElem? (i := 318) (by decide +kernel), List.mem_of_getElem? (i := 1198) (by decide +kernel), List.mem_of_getElem? (i := 1199) (by decide +kernel)⟩
theorem lw_p28 : lw_okq (⟨"DrawingMachine$Covering", "greatestOf", "([I)I"⟩, 15) := ⟨⟨by decide +kernel, by decide +kernel⟩, List.mem_of_getElem? (i := 318) (by decide +kernel), List.mem_of_getElem? (i := 1204) (by decide +kernel), List.mem_of_getElem? (i := 1205) (by decide +kernel)⟩
theorem lw_p29 : lw_okq (⟨"DrawingMachine$Covering", "setShares", "()V"⟩, 15) := ⟨⟨by decide +kernel, by decide +kernel⟩, List.mem_of_getElem? (i := 318) (by decide +kernel), List.mem_of_getElem? (i := 1222) (by decide +kernel), List.mem_of_getElem? (i := 1223) (by decide +kernel)⟩
theorem lw_p30 : lw_okq (⟨"DrawingMachine$Covering", "valueThere", "(I)I"⟩, 15) := ⟨⟨by decide +kernel, by decide +kernel⟩, List.mem_of_getElem? (i := 318) (by decide +kernel), List.mem_of_getElem? (i := 1237) (by decide +kernel), List.mem_of_getElem? (i := 1238) (by decide +kernel)⟩
theorem lw_p31 : lw_okq (⟨"DrawingMachine$Picture", "doDeed", "(III)V"⟩, 7) := ⟨⟨by decide +kernel, by decide +kernel⟩, List.mem_of_getElem? (i := 73) (by decide +kernel), List.mem_of_getElem? (i := 1257) (by decide +kernel), List.mem_of_getElem? (i := 1258) (by decide +kernel)⟩
def lw_privs_2 : List (MethodName × Nat) := [(⟨"DrawingMachine$Processor", "setTarget", "(I)V"⟩, 9), (⟨"DrawingMachine$Processor", "reckon", "(I)V"⟩, 9), (⟨"DrawingMachine$Processor", "dotProduct", "(I)I"⟩, 9), (⟨"DrawingMachine$Processor", "setAll", "(I)V"⟩, 9), (⟨"DrawingMachine$Processor", "crossProduct", "()V"⟩, 9), (⟨"DrawingMachine$Processor", "readUniform", "(I)V"⟩, 9), (⟨"DrawingMachine$Shape", "cutBy", "(Z)V"⟩, 8), (⟨"DrawingMachine$Shape", "lay", "(I)V"⟩, 8), (⟨"DrawingMachine$Drawing", "shows", "(J)Z"⟩, 9), (⟨"DrawingMachine$Drawing", "fill", "(LDrawingMachine$Program;)V"⟩, 9), (⟨"DrawingMachine$Covering", "setEdge", "(III)V"⟩, 15), (⟨"DrawingMachine$Covering", "leastOf", "([I)I"⟩, 15), (⟨"DrawingMachine$Covering", "greatestOf", "([I)I"⟩, 15), (⟨"DrawingMachine$Covering", "setShares", "()V"⟩, 15), (⟨"DrawingMachine$Covering", "valueThere", "(I)I"⟩, 15), (⟨"DrawingMachine$Picture", "doDeed", "(III)V"⟩, 7)]
theorem lw_r2 : ∀ q ∈ lw_privs_2, lw_okq q := List.forall_mem_cons.mpr ⟨lw_p16, List.forall_mem_cons.mpr ⟨lw_p17, List.forall_mem_cons.mpr ⟨lw_p18, List.forall_mem_cons.mpr ⟨lw_p19, List.forall_mem_cons.mpr ⟨lw_p20, List.forall_mem_cons.mpr ⟨lw_p21, List.forall_mem_cons.mpr ⟨lw_p22, List.forall_mem_cons.mpr ⟨lw_p23, List.forall_mem_cons.mpr ⟨lw_p24, List.forall_mem_cons.mpr ⟨lw_p25, List.forall_mem_cons.mpr ⟨lw_p26, List.forall_mem_cons.mpr ⟨lw_p27, List.forall_mem_cons.mpr ⟨lw_p28, List.forall_mem_cons.mpr ⟨lw_p29, List.forall_mem_cons.mpr ⟨lw_p30, List.forall_mem_cons.mpr ⟨lw_p31, fun _ h => absurd h List.not_mem_nil⟩⟩⟩⟩⟩⟩⟩⟩⟩⟩⟩⟩⟩⟩⟩⟩
theorem lw_p32 : lw_okq (⟨"DrawingMachine$Picture", "newColour", "(II)I"⟩, 7) := ⟨⟨by decide +kernel, by decide +kernel⟩, List.mem_of_getElem? (i := 73) (by decide +kernel), List.mem_of_getElem? (i := 1267) (by decide +kernel), List.mem_of_getElem? (i := 1268) (by decide +kernel)⟩
theorem lw_p33 : lw_okq (⟨"DrawingMachine$Picture", "blended", "(III)I"⟩, 7) := ⟨⟨by decide +kernel, by decide +kernel⟩, List.mem_of_getElem? (i := 73) (by decide +kernel), List.mem_of_getElem? (i := 1274) (by decide +kernel), List.mem_of_getElem? (i := 1275) (by decide +kernel)⟩
theorem lw_p34 : lw_okq (⟨"DrawingMachine$Picture", "factor", "(IIII)I"⟩, 7) := ⟨⟨by decide +kernel, by decide +kernel⟩, List.mem_of_getElem? (i := 73) (by decide +kernel), List.mem_of_getElem? (i := 1278) (by decide +kernel), List.mem_of_getElem? (i := 1279) (by decide +kernel)⟩
theorem lw_p35 : lw_okq (⟨"DrawingMachine$Drawing", "tally", "(I)V"⟩, 9) := ⟨⟨by decide +kernel, by decide +kernel⟩, List.mem_of_getElem? (i := 200) (by decide +kernel), List.mem_of_getElem? (i := 1285) (by decide +kernel), List.mem_of_getElem? (i := 1286) (by decide +kernel)⟩
theorem lw_p36 : lw_okq (⟨"DrawingMachine", "carryOut", "()I"⟩, 9) := ⟨⟨by decide +kernel, by decide +kernel⟩, List.mem_of_getElem? (i := 41) (by decide +kernel), List.mem_of_getElem? (i := 1289) (by decide +kernel), List.mem_of_getElem? (i := 1290) (by decide +kernel)⟩
theorem lw_p37 : lw_okq (⟨"DrawingMachine", "readProgram", "(II)I"⟩, 9) := ⟨⟨by decide +kernel, by decide +kernel⟩, List.mem_of_getElem? (i := 41) (by decide +kernel), List.mem_of_getElem? (i := 1302) (by decide +kernel), List.mem_of_getElem? (i := 1303) (by decide +kernel)⟩
theorem lw_p38 : lw_okq (⟨"DrawingMachine$Checker", "faultAt", "(LDrawingMachine$Program;IZ)I"⟩, 7) := ⟨⟨by decide +kernel, by decide +kernel⟩, List.mem_of_getElem? (i := 169) (by decide +kernel), List.mem_of_getElem? (i := 1311) (by decide +kernel), List.mem_of_getElem? (i := 1312) (by decide +kernel)⟩
theorem lw_p39 : lw_okq (⟨"DrawingMachine$Checker", "tell", "(II)V"⟩, 7) := ⟨⟨by decide +kernel, by decide +kernel⟩, List.mem_of_getElem? (i := 169) (by decide +kernel), List.mem_of_getElem? (i := 1332) (by decide +kernel), List.mem_of_getElem? (i := 1333) (by decide +kernel)⟩
theorem lw_p40 : lw_okq (⟨"DrawingMachine$Checker", "pass", "(LDrawingMachine$Program;I)V"⟩, 7) := ⟨⟨by decide +kernel, by decide +kernel⟩, List.mem_of_getElem? (i := 169) (by decide +kernel), List.mem_of_getElem? (i := 1336) (by decide +kernel), List.mem_of_getElem? (i := 1337) (by decide +kernel)⟩
theorem lw_p41 : lw_okq (⟨"DrawingMachine$Checker", "leavesLoop", "(LDrawingMachine$Program;I)Z"⟩, 7) := ⟨⟨by decide +kernel, by decide +kernel⟩, List.mem_of_getElem? (i := 169) (by decide +kernel), List.mem_of_getElem? (i := 1343) (by decide +kernel), List.mem_of_getElem? (i := 1344) (by decide +kernel)⟩
theorem lw_p42 : lw_okq (⟨"DrawingMachine", "copyBack", "()V"⟩, 9) := ⟨⟨by decide +kernel, by decide +kernel⟩, List.mem_of_getElem? (i := 41) (by decide +kernel), List.mem_of_getElem? (i := 1352) (by decide +kernel), List.mem_of_getElem? (i := 1353) (by decide +kernel)⟩
theorem lw_p43 : lw_okq (⟨"DrawingMachineModel$DrawCommandsModel", "nothingTold", "()V"⟩, 18) := ⟨⟨by decide +kernel, by decide +kernel⟩, List.mem_of_getElem? (i := 1424) (by decide +kernel), List.mem_of_getElem? (i := 1430) (by decide +kernel), List.mem_of_getElem? (i := 1431) (by decide +kernel)⟩
theorem lw_p44 : lw_okq (⟨"DrawingMachineModel", "refuse", "(ZZ)Z"⟩, 19) := ⟨⟨by decide +kernel, by decide +kernel⟩, List.mem_of_getElem? (i := 1418) (by decide +kernel), List.mem_of_getElem? (i := 1836) (by decide +kernel), List.mem_of_getElem? (i := 1837) (by decide +kernel)⟩
theorem lw_p45 : lw_okq (⟨"DrawingMachineModel$DrawCommandsModel", "refuse", "(Z)Z"⟩, 18) := ⟨⟨by decide +kernel, by decide +kernel⟩, List.mem_of_getElem? (i := 1424) (by decide +kernel), List.mem_of_getElem? (i := 1848) (by decide +kernel), List.mem_of_getElem? (i := 1849) (by decide +kernel)⟩
theorem lw_p46 : lw_okq (⟨"DrawingMachineModel$PlaceTestsModel", "refuse", "(ZZ)Z"⟩, 22) := ⟨⟨by decide +kernel, by decide +kernel⟩, List.mem_of_getElem? (i := 1692) (by decide +kernel), List.mem_of_getElem? (i := 1859) (by decide +kernel), List.mem_of_getElem? (i := 1860) (by decide +kernel)⟩
theorem lw_p47 : lw_okq (⟨"DrawingMachineModel$DrawCommandsModel", "anew", "()V"⟩, 18) := ⟨⟨by decide +kernel, by decide +kernel⟩, List.mem_of_getElem? (i := 1424) (by decide +kernel), List.mem_of_getElem? (i := 1893) (by decide +kernel), List.mem_of_getElem? (i := 1894) (by decide +kernel)⟩
def lw_privs_3 : List (MethodName × Nat) := [(⟨"DrawingMachine$Picture", "newColour", "(II)I"⟩, 7), (⟨"DrawingMachine$Picture", "blended", "(III)I"⟩, 7), (⟨"DrawingMachine$Picture", "factor", "(IIII)I"⟩, 7), (⟨"DrawingMachine$Drawing", "tally", "(I)V"⟩, 9), (⟨"DrawingMachine", "carryOut", "()I"⟩, 9), (⟨"DrawingMachine", "readProgram", "(II)I"⟩, 9), (⟨"DrawingMachine$Checker", "faultAt", "(LDrawingMachine$Program;IZ)I"⟩, 7), (⟨"DrawingMachine$Checker", "tell", "(II)V"⟩, 7), (⟨"DrawingMachine$Checker", "pass", "(LDrawingMachine$Program;I)V"⟩, 7), (⟨"DrawingMachine$Checker", "leavesLoop", "(LDrawingMachine$Program;I)Z"⟩, 7), (⟨"DrawingMachine", "copyBack", "()V"⟩, 9), (⟨"DrawingMachineModel$DrawCommandsModel", "nothingTold", "()V"⟩, 18), (⟨"DrawingMachineModel", "refuse", "(ZZ)Z"⟩, 19), (⟨"DrawingMachineModel$DrawCommandsModel", "refuse", "(Z)Z"⟩, 18), (⟨"DrawingMachineModel$PlaceTestsModel", "refuse", "(ZZ)Z"⟩, 22), (⟨"DrawingMachineModel$DrawCommandsModel", "anew", "()V"⟩, 18)]
theorem lw_r3 : ∀ q ∈ lw_privs_3, lw_okq q := List.forall_mem_cons.mpr ⟨lw_p32, List.forall_mem_cons.mpr ⟨lw_p33, List.forall_mem_cons.mpr ⟨lw_p34, List.forall_mem_cons.mpr ⟨lw_p35, List.forall_mem_cons.mpr ⟨lw_p36, List.forall_mem_cons.mpr ⟨lw_p37, List.forall_mem_cons.mpr ⟨lw_p38, List.forall_mem_cons.mpr ⟨lw_p39, List.forall_mem_cons.mpr ⟨lw_p40, List.forall_mem_cons.mpr ⟨lw_p41, List.forall_mem_cons.mpr ⟨lw_p42, List.forall_mem_cons.mpr ⟨lw_p43, List.forall_mem_cons.mpr ⟨lw_p44, List.forall_mem_cons.mpr ⟨lw_p45, List.forall_mem_cons.mpr ⟨lw_p46, List.forall_mem_cons.mpr ⟨lw_p47, fun _ h => absurd h List.not_mem_nil⟩⟩⟩⟩⟩⟩⟩⟩⟩⟩⟩⟩⟩⟩⟩⟩
theorem lw_p48 : lw_okq (⟨"DrawingMachineModel", "step", "()Z"⟩, 19) := ⟨⟨by decide +kernel, by decide +kernel⟩, List.mem_of_getElem? (i := 1418) (by decide +kernel), List.mem_of_getElem? (i := 1905) (by decide +kernel), List.mem_of_getElem? (i := 1906) (by decide +kernel)⟩
theorem lw_p49 : lw_okq (⟨"DrawingMachineModel", "kept", "(III)I"⟩, 19) := ⟨⟨by decide +kernel, by decide +kernel⟩, List.mem_of_getElem? (i := 1418) (by decide +kernel), List.mem_of_getElem? (i := 1909) (by decide +kernel), List.mem_of_getElem? (i := 1910) (by decide +kernel)⟩
theorem lw_p50 : lw_okq (⟨"DrawingMachineModel$DrawCommandsModel", "look", "()I"⟩, 18) := ⟨⟨by decide +kernel, by decide +kernel⟩, List.mem_of_getElem? (i := 1424) (by decide +kernel), List.mem_of_getElem? (i := 1918) (by decide +kernel), List.mem_of_getElem? (i := 1919) (by decide +kernel)⟩
theorem lw_p51 : lw_okq (⟨"DrawingMachineModel$DrawCommandsModel", "isThere", "(I)Z"⟩, 18) := ⟨⟨by decide +kernel, by decide +kernel⟩, List.mem_of_getElem? (i := 1424) (by decide +kernel), List.mem_of_getElem? (i := 1922) (by decide +kernel), List.mem_of_getElem? (i := 1923) (by decide +kernel)⟩
theorem lw_p52 : lw_okq (⟨"DrawingMachineModel$DrawCommandsModel", "read", "(I)I"⟩, 18) := ⟨⟨by decide +kernel, by decide +kernel⟩, List.mem_of_getElem? (i := 1424) (by decide +kernel), List.mem_of_getElem? (i := 1926) (by decide +kernel), List.mem_of_getElem? (i := 1927) (by decide +kernel)⟩
theorem lw_p53 : lw_okq (⟨"DrawingMachineModel$DrawCommandsModel", "length", "(I)I"⟩, 18) := ⟨⟨by decide +kernel, by decide +kernel⟩, List.mem_of_getElem? (i := 1424) (by decide +kernel), List.mem_of_getElem? (i := 1931) (by decide +kernel), List.mem_of_getElem? (i := 1932) (by decide +kernel)⟩
theorem lw_p54 : lw_okq (⟨"DrawingMachineModel$DrawCommandsModel", "liesRight", "(I)Z"⟩, 18) := ⟨⟨by decide +kernel, by decide +kernel⟩, List.mem_of_getElem? (i := 1424) (by decide +kernel), List.mem_of_getElem? (i := 1970) (by decide +kernel), List.mem_of_getElem? (i := 1971) (by decide +kernel)⟩
theorem lw_p55 : lw_okq (⟨"DrawingMachineModel$DrawCommandsModel", "isInMemory", "(JJ)Z"⟩, 18) := ⟨⟨by decide +kernel, by decide +kernel⟩, List.mem_of_getElem? (i := 1424) (by decide +kernel), List.mem_of_getElem? (i := 1974) (by decide +kernel), List.mem_of_getElem? (i := 1975) (by decide +kernel)⟩
theorem lw_p56 : lw_okq (⟨"DrawingMachineModel$DrawCommandsModel", "fitsState", "(I)Z"⟩, 18) := ⟨⟨by decide +kernel, by decide +kernel⟩, List.mem_of_getElem? (i := 1424) (by decide +kernel), List.mem_of_getElem? (i := 1978) (by decide +kernel), List.mem_of_getElem? (i := 1979) (by decide +kernel)⟩
theorem lw_p57 : lw_okq (⟨"DrawingMachineModel$DrawCommandsModel", "perform", "(I)V"⟩, 18) := ⟨⟨by decide +kernel, by decide +kernel⟩, List.mem_of_getElem? (i := 1424) (by decide +kernel), List.mem_of_getElem? (i := 1982) (by decide +kernel), List.mem_of_getElem? (i := 1983) (by decide +kernel)⟩
theorem lw_p58 : lw_okq (⟨"DrawingMachineModel$DrawCommandsModel", "keep", "(I)V"⟩, 18) := ⟨⟨by decide +kernel, by decide +kernel⟩, List.mem_of_getElem? (i := 1424) (by decide +kernel), List.mem_of_getElem? (i := 1986) (by decide +kernel), List.mem_of_getElem? (i := 1987) (by decide +kernel)⟩
theorem lw_p59 : lw_okq (⟨"DrawingMachineModel", "settle", "()V"⟩, 19) := ⟨⟨by decide +kernel, by decide +kernel⟩, List.mem_of_getElem? (i := 1418) (by decide +kernel), List.mem_of_getElem? (i := 1990) (by decide +kernel), List.mem_of_getElem? (i := 1991) (by decide +kernel)⟩
theorem lw_p60 : lw_okq (⟨"DrawingMachineModel$VertexWorkModel", "refuse", "(ZZ)Z"⟩, 13) := ⟨⟨by decide +kernel, by decide +kernel⟩, List.mem_of_getElem? (i := 1615) (by decide +kernel), List.mem_of_getElem? (i := 2029) (by decide +kernel), List.mem_of_getElem? (i := 2030) (by decide +kernel)⟩
theorem lw_p61 : lw_okq (⟨"DrawingMachineModel$TextureUnitsModel", "refuse", "(ZZ)Z"⟩, 11) := ⟨⟨by decide +kernel, by decide +kernel⟩, List.mem_of_getElem? (i := 1508) (by decide +kernel), List.mem_of_getElem? (i := 2048) (by decide +kernel), List.mem_of_getElem? (i := 2049) (by decide +kernel)⟩
theorem lw_p62 : lw_okq (⟨"DrawingMachineModel$PlaceTestsModel", "isOpen", "(II)Z"⟩, 22) := ⟨⟨by decide +kernel, by decide +kernel⟩, List.mem_of_getElem? (i := 1692) (by decide +kernel), List.mem_of_getElem? (i := 2065) (by decide +kernel), List.mem_of_getElem? (i := 2066) (by decide +kernel)⟩
theorem lw_p63 : lw_okq (⟨"DrawingMachineModel$PlaceTestsModel", "isInFrame", "(II)Z"⟩, 22) := ⟨⟨by decide +kernel, by decide +kernel⟩, List.mem_of_getElem? (i := 1692) (by decide +kernel), List.mem_of_getElem? (i := 2069) (by decide +kernel), List.mem_of_getElem? (i := 2070) (by decide +kernel)⟩
def lw_privs_4 : List (MethodName × Nat) := [(⟨"DrawingMachineModel", "step", "()Z"⟩, 19), (⟨"DrawingMachineModel", "kept", "(III)I"⟩, 19), (⟨"DrawingMachineModel$DrawCommandsModel", "look", "()I"⟩, 18), (⟨"DrawingMachineModel$DrawCommandsModel", "isThere", "(I)Z"⟩, 18), (⟨"DrawingMachineModel$DrawCommandsModel", "read", "(I)I"⟩, 18), (⟨"DrawingMachineModel$DrawCommandsModel", "length", "(I)I"⟩, 18), (⟨"DrawingMachineModel$DrawCommandsModel", "liesRight", "(I)Z"⟩, 18), (⟨"DrawingMachineModel$DrawCommandsModel", "isInMemory", "(JJ)Z"⟩, 18), (⟨"DrawingMachineModel$DrawCommandsModel", "fitsState", "(I)Z"⟩, 18), (⟨"DrawingMachineModel$DrawCommandsModel", "perform", "(I)V"⟩, 18), (⟨"DrawingMachineModel$DrawCommandsModel", "keep", "(I)V"⟩, 18), (⟨"DrawingMachineModel", "settle", "()V"⟩, 19), (⟨"DrawingMachineModel$VertexWorkModel", "refuse", "(ZZ)Z"⟩, 13), (⟨"DrawingMachineModel$TextureUnitsModel", "refuse", "(ZZ)Z"⟩, 11), (⟨"DrawingMachineModel$PlaceTestsModel", "isOpen", "(II)Z"⟩, 22), (⟨"DrawingMachineModel$PlaceTestsModel", "isInFrame", "(II)Z"⟩, 22)]
theorem lw_r4 : ∀ q ∈ lw_privs_4, lw_okq q := List.forall_mem_cons.mpr ⟨lw_p48, List.forall_mem_cons.mpr ⟨lw_p49, List.forall_mem_cons.mpr ⟨lw_p50, List.forall_mem_cons.mpr ⟨lw_p51, List.forall_mem_cons.mpr ⟨lw_p52, List.forall_mem_cons.mpr ⟨lw_p53, List.forall_mem_cons.mpr ⟨lw_p54, List.forall_mem_cons.mpr ⟨lw_p55, List.forall_mem_cons.mpr ⟨lw_p56, List.forall_mem_cons.mpr ⟨lw_p57, List.forall_mem_cons.mpr ⟨lw_p58, List.forall_mem_cons.mpr ⟨lw_p59, List.forall_mem_cons.mpr ⟨lw_p60, List.forall_mem_cons.mpr ⟨lw_p61, List.forall_mem_cons.mpr ⟨lw_p62, List.forall_mem_cons.mpr ⟨lw_p63, fun _ h => absurd h List.not_mem_nil⟩⟩⟩⟩⟩⟩⟩⟩⟩⟩⟩⟩⟩⟩⟩⟩
theorem lw_p64 : lw_okq (⟨"DrawingMachineModel$PlaceTestsModel", "placeOf", "(II)I"⟩, 22) := ⟨⟨by decide +kernel, by decide +kernel⟩, List.mem_of_getElem? (i := 1692) (by decide +kernel), List.mem_of_getElem? (i := 2073) (by decide +kernel), List.mem_of_getElem? (i := 2074) (by decide +kernel)⟩
theorem lw_p65 : lw_okq (⟨"DrawingMachineModel$PlaceTestsModel", "writeStencil", "(III)V"⟩, 22) := ⟨⟨by decide +kernel, by decide +kernel⟩, List.mem_of_getElem? (i := 1692) (by decide +kernel), List.mem_of_getElem? (i := 2077) (by decide +kernel), List.mem_of_getElem? (i := 2078) (by decide +kernel)⟩
theorem lw_p66 : lw_okq (⟨"DrawingMachineModel", "program", "(LDrawingMachineModel$ShaderMachineModel;Z)Z"⟩, 19) := ⟨⟨by decide +kernel, by decide +kernel⟩, List.mem_of_getElem? (i := 1418) (by decide +kernel), List.mem_of_getElem? (i := 2081) (by decide +kernel), List.mem_of_getElem? (i := 2082) (by decide +kernel)⟩
theorem lw_p67 : lw_okq (⟨"DrawingMachineModel$ShaderMachineModel", "refuse", "(Z)Z"⟩, 18) := ⟨⟨by decide +kernel, by decide +kernel⟩, List.mem_of_getElem? (i := 1548) (by decide +kernel), List.mem_of_getElem? (i := 2089) (by decide +kernel), List.mem_of_getElem? (i := 2090) (by decide +kernel)⟩
theorem lw_p68 : lw_okq (⟨"DrawingMachineModel$ShaderMachineModel", "check", "([IIZ)I"⟩, 18) := ⟨⟨by decide +kernel, by decide +kernel⟩, List.mem_of_getElem? (i := 1548) (by decide +kernel), List.mem_of_getElem? (i := 2093) (by decide +kernel), List.mem_of_getElem? (i := 2094) (by decide +kernel)⟩
theorem lw_p69 : lw_okq (⟨"DrawingMachineModel$ShaderMachineModel", "no", "(II)I"⟩, 18) := ⟨⟨by decide +kernel, by decide +kernel⟩, List.mem_of_getElem? (i := 1548) (by decide +kernel), List.mem_of_getElem? (i := 2131) (by decide +kernel), List.mem_of_getElem? (i := 2132) (by decide +kernel)⟩
theorem lw_p70 : lw_okq (⟨"DrawingMachineModel", "no", "(I)Z"⟩, 19) := ⟨⟨by decide +kernel, by decide +kernel⟩, List.mem_of_getElem? (i := 1418) (by decide +kernel), List.mem_of_getElem? (i := 2145) (by decide +kernel), List.mem_of_getElem? (i := 2146) (by decide +kernel)⟩
theorem lw_p71 : lw_okq (⟨"DrawingMachineModel", "isMuch", "()Z"⟩, 19) := ⟨⟨by decide +kernel, by decide +kernel⟩, List.mem_of_getElem? (i := 1418) (by decide +kernel), List.mem_of_getElem? (i := 2149) (by decide +kernel), List.mem_of_getElem? (i := 2150) (by decide +kernel)⟩
theorem lw_p72 : lw_okq (⟨"DrawingMachineModel", "draw", "(IIZ)V"⟩, 19) := ⟨⟨by decide +kernel, by decide +kernel⟩, List.mem_of_getElem? (i := 1418) (by decide +kernel), List.mem_of_getElem? (i := 2159) (by decide +kernel), List.mem_of_getElem? (i := 2160) (by decide +kernel)⟩
theorem lw_p73 : lw_okq (⟨"DrawingMachineModel", "corner", "(IIZ)V"⟩, 19) := ⟨⟨by decide +kernel, by decide +kernel⟩, List.mem_of_getElem? (i := 1418) (by decide +kernel), List.mem_of_getElem? (i := 2168) (by decide +kernel), List.mem_of_getElem? (i := 2169) (by decide +kernel)⟩
theorem lw_p74 : lw_okq (⟨"DrawingMachineModel$VertexWorkModel", "wordAt", "(J)I"⟩, 13) := ⟨⟨by decide +kernel, by decide +kernel⟩, List.mem_of_getElem? (i := 1615) (by decide +kernel), List.mem_of_getElem? (i := 2176) (by decide +kernel), List.mem_of_getElem? (i := 2177) (by decide +kernel)⟩
theorem lw_p75 : lw_okq (⟨"DrawingMachineModel$VertexWorkModel", "halfAt", "(JI)I"⟩, 13) := ⟨⟨by decide +kernel, by decide +kernel⟩, List.mem_of_getElem? (i := 1615) (by decide +kernel), List.mem_of_getElem? (i := 2181) (by decide +kernel), List.mem_of_getElem? (i := 2182) (by decide +kernel)⟩
theorem lw_p76 : lw_okq (⟨"DrawingMachineModel$VertexWorkModel", "byteAt", "(JI)I"⟩, 13) := ⟨⟨by decide +kernel, by decide +kernel⟩, List.mem_of_getElem? (i := 1615) (by decide +kernel), List.mem_of_getElem? (i := 2186) (by decide +kernel), List.mem_of_getElem? (i := 2187) (by decide +kernel)⟩
theorem lw_p77 : lw_okq (⟨"DrawingMachineModel$ShaderMachineModel", "take", "(II)V"⟩, 18) := ⟨⟨by decide +kernel, by decide +kernel⟩, List.mem_of_getElem? (i := 1548) (by decide +kernel), List.mem_of_getElem? (i := 2199) (by decide +kernel), List.mem_of_getElem? (i := 2200) (by decide +kernel)⟩
theorem lw_p78 : lw_okq (⟨"DrawingMachineModel$ShaderMachineModel", "put", "(II)V"⟩, 18) := ⟨⟨by decide +kernel, by decide +kernel⟩, List.mem_of_getElem? (i := 1548) (by decide +kernel), List.mem_of_getElem? (i := 2203) (by decide +kernel), List.mem_of_getElem? (i := 2204) (by decide +kernel)⟩
theorem lw_p79 : lw_okq (⟨"DrawingMachineModel$ShaderMachineModel", "part", "(II)I"⟩, 18) := ⟨⟨by decide +kernel, by decide +kernel⟩, List.mem_of_getElem? (i := 1548) (by decide +kernel), List.mem_of_getElem? (i := 2207) (by decide +kernel), List.mem_of_getElem? (i := 2208) (by decide +kernel)⟩
def lw_privs_5 : List (MethodName × Nat) := [(⟨"DrawingMachineModel$PlaceTestsModel", "placeOf", "(II)I"⟩, 22), (⟨"DrawingMachineModel$PlaceTestsModel", "writeStencil", "(III)V"⟩, 22), (⟨"DrawingMachineModel", "program", "(LDrawingMachineModel$ShaderMachineModel;Z)Z"⟩, 19), (⟨"DrawingMachineModel$ShaderMachineModel", "refuse", "(Z)Z"⟩, 18), (⟨"DrawingMachineModel$ShaderMachineModel", "check", "([IIZ)I"⟩, 18), (⟨"DrawingMachineModel$ShaderMachineModel", "no", "(II)I"⟩, 18), (⟨"DrawingMachineModel", "no", "(I)Z"⟩, 19), (⟨"DrawingMachineModel", "isMuch", "()Z"⟩, 19), (⟨"DrawingMachineModel", "draw", "(IIZ)V"⟩, 19), (⟨"DrawingMachineModel", "corner", "(IIZ)V"⟩, 19), (⟨"DrawingMachineModel$VertexWorkModel", "wordAt", "(J)I"⟩, 13), (⟨"DrawingMachineModel$VertexWorkModel", "halfAt", "(JI)I"⟩, 13), (⟨"DrawingMachineModel$VertexWorkModel", "byteAt", "(JI)I"⟩, 13), (⟨"DrawingMachineModel$ShaderMachineModel", "take", "(II)V"⟩, 18), (⟨"DrawingMachineModel$ShaderMachineModel", "put", "(II)V"⟩, 18), (⟨"DrawingMachineModel$ShaderMachineModel", "part", "(II)I"⟩, 18)]
theorem lw_r5 : ∀ q ∈ lw_privs_5, lw_okq q := List.forall_mem_cons.mpr ⟨lw_p64, List.forall_mem_cons.mpr ⟨lw_p65, List.forall_mem_cons.mpr ⟨lw_p66, List.forall_mem_cons.mpr ⟨lw_p67, List.forall_mem_cons.mpr ⟨lw_p68, List.forall_mem_cons.mpr ⟨lw_p69, List.forall_mem_cons.mpr ⟨lw_p70, List.forall_mem_cons.mpr ⟨lw_p71, List.forall_mem_cons.mpr ⟨lw_p72, List.forall_mem_cons.mpr ⟨lw_p73, List.forall_mem_cons.mpr ⟨lw_p74, List.forall_mem_cons.mpr ⟨lw_p75, List.forall_mem_cons.mpr ⟨lw_p76, List.forall_mem_cons.mpr ⟨lw_p77, List.forall_mem_cons.mpr ⟨lw_p78, List.forall_mem_cons.mpr ⟨lw_p79, fun _ h => absurd h List.not_mem_nil⟩⟩⟩⟩⟩⟩⟩⟩⟩⟩⟩⟩⟩⟩⟩⟩
theorem lw_p80 : lw_okq (⟨"DrawingMachineModel$ShaderMachineModel", "more", "(II)I"⟩, 18) := ⟨⟨by decide +kernel, by decide +kernel⟩, List.mem_of_getElem? (i := 1548) (by decide +kernel), List.mem_of_getElem? (i := 2229) (by decide +kernel), List.mem_of_getElem? (i := 2230) (by decide +kernel)⟩
theorem lw_p81 : lw_okq (⟨"DrawingMachineModel$ShaderMachineModel", "word", "(I)I"⟩, 18) := ⟨⟨by decide +kernel, by decide +kernel⟩, List.mem_of_getElem? (i := 1548) (by decide +kernel), List.mem_of_getElem? (i := 2233) (by decide +kernel), List.mem_of_getElem? (i := 2234) (by decide +kernel)⟩
theorem lw_p82 : lw_okq (⟨"DrawingMachineModel$ShaderMachineModel", "sampled", "(II)I"⟩, 18) := ⟨⟨by decide +kernel, by decide +kernel⟩, List.mem_of_getElem? (i := 1548) (by decide +kernel), List.mem_of_getElem? (i := 2237) (by decide +kernel), List.mem_of_getElem? (i := 2238) (by decide +kernel)⟩
theorem lw_p83 : lw_okq (⟨"DrawingMachineModel$TextureUnitsModel", "readLevel", "(IIIIZ)V"⟩, 11) := ⟨⟨by decide +kernel, by decide +kernel⟩, List.mem_of_getElem? (i := 1508) (by decide +kernel), List.mem_of_getElem? (i := 2246) (by decide +kernel), List.mem_of_getElem? (i := 2247) (by decide +kernel)⟩
theorem lw_p84 : lw_okq (⟨"DrawingMachineModel$TextureUnitsModel", "exponent", "(III)I"⟩, 11) := ⟨⟨by decide +kernel, by decide +kernel⟩, List.mem_of_getElem? (i := 1508) (by decide +kernel), List.mem_of_getElem? (i := 2250) (by decide +kernel), List.mem_of_getElem? (i := 2251) (by decide +kernel)⟩
theorem lw_p85 : lw_okq (⟨"DrawingMachineModel$TextureUnitsModel", "wrapped", "(IIII)V"⟩, 11) := ⟨⟨by decide +kernel, by decide +kernel⟩, List.mem_of_getElem? (i := 1508) (by decide +kernel), List.mem_of_getElem? (i := 2254) (by decide +kernel), List.mem_of_getElem? (i := 2255) (by decide +kernel)⟩
theorem lw_p86 : lw_okq (⟨"DrawingMachineModel$TextureUnitsModel", "wide", "(II)I"⟩, 11) := ⟨⟨by decide +kernel, by decide +kernel⟩, List.mem_of_getElem? (i := 1508) (by decide +kernel), List.mem_of_getElem? (i := 2258) (by decide +kernel), List.mem_of_getElem? (i := 2259) (by decide +kernel)⟩
theorem lw_p87 : lw_okq (⟨"DrawingMachineModel$TextureUnitsModel", "high", "(II)I"⟩, 11) := ⟨⟨by decide +kernel, by decide +kernel⟩, List.mem_of_getElem? (i := 1508) (by decide +kernel), List.mem_of_getElem? (i := 2265) (by decide +kernel), List.mem_of_getElem? (i := 2266) (by decide +kernel)⟩
theorem lw_p88 : lw_okq (⟨"DrawingMachineModel$TextureUnitsModel", "look", "(IIII)V"⟩, 11) := ⟨⟨by decide +kernel, by decide +kernel⟩, List.mem_of_getElem? (i := 1508) (by decide +kernel), List.mem_of_getElem? (i := 2269) (by decide +kernel), List.mem_of_getElem? (i := 2270) (by decide +kernel)⟩
theorem lw_p89 : lw_okq (⟨"DrawingMachineModel$TextureUnitsModel", "layOut", "(I)I"⟩, 11) := ⟨⟨by decide +kernel, by decide +kernel⟩, List.mem_of_getElem? (i := 1508) (by decide +kernel), List.mem_of_getElem? (i := 2273) (by decide +kernel), List.mem_of_getElem? (i := 2274) (by decide +kernel)⟩
theorem lw_p90 : lw_okq (⟨"DrawingMachineModel$TextureUnitsModel", "lay", "(IIIIIIII)V"⟩, 11) := ⟨⟨by decide +kernel, by decide +kernel⟩, List.mem_of_getElem? (i := 1508) (by decide +kernel), List.mem_of_getElem? (i := 2277) (by decide +kernel), List.mem_of_getElem? (i := 2278) (by decide +kernel)⟩
theorem lw_p91 : lw_okq (⟨"DrawingMachineModel$TextureUnitsModel", "ahead", "(II)I"⟩, 11) := ⟨⟨by decide +kernel, by decide +kernel⟩, List.mem_of_getElem? (i := 1508) (by decide +kernel), List.mem_of_getElem? (i := 2281) (by decide +kernel), List.mem_of_getElem? (i := 2282) (by decide +kernel)⟩
theorem lw_p92 : lw_okq (⟨"DrawingMachineModel$TextureUnitsModel", "bit", "(IJ)I"⟩, 11) := ⟨⟨by decide +kernel, by decide +kernel⟩, List.mem_of_getElem? (i := 1508) (by decide +kernel), List.mem_of_getElem? (i := 2285) (by decide +kernel), List.mem_of_getElem? (i := 2286) (by decide +kernel)⟩
theorem lw_p93 : lw_okq (⟨"DrawingMachineModel$TextureUnitsModel", "mixRow", "(IIIII)V"⟩, 11) := ⟨⟨by decide +kernel, by decide +kernel⟩, List.mem_of_getElem? (i := 1508) (by decide +kernel), List.mem_of_getElem? (i := 2294) (by decide +kernel), List.mem_of_getElem? (i := 2295) (by decide +kernel)⟩
theorem lw_p94 : lw_okq (⟨"DrawingMachineModel$VertexWorkModel", "tell", "(IIIIII)V"⟩, 13) := ⟨⟨by decide +kernel, by decide +kernel⟩, List.mem_of_getElem? (i := 1615) (by decide +kernel), List.mem_of_getElem? (i := 2310) (by decide +kernel), List.mem_of_getElem? (i := 2311) (by decide +kernel)⟩
theorem lw_p95 : lw_okq (⟨"DrawingMachineModel$VertexWorkModel", "cut", "(Z)V"⟩, 13) := ⟨⟨by decide +kernel, by decide +kernel⟩, List.mem_of_getElem? (i := 1615) (by decide +kernel), List.mem_of_getElem? (i := 2322) (by decide +kernel), List.mem_of_getElem? (i := 2323) (by decide +kernel)⟩
def lw_privs_6 : List (MethodName × Nat) := [(⟨"DrawingMachineModel$ShaderMachineModel", "more", "(II)I"⟩, 18), (⟨"DrawingMachineModel$ShaderMachineModel", "word", "(I)I"⟩, 18), (⟨"DrawingMachineModel$ShaderMachineModel", "sampled", "(II)I"⟩, 18), (⟨"DrawingMachineModel$TextureUnitsModel", "readLevel", "(IIIIZ)V"⟩, 11), (⟨"DrawingMachineModel$TextureUnitsModel", "exponent", "(III)I"⟩, 11), (⟨"DrawingMachineModel$TextureUnitsModel", "wrapped", "(IIII)V"⟩, 11), (⟨"DrawingMachineModel$TextureUnitsModel", "wide", "(II)I"⟩, 11), (⟨"DrawingMachineModel$TextureUnitsModel", "high", "(II)I"⟩, 11), (⟨"DrawingMachineModel$TextureUnitsModel", "look", "(IIII)V"⟩, 11), (⟨"DrawingMachineModel$TextureUnitsModel", "layOut", "(I)I"⟩, 11), (⟨"DrawingMachineModel$TextureUnitsModel", "lay", "(IIIIIIII)V"⟩, 11), (⟨"DrawingMachineModel$TextureUnitsModel", "ahead", "(II)I"⟩, 11), (⟨"DrawingMachineModel$TextureUnitsModel", "bit", "(IJ)I"⟩, 11), (⟨"DrawingMachineModel$TextureUnitsModel", "mixRow", "(IIIII)V"⟩, 11), (⟨"DrawingMachineModel$VertexWorkModel", "tell", "(IIIIII)V"⟩, 13), (⟨"DrawingMachineModel$VertexWorkModel", "cut", "(Z)V"⟩, 13)]
theorem lw_r6 : ∀ q ∈ lw_privs_6, lw_okq q := List.forall_mem_cons.mpr ⟨lw_p80, List.forall_mem_cons.mpr ⟨lw_p81, List.forall_mem_cons.mpr ⟨lw_p82, List.forall_mem_cons.mpr ⟨lw_p83, List.forall_mem_cons.mpr ⟨lw_p84, List.forall_mem_cons.mpr ⟨lw_p85, List.forall_mem_cons.mpr ⟨lw_p86, List.forall_mem_cons.mpr ⟨lw_p87, List.forall_mem_cons.mpr ⟨lw_p88, List.forall_mem_cons.mpr ⟨lw_p89, List.forall_mem_cons.mpr ⟨lw_p90, List.forall_mem_cons.mpr ⟨lw_p91, List.forall_mem_cons.mpr ⟨lw_p92, List.forall_mem_cons.mpr ⟨lw_p93, List.forall_mem_cons.mpr ⟨lw_p94, List.forall_mem_cons.mpr ⟨lw_p95, fun _ h => absurd h List.not_mem_nil⟩⟩⟩⟩⟩⟩⟩⟩⟩⟩⟩⟩⟩⟩⟩⟩
theorem lw_p96 : lw_okq (⟨"DrawingMachineModel$VertexWorkModel", "inside", "(IZ)J"⟩, 13) := ⟨⟨by decide +kernel, by decide +kernel⟩, List.mem_of_getElem? (i := 1615) (by decide +kernel), List.mem_of_getElem? (i := 2326) (by decide +kernel), List.mem_of_getElem? (i := 2327) (by decide +kernel)⟩
theorem lw_p97 : lw_okq (⟨"DrawingMachineModel$VertexWorkModel", "between", "(IIZ)V"⟩, 13) := ⟨⟨by decide +kernel, by decide +kernel⟩, List.mem_of_getElem? (i := 1615) (by decide +kernel), List.mem_of_getElem? (i := 2331) (by decide +kernel), List.mem_of_getElem? (i := 2332) (by decide +kernel)⟩
theorem lw_p98 : lw_okq (⟨"DrawingMachineModel$VertexWorkModel", "areaOf", "(I)J"⟩, 13) := ⟨⟨by decide +kernel, by decide +kernel⟩, List.mem_of_getElem? (i := 1615) (by decide +kernel), List.mem_of_getElem? (i := 2356) (by decide +kernel), List.mem_of_getElem? (i := 2357) (by decide +kernel)⟩
theorem lw_p99 : lw_okq (⟨"DrawingMachineModel", "triangle", "(II)V"⟩, 19) := ⟨⟨by decide +kernel, by decide +kernel⟩, List.mem_of_getElem? (i := 1418) (by decide +kernel), List.mem_of_getElem? (i := 2363) (by decide +kernel), List.mem_of_getElem? (i := 2364) (by decide +kernel)⟩
theorem lw_p100 : lw_okq (⟨"DrawingMachineModel$EdgeRasterModel", "refuse", "(ZZ)Z"⟩, 6) := ⟨⟨by decide +kernel, by decide +kernel⟩, List.mem_of_getElem? (i := 1662) (by decide +kernel), List.mem_of_getElem? (i := 2380) (by decide +kernel), List.mem_of_getElem? (i := 2381) (by decide +kernel)⟩
theorem lw_p101 : lw_okq (⟨"DrawingMachineModel$EdgeRasterModel", "isCovered", "(II)Z"⟩, 6) := ⟨⟨by decide +kernel, by decide +kernel⟩, List.mem_of_getElem? (i := 1662) (by decide +kernel), List.mem_of_getElem? (i := 2397) (by decide +kernel), List.mem_of_getElem? (i := 2398) (by decide +kernel)⟩
theorem lw_p102 : lw_okq (⟨"DrawingMachineModel$EdgeRasterModel", "whole", "()J"⟩, 6) := ⟨⟨by decide +kernel, by decide +kernel⟩, List.mem_of_getElem? (i := 1662) (by decide +kernel), List.mem_of_getElem? (i := 2401) (by decide +kernel), List.mem_of_getElem? (i := 2402) (by decide +kernel)⟩
theorem lw_p103 : lw_okq (⟨"DrawingMachineModel$EdgeRasterModel", "room", "(IIII)J"⟩, 6) := ⟨⟨by decide +kernel, by decide +kernel⟩, List.mem_of_getElem? (i := 1662) (by decide +kernel), List.mem_of_getElem? (i := 2405) (by decide +kernel), List.mem_of_getElem? (i := 2406) (by decide +kernel)⟩
theorem lw_p104 : lw_okq (⟨"DrawingMachineModel$EdgeRasterModel", "weightOf", "(III)J"⟩, 6) := ⟨⟨by decide +kernel, by decide +kernel⟩, List.mem_of_getElem? (i := 1662) (by decide +kernel), List.mem_of_getElem? (i := 2409) (by decide +kernel), List.mem_of_getElem? (i := 2410) (by decide +kernel)⟩
theorem lw_p105 : lw_okq (⟨"DrawingMachineModel$EdgeRasterModel", "from", "(I)I"⟩, 6) := ⟨⟨by decide +kernel, by decide +kernel⟩, List.mem_of_getElem? (i := 1662) (by decide +kernel), List.mem_of_getElem? (i := 2413) (by decide +kernel), List.mem_of_getElem? (i := 2414) (by decide +kernel)⟩
theorem lw_p106 : lw_okq (⟨"DrawingMachineModel$EdgeRasterModel", "to", "(I)I"⟩, 6) := ⟨⟨by decide +kernel, by decide +kernel⟩, List.mem_of_getElem? (i := 1662) (by decide +kernel), List.mem_of_getElem? (i := 2417) (by decide +kernel), List.mem_of_getElem? (i := 2418) (by decide +kernel)⟩
theorem lw_p107 : lw_okq (⟨"DrawingMachineModel", "place", "(III)V"⟩, 19) := ⟨⟨by decide +kernel, by decide +kernel⟩, List.mem_of_getElem? (i := 1418) (by decide +kernel), List.mem_of_getElem? (i := 2421) (by decide +kernel), List.mem_of_getElem? (i := 2422) (by decide +kernel)⟩
theorem lw_p108 : lw_okq (⟨"DrawingMachineModel", "share", "(II)I"⟩, 19) := ⟨⟨by decide +kernel, by decide +kernel⟩, List.mem_of_getElem? (i := 1418) (by decide +kernel), List.mem_of_getElem? (i := 2425) (by decide +kernel), List.mem_of_getElem? (i := 2426) (by decide +kernel)⟩
theorem lw_p109 : lw_okq (⟨"DrawingMachineModel", "value", "(I)I"⟩, 19) := ⟨⟨by decide +kernel, by decide +kernel⟩, List.mem_of_getElem? (i := 1418) (by decide +kernel), List.mem_of_getElem? (i := 2434) (by decide +kernel), List.mem_of_getElem? (i := 2435) (by decide +kernel)⟩
theorem lw_p110 : lw_okq (⟨"DrawingMachineModel$PlaceTestsModel", "answer", "(I)I"⟩, 22) := ⟨⟨by decide +kernel, by decide +kernel⟩, List.mem_of_getElem? (i := 1692) (by decide +kernel), List.mem_of_getElem? (i := 2445) (by decide +kernel), List.mem_of_getElem? (i := 2446) (by decide +kernel)⟩
theorem lw_p111 : lw_okq (⟨"DrawingMachineModel$PlaceTestsModel", "act", "(III)V"⟩, 22) := ⟨⟨by decide +kernel, by decide +kernel⟩, List.mem_of_getElem? (i := 1692) (by decide +kernel), List.mem_of_getElem? (i := 2452) (by decide +kernel), List.mem_of_getElem? (i := 2453) (by decide +kernel)⟩
def lw_privs_7 : List (MethodName × Nat) := [(⟨"DrawingMachineModel$VertexWorkModel", "inside", "(IZ)J"⟩, 13), (⟨"DrawingMachineModel$VertexWorkModel", "between", "(IIZ)V"⟩, 13), (⟨"DrawingMachineModel$VertexWorkModel", "areaOf", "(I)J"⟩, 13), (⟨"DrawingMachineModel", "triangle", "(II)V"⟩, 19), (⟨"DrawingMachineModel$EdgeRasterModel", "refuse", "(ZZ)Z"⟩, 6), (⟨"DrawingMachineModel$EdgeRasterModel", "isCovered", "(II)Z"⟩, 6), (⟨"DrawingMachineModel$EdgeRasterModel", "whole", "()J"⟩, 6), (⟨"DrawingMachineModel$EdgeRasterModel", "room", "(IIII)J"⟩, 6), (⟨"DrawingMachineModel$EdgeRasterModel", "weightOf", "(III)J"⟩, 6), (⟨"DrawingMachineModel$EdgeRasterModel", "from", "(I)I"⟩, 6), (⟨"DrawingMachineModel$EdgeRasterModel", "to", "(I)I"⟩, 6), (⟨"DrawingMachineModel", "place", "(III)V"⟩, 19), (⟨"DrawingMachineModel", "share", "(II)I"⟩, 19), (⟨"DrawingMachineModel", "value", "(I)I"⟩, 19), (⟨"DrawingMachineModel$PlaceTestsModel", "answer", "(I)I"⟩, 22), (⟨"DrawingMachineModel$PlaceTestsModel", "act", "(III)V"⟩, 22)]
theorem lw_r7 : ∀ q ∈ lw_privs_7, lw_okq q := List.forall_mem_cons.mpr ⟨lw_p96, List.forall_mem_cons.mpr ⟨lw_p97, List.forall_mem_cons.mpr ⟨lw_p98, List.forall_mem_cons.mpr ⟨lw_p99, List.forall_mem_cons.mpr ⟨lw_p100, List.forall_mem_cons.mpr ⟨lw_p101, List.forall_mem_cons.mpr ⟨lw_p102, List.forall_mem_cons.mpr ⟨lw_p103, List.forall_mem_cons.mpr ⟨lw_p104, List.forall_mem_cons.mpr ⟨lw_p105, List.forall_mem_cons.mpr ⟨lw_p106, List.forall_mem_cons.mpr ⟨lw_p107, List.forall_mem_cons.mpr ⟨lw_p108, List.forall_mem_cons.mpr ⟨lw_p109, List.forall_mem_cons.mpr ⟨lw_p110, List.forall_mem_cons.mpr ⟨lw_p111, fun _ h => absurd h List.not_mem_nil⟩⟩⟩⟩⟩⟩⟩⟩⟩⟩⟩⟩⟩⟩⟩⟩
theorem lw_p112 : lw_okq (⟨"DrawingMachineModel$PlaceTestsModel", "bits", "(I)I"⟩, 22) := ⟨⟨by decide +kernel, by decide +kernel⟩, List.mem_of_getElem? (i := 1692) (by decide +kernel), List.mem_of_getElem? (i := 2463) (by decide +kernel), List.mem_of_getElem? (i := 2464) (by decide +kernel)⟩
theorem lw_p113 : lw_okq (⟨"DrawingMachineModel$PlaceTestsModel", "blended", "(I)I"⟩, 22) := ⟨⟨by decide +kernel, by decide +kernel⟩, List.mem_of_getElem? (i := 1692) (by decide +kernel), List.mem_of_getElem? (i := 2467) (by decide +kernel), List.mem_of_getElem? (i := 2468) (by decide +kernel)⟩
theorem lw_p114 : lw_okq (⟨"DrawingMachineModel$PlaceTestsModel", "factor", "(II)I"⟩, 22) := ⟨⟨by decide +kernel, by decide +kernel⟩, List.mem_of_getElem? (i := 1692) (by decide +kernel), List.mem_of_getElem? (i := 2471) (by decide +kernel), List.mem_of_getElem? (i := 2472) (by decide +kernel)⟩
theorem lw_p115 : lw_okq (⟨"DrawingMachineModel", "copy", "()V"⟩, 19) := ⟨⟨by decide +kernel, by decide +kernel⟩, List.mem_of_getElem? (i := 1418) (by decide +kernel), List.mem_of_getElem? (i := 2478) (by decide +kernel), List.mem_of_getElem? (i := 2479) (by decide +kernel)⟩
theorem lw_p116 : lw_okq (⟨"DrawingMachineModel$PlaceTestsModel", "show", "(II)I"⟩, 22) := ⟨⟨by decide +kernel, by decide +kernel⟩, List.mem_of_getElem? (i := 1692) (by decide +kernel), List.mem_of_getElem? (i := 2482) (by decide +kernel), List.mem_of_getElem? (i := 2483) (by decide +kernel)⟩
def lw_privs_8 : List (MethodName × Nat) := [(⟨"DrawingMachineModel$PlaceTestsModel", "bits", "(I)I"⟩, 22), (⟨"DrawingMachineModel$PlaceTestsModel", "blended", "(I)I"⟩, 22), (⟨"DrawingMachineModel$PlaceTestsModel", "factor", "(II)I"⟩, 22), (⟨"DrawingMachineModel", "copy", "()V"⟩, 19), (⟨"DrawingMachineModel$PlaceTestsModel", "show", "(II)I"⟩, 22)]
theorem lw_r8 : ∀ q ∈ lw_privs_8, lw_okq q := List.forall_mem_cons.mpr ⟨lw_p112, List.forall_mem_cons.mpr ⟨lw_p113, List.forall_mem_cons.mpr ⟨lw_p114, List.forall_mem_cons.mpr ⟨lw_p115, List.forall_mem_cons.mpr ⟨lw_p116, fun _ h => absurd h List.not_mem_nil⟩⟩⟩⟩⟩
def lw_privs : List (MethodName × Nat) := lw_privs_1 ++ (lw_privs_2 ++ (lw_privs_3 ++ (lw_privs_4 ++ (lw_privs_5 ++ (lw_privs_6 ++ (lw_privs_7 ++ (lw_privs_8)))))))
def lw_tbl : List Cond := k2_sels lw_privs ++ tables_1
theorem lw_privs_ok : ∀ q ∈ lw_privs, lw_okq q := by
  show ∀ q ∈ lw_privs_1 ++ (lw_privs_2 ++ (lw_privs_3 ++ (lw_privs_4 ++ (lw_privs_5 ++ (lw_privs_6 ++ (lw_privs_7 ++ (lw_privs_8))))))), lw_okq q
  exact List.forall_mem_append.mpr ⟨lw_r1, List.forall_mem_append.mpr ⟨lw_r2, List.forall_mem_append.mpr ⟨lw_r3, List.forall_mem_append.mpr ⟨lw_r4, List.forall_mem_append.mpr ⟨lw_r5, List.forall_mem_append.mpr ⟨lw_r6, List.forall_mem_append.mpr ⟨lw_r7, lw_r8⟩⟩⟩⟩⟩⟩⟩

def R_DM : String := "DrawingMachine"
def F_DM : u_T := fun k => match k with
  | 0 => ("DrawingMachine", "memory", "[I", true)
  | 1 => ("DrawingMachine", "told", "LDrawingMachine$Told;", true)
  | 2 => ("DrawingMachine", "picture", "LDrawingMachine$Picture;", true)
  | 3 => ("DrawingMachine", "course", "LDrawingMachine$Course;", true)
  | 4 => ("DrawingMachine", "checker", "LDrawingMachine$Checker;", true)
  | 5 => ("DrawingMachine", "drawing", "LDrawingMachine$Drawing;", true)
  | 6 => ("DrawingMachine", "cornersProgram", "LDrawingMachine$Program;", false)
  | 7 => ("DrawingMachine", "placesProgram", "LDrawingMachine$Program;", false)
  | _ => ("DrawingMachine", "spareProgram", "LDrawingMachine$Program;", false)
def t_DM : Nat → FieldType := fun k => match k with
  | 0 => .array .int
  | 1 => .object "DrawingMachine$Told"
  | 2 => .object "DrawingMachine$Picture"
  | 3 => .object "DrawingMachine$Course"
  | 4 => .object "DrawingMachine$Checker"
  | 5 => .object "DrawingMachine$Drawing"
  | 6 => .object "DrawingMachine$Program"
  | 7 => .object "DrawingMachine$Program"
  | _ => .object "DrawingMachine$Program"
theorem n_DM : ∀ a, a < 9 → ∀ b, b < 9 → a ≠ b → (F_DM a).2.1 ≠ (F_DM b).2.1 := by decide +kernel
theorem t_DM_ok : ∀ k, k < 9 → parseFieldDescriptor (F_DM k).2.2.1 = some (t_DM k) := by decide +kernel
def R_Told : String := "DrawingMachine$Told"
def F_Told : u_T := fun k => match k with
  | _ => ("DrawingMachine$Told", "kept", "[I", true)
def t_Told : Nat → FieldType := fun k => match k with
  | _ => .array .int
theorem n_Told : ∀ a, a < 1 → ∀ b, b < 1 → a ≠ b → (F_Told a).2.1 ≠ (F_Told b).2.1 := by decide +kernel
theorem t_Told_ok : ∀ k, k < 1 → parseFieldDescriptor (F_Told k).2.2.1 = some (t_Told k) := by decide +kernel
def R_Pic : String := "DrawingMachine$Picture"
def F_Pic : u_T := fun k => match k with
  | 0 => ("DrawingMachine$Picture", "wide", "I", false)
  | 1 => ("DrawingMachine$Picture", "high", "I", false)
  | 2 => ("DrawingMachine$Picture", "colours", "[I", false)
  | 3 => ("DrawingMachine$Picture", "depths", "[I", false)
  | 4 => ("DrawingMachine$Picture", "stencils", "[I", false)
  | 5 => ("DrawingMachine$Picture", "told", "LDrawingMachine$Told;", true)
  | _ => ("DrawingMachine$Picture", "kept", "[I", true)
def t_Pic : Nat → FieldType := fun k => match k with
  | 0 => .int
  | 1 => .int
  | 2 => .array .int
  | 3 => .array .int
  | 4 => .array .int
  | 5 => .object "DrawingMachine$Told"
  | _ => .array .int
theorem n_Pic : ∀ a, a < 7 → ∀ b, b < 7 → a ≠ b → (F_Pic a).2.1 ≠ (F_Pic b).2.1 := by decide +kernel
theorem t_Pic_ok : ∀ k, k < 7 → parseFieldDescriptor (F_Pic k).2.2.1 = some (t_Pic k) := by decide +kernel
def R_Cou : String := "DrawingMachine$Course"
def F_Cou : u_T := fun k => match k with
  | 0 => ("DrawingMachine$Course", "given", "[I", true)
  | 1 => ("DrawingMachine$Course", "words", "I", false)
  | 2 => ("DrawingMachine$Course", "kind", "I", false)
  | 3 => ("DrawingMachine$Course", "depth", "I", false)
  | 4 => ("DrawingMachine$Course", "done", "I", false)
  | 5 => ("DrawingMachine$Course", "refused", "I", false)
  | 6 => ("DrawingMachine$Course", "lastPlace", "I", false)
  | 7 => ("DrawingMachine$Course", "lastDepth", "I", false)
  | 8 => ("DrawingMachine$Course", "over", "Z", false)
  | 9 => ("DrawingMachine$Course", "work", "J", false)
  | 10 => ("DrawingMachine$Course", "memory", "[I", true)
  | 11 => ("DrawingMachine$Course", "returns", "[I", true)
  | 12 => ("DrawingMachine$Course", "stream", "[I", false)
  | 13 => ("DrawingMachine$Course", "position", "I", false)
  | _ => ("DrawingMachine$Course", "length", "I", false)
def t_Cou : Nat → FieldType := fun k => match k with
  | 0 => .array .int
  | 1 => .int
  | 2 => .int
  | 3 => .int
  | 4 => .int
  | 5 => .int
  | 6 => .int
  | 7 => .int
  | 8 => .boolean
  | 9 => .long
  | 10 => .array .int
  | 11 => .array .int
  | 12 => .array .int
  | 13 => .int
  | _ => .int
theorem n_Cou : ∀ a, a < 15 → ∀ b, b < 15 → a ≠ b → (F_Cou a).2.1 ≠ (F_Cou b).2.1 := by decide +kernel
theorem t_Cou_ok : ∀ k, k < 15 → parseFieldDescriptor (F_Cou k).2.2.1 = some (t_Cou k) := by decide +kernel
def R_Chk : String := "DrawingMachine$Checker"
def F_Chk : u_T := fun k => match k with
  | 0 => ("DrawingMachine$Checker", "fault", "I", false)
  | 1 => ("DrawingMachine$Checker", "place", "I", false)
  | 2 => ("DrawingMachine$Checker", "loopOf", "[I", true)
  | 3 => ("DrawingMachine$Checker", "open", "[I", true)
  | 4 => ("DrawingMachine$Checker", "times", "[J", true)
  | 5 => ("DrawingMachine$Checker", "depth", "I", false)
  | _ => ("DrawingMachine$Checker", "steps", "J", false)
def t_Chk : Nat → FieldType := fun k => match k with
  | 0 => .int
  | 1 => .int
  | 2 => .array .int
  | 3 => .array .int
  | 4 => .array .long
  | 5 => .int
  | _ => .long
theorem n_Chk : ∀ a, a < 7 → ∀ b, b < 7 → a ≠ b → (F_Chk a).2.1 ≠ (F_Chk b).2.1 := by decide +kernel
theorem t_Chk_ok : ∀ k, k < 7 → parseFieldDescriptor (F_Chk k).2.2.1 = some (t_Chk k) := by decide +kernel
def R_Drw : String := "DrawingMachine$Drawing"
def F_Drw : u_T := fun k => match k with
  | 0 => ("DrawingMachine$Drawing", "counts", "[I", true)
  | 1 => ("DrawingMachine$Drawing", "queries", "[I", true)
  | 2 => ("DrawingMachine$Drawing", "openQuery", "I", false)
  | 3 => ("DrawingMachine$Drawing", "kept", "[I", true)
  | 4 => ("DrawingMachine$Drawing", "picture", "LDrawingMachine$Picture;", true)
  | 5 => ("DrawingMachine$Drawing", "processor", "LDrawingMachine$Processor;", true)
  | 6 => ("DrawingMachine$Drawing", "vertices", "LDrawingMachine$Vertices;", true)
  | 7 => ("DrawingMachine$Drawing", "shape", "LDrawingMachine$Shape;", true)
  | _ => ("DrawingMachine$Drawing", "covering", "LDrawingMachine$Covering;", true)
def t_Drw : Nat → FieldType := fun k => match k with
  | 0 => .array .int
  | 1 => .array .int
  | 2 => .int
  | 3 => .array .int
  | 4 => .object "DrawingMachine$Picture"
  | 5 => .object "DrawingMachine$Processor"
  | 6 => .object "DrawingMachine$Vertices"
  | 7 => .object "DrawingMachine$Shape"
  | _ => .object "DrawingMachine$Covering"
theorem n_Drw : ∀ a, a < 9 → ∀ b, b < 9 → a ≠ b → (F_Drw a).2.1 ≠ (F_Drw b).2.1 := by decide +kernel
theorem t_Drw_ok : ∀ k, k < 9 → parseFieldDescriptor (F_Drw k).2.2.1 = some (t_Drw k) := by decide +kernel
def R_Pro : String := "DrawingMachine$Processor"
def F_Pro : u_T := fun k => match k with
  | 0 => ("DrawingMachine$Processor", "bank", "[I", true)
  | 1 => ("DrawingMachine$Processor", "memory", "[I", true)
  | 2 => ("DrawingMachine$Processor", "textures", "LDrawingMachine$Textures;", true)
  | 3 => ("DrawingMachine$Processor", "a", "[I", true)
  | 4 => ("DrawingMachine$Processor", "b", "[I", true)
  | 5 => ("DrawingMachine$Processor", "c", "[I", true)
  | 6 => ("DrawingMachine$Processor", "result", "[I", true)
  | 7 => ("DrawingMachine$Processor", "starts", "[I", true)
  | _ => ("DrawingMachine$Processor", "left", "[I", true)
def t_Pro : Nat → FieldType := fun k => match k with
  | 0 => .array .int
  | 1 => .array .int
  | 2 => .object "DrawingMachine$Textures"
  | 3 => .array .int
  | 4 => .array .int
  | 5 => .array .int
  | 6 => .array .int
  | 7 => .array .int
  | _ => .array .int
theorem n_Pro : ∀ a, a < 9 → ∀ b, b < 9 → a ≠ b → (F_Pro a).2.1 ≠ (F_Pro b).2.1 := by decide +kernel
theorem t_Pro_ok : ∀ k, k < 9 → parseFieldDescriptor (F_Pro k).2.2.1 = some (t_Pro k) := by decide +kernel
def R_Tex : String := "DrawingMachine$Textures"
def F_Tex : u_T := fun k => match k with
  | 0 => ("DrawingMachine$Textures", "memory", "[I", true)
  | 1 => ("DrawingMachine$Textures", "kept", "[I", true)
  | 2 => ("DrawingMachine$Textures", "nextLevel", "[I", true)
  | 3 => ("DrawingMachine$Textures", "beside", "[I", true)
  | 4 => ("DrawingMachine$Textures", "below", "[I", true)
  | _ => ("DrawingMachine$Textures", "belowBeside", "[I", true)
def t_Tex : Nat → FieldType := fun k => match k with
  | 0 => .array .int
  | 1 => .array .int
  | 2 => .array .int
  | 3 => .array .int
  | 4 => .array .int
  | _ => .array .int
theorem n_Tex : ∀ a, a < 6 → ∀ b, b < 6 → a ≠ b → (F_Tex a).2.1 ≠ (F_Tex b).2.1 := by decide +kernel
theorem t_Tex_ok : ∀ k, k < 6 → parseFieldDescriptor (F_Tex k).2.2.1 = some (t_Tex k) := by decide +kernel
def R_Ver : String := "DrawingMachine$Vertices"
def F_Ver : u_T := fun k => match k with
  | 0 => ("DrawingMachine$Vertices", "memory", "[I", true)
  | _ => ("DrawingMachine$Vertices", "kept", "[I", true)
def t_Ver : Nat → FieldType := fun k => match k with
  | 0 => .array .int
  | _ => .array .int
theorem n_Ver : ∀ a, a < 2 → ∀ b, b < 2 → a ≠ b → (F_Ver a).2.1 ≠ (F_Ver b).2.1 := by decide +kernel
theorem t_Ver_ok : ∀ k, k < 2 → parseFieldDescriptor (F_Ver k).2.2.1 = some (t_Ver k) := by decide +kernel
def R_Sha : String := "DrawingMachine$Shape"
def F_Sha : u_T := fun k => match k with
  | 0 => ("DrawingMachine$Shape", "many", "I", false)
  | 1 => ("DrawingMachine$Shape", "corners", "[[I", false)
  | 2 => ("DrawingMachine$Shape", "x", "[I", true)
  | 3 => ("DrawingMachine$Shape", "y", "[I", true)
  | 4 => ("DrawingMachine$Shape", "depth", "[I", true)
  | 5 => ("DrawingMachine$Shape", "nearness", "[I", true)
  | 6 => ("DrawingMachine$Shape", "spare", "[[I", false)
  | _ => ("DrawingMachine$Shape", "kept", "[I", true)
def t_Sha : Nat → FieldType := fun k => match k with
  | 0 => .int
  | 1 => .array (.array .int)
  | 2 => .array .int
  | 3 => .array .int
  | 4 => .array .int
  | 5 => .array .int
  | 6 => .array (.array .int)
  | _ => .array .int
theorem n_Sha : ∀ a, a < 8 → ∀ b, b < 8 → a ≠ b → (F_Sha a).2.1 ≠ (F_Sha b).2.1 := by decide +kernel
theorem t_Sha_ok : ∀ k, k < 8 → parseFieldDescriptor (F_Sha k).2.2.1 = some (t_Sha k) := by decide +kernel
def R_Cov : String := "DrawingMachine$Covering"
def F_Cov : u_T := fun k => match k with
  | 0 => ("DrawingMachine$Covering", "front", "Z", false)
  | 1 => ("DrawingMachine$Covering", "left", "I", false)
  | 2 => ("DrawingMachine$Covering", "right", "I", false)
  | 3 => ("DrawingMachine$Covering", "top", "I", false)
  | 4 => ("DrawingMachine$Covering", "bottom", "I", false)
  | 5 => ("DrawingMachine$Covering", "shape", "LDrawingMachine$Shape;", true)
  | 6 => ("DrawingMachine$Covering", "who", "[I", true)
  | 7 => ("DrawingMachine$Covering", "along", "[J", true)
  | 8 => ("DrawingMachine$Covering", "down", "[J", true)
  | 9 => ("DrawingMachine$Covering", "start", "[J", true)
  | 10 => ("DrawingMachine$Covering", "least", "[J", true)
  | 11 => ("DrawingMachine$Covering", "weight", "[J", true)
  | 12 => ("DrawingMachine$Covering", "share", "[J", true)
  | 13 => ("DrawingMachine$Covering", "area", "J", false)
  | _ => ("DrawingMachine$Covering", "shares", "J", false)
def t_Cov : Nat → FieldType := fun k => match k with
  | 0 => .boolean
  | 1 => .int
  | 2 => .int
  | 3 => .int
  | 4 => .int
  | 5 => .object "DrawingMachine$Shape"
  | 6 => .array .int
  | 7 => .array .long
  | 8 => .array .long
  | 9 => .array .long
  | 10 => .array .long
  | 11 => .array .long
  | 12 => .array .long
  | 13 => .long
  | _ => .long
theorem n_Cov : ∀ a, a < 15 → ∀ b, b < 15 → a ≠ b → (F_Cov a).2.1 ≠ (F_Cov b).2.1 := by decide +kernel
theorem t_Cov_ok : ∀ k, k < 15 → parseFieldDescriptor (F_Cov k).2.2.1 = some (t_Cov k) := by decide +kernel
def R_Prg : String := "DrawingMachine$Program"
def F_Prg : u_T := fun k => match k with
  | 0 => ("DrawingMachine$Program", "words", "[I", true)
  | 1 => ("DrawingMachine$Program", "many", "I", false)
  | 2 => ("DrawingMachine$Program", "steps", "I", false)
  | _ => ("DrawingMachine$Program", "reads", "I", false)
def t_Prg : Nat → FieldType := fun k => match k with
  | 0 => .array .int
  | 1 => .int
  | 2 => .int
  | _ => .int
theorem n_Prg : ∀ a, a < 4 → ∀ b, b < 4 → a ≠ b → (F_Prg a).2.1 ≠ (F_Prg b).2.1 := by decide +kernel
theorem t_Prg_ok : ∀ k, k < 4 → parseFieldDescriptor (F_Prg k).2.2.1 = some (t_Prg k) := by decide +kernel
def R_Mod : String := "DrawingMachineModel"
def F_Mod : u_T := fun k => match k with
  | 0 => ("DrawingMachineModel", "thrown", "I", false)
  | 1 => ("DrawingMachineModel", "wide", "I", false)
  | 2 => ("DrawingMachineModel", "high", "I", false)
  | 3 => ("DrawingMachineModel", "commands", "LDrawingMachineModel$DrawCommandsModel;", true)
  | 4 => ("DrawingMachineModel", "units", "LDrawingMachineModel$TextureUnitsModel;", true)
  | 5 => ("DrawingMachineModel", "corners", "LDrawingMachineModel$ShaderMachineModel;", true)
  | 6 => ("DrawingMachineModel", "places", "LDrawingMachineModel$ShaderMachineModel;", true)
  | 7 => ("DrawingMachineModel", "vertices", "LDrawingMachineModel$VertexWorkModel;", true)
  | 8 => ("DrawingMachineModel", "raster", "LDrawingMachineModel$EdgeRasterModel;", true)
  | 9 => ("DrawingMachineModel", "tests", "LDrawingMachineModel$PlaceTestsModel;", true)
  | 10 => ("DrawingMachineModel", "fault", "I", false)
  | 11 => ("DrawingMachineModel", "faultPlace", "I", false)
  | 12 => ("DrawingMachineModel", "cornersSteps", "I", false)
  | 13 => ("DrawingMachineModel", "placesSteps", "I", false)
  | 14 => ("DrawingMachineModel", "work", "J", false)
  | 15 => ("DrawingMachineModel", "queries", "[I", true)
  | 16 => ("DrawingMachineModel", "counts", "[I", true)
  | 17 => ("DrawingMachineModel", "before", "[I", true)
  | _ => ("DrawingMachineModel", "shares", "[J", true)
def t_Mod : Nat → FieldType := fun k => match k with
  | 0 => .int
  | 1 => .int
  | 2 => .int
  | 3 => .object "DrawingMachineModel$DrawCommandsModel"
  | 4 => .object "DrawingMachineModel$TextureUnitsModel"
  | 5 => .object "DrawingMachineModel$ShaderMachineModel"
  | 6 => .object "DrawingMachineModel$ShaderMachineModel"
  | 7 => .object "DrawingMachineModel$VertexWorkModel"
  | 8 => .object "DrawingMachineModel$EdgeRasterModel"
  | 9 => .object "DrawingMachineModel$PlaceTestsModel"
  | 10 => .int
  | 11 => .int
  | 12 => .int
  | 13 => .int
  | 14 => .long
  | 15 => .array .int
  | 16 => .array .int
  | 17 => .array .int
  | _ => .array .long
theorem n_Mod : ∀ a, a < 19 → ∀ b, b < 19 → a ≠ b → (F_Mod a).2.1 ≠ (F_Mod b).2.1 := by decide +kernel
theorem t_Mod_ok : ∀ k, k < 19 → parseFieldDescriptor (F_Mod k).2.2.1 = some (t_Mod k) := by decide +kernel
def R_Cmd : String := "DrawingMachineModel$DrawCommandsModel"
def F_Cmd : u_T := fun k => match k with
  | 0 => ("DrawingMachineModel$DrawCommandsModel", "thrown", "I", false)
  | 1 => ("DrawingMachineModel$DrawCommandsModel", "memory", "[I", true)
  | 2 => ("DrawingMachineModel$DrawCommandsModel", "wide", "I", false)
  | 3 => ("DrawingMachineModel$DrawCommandsModel", "high", "I", false)
  | 4 => ("DrawingMachineModel$DrawCommandsModel", "stream", "[I", true)
  | 5 => ("DrawingMachineModel$DrawCommandsModel", "size", "I", false)
  | 6 => ("DrawingMachineModel$DrawCommandsModel", "at", "I", false)
  | 7 => ("DrawingMachineModel$DrawCommandsModel", "depth", "I", false)
  | 8 => ("DrawingMachineModel$DrawCommandsModel", "back", "[I", true)
  | 9 => ("DrawingMachineModel$DrawCommandsModel", "over", "Z", false)
  | 10 => ("DrawingMachineModel$DrawCommandsModel", "refusal", "I", false)
  | 11 => ("DrawingMachineModel$DrawCommandsModel", "place", "I", false)
  | 12 => ("DrawingMachineModel$DrawCommandsModel", "deep", "I", false)
  | 13 => ("DrawingMachineModel$DrawCommandsModel", "done", "I", false)
  | 14 => ("DrawingMachineModel$DrawCommandsModel", "query", "I", false)
  | 15 => ("DrawingMachineModel$DrawCommandsModel", "arguments", "I", false)
  | 16 => ("DrawingMachineModel$DrawCommandsModel", "argument", "[I", true)
  | _ => ("DrawingMachineModel$DrawCommandsModel", "kept", "[I", true)
def t_Cmd : Nat → FieldType := fun k => match k with
  | 0 => .int
  | 1 => .array .int
  | 2 => .int
  | 3 => .int
  | 4 => .array .int
  | 5 => .int
  | 6 => .int
  | 7 => .int
  | 8 => .array .int
  | 9 => .boolean
  | 10 => .int
  | 11 => .int
  | 12 => .int
  | 13 => .int
  | 14 => .int
  | 15 => .int
  | 16 => .array .int
  | _ => .array .int
theorem n_Cmd : ∀ a, a < 18 → ∀ b, b < 18 → a ≠ b → (F_Cmd a).2.1 ≠ (F_Cmd b).2.1 := by decide +kernel
theorem t_Cmd_ok : ∀ k, k < 18 → parseFieldDescriptor (F_Cmd k).2.2.1 = some (t_Cmd k) := by decide +kernel
def R_Txm : String := "DrawingMachineModel$TextureUnitsModel"
def F_Txm : u_T := fun k => match k with
  | 0 => ("DrawingMachineModel$TextureUnitsModel", "thrown", "I", false)
  | 1 => ("DrawingMachineModel$TextureUnitsModel", "memory", "[I", true)
  | 2 => ("DrawingMachineModel$TextureUnitsModel", "units", "[I", true)
  | 3 => ("DrawingMachineModel$TextureUnitsModel", "borders", "[I", true)
  | 4 => ("DrawingMachineModel$TextureUnitsModel", "latest", "[I", true)
  | 5 => ("DrawingMachineModel$TextureUnitsModel", "found", "[I", true)
  | 6 => ("DrawingMachineModel$TextureUnitsModel", "row", "[I", true)
  | 7 => ("DrawingMachineModel$TextureUnitsModel", "upper", "[I", true)
  | 8 => ("DrawingMachineModel$TextureUnitsModel", "near", "[I", true)
  | 9 => ("DrawingMachineModel$TextureUnitsModel", "first", "[I", true)
  | _ => ("DrawingMachineModel$TextureUnitsModel", "size", "[I", true)
def t_Txm : Nat → FieldType := fun k => match k with
  | 0 => .int
  | 1 => .array .int
  | 2 => .array .int
  | 3 => .array .int
  | 4 => .array .int
  | 5 => .array .int
  | 6 => .array .int
  | 7 => .array .int
  | 8 => .array .int
  | 9 => .array .int
  | _ => .array .int
theorem n_Txm : ∀ a, a < 11 → ∀ b, b < 11 → a ≠ b → (F_Txm a).2.1 ≠ (F_Txm b).2.1 := by decide +kernel
theorem t_Txm_ok : ∀ k, k < 11 → parseFieldDescriptor (F_Txm k).2.2.1 = some (t_Txm k) := by decide +kernel
def R_Shm : String := "DrawingMachineModel$ShaderMachineModel"
def F_Shm : u_T := fun k => match k with
  | 0 => ("DrawingMachineModel$ShaderMachineModel", "thrown", "I", false)
  | 1 => ("DrawingMachineModel$ShaderMachineModel", "memory", "[I", true)
  | 2 => ("DrawingMachineModel$ShaderMachineModel", "units", "LDrawingMachineModel$TextureUnitsModel;", true)
  | 3 => ("DrawingMachineModel$ShaderMachineModel", "program", "[I", true)
  | 4 => ("DrawingMachineModel$ShaderMachineModel", "fresh", "[I", true)
  | 5 => ("DrawingMachineModel$ShaderMachineModel", "hasProgram", "Z", false)
  | 6 => ("DrawingMachineModel$ShaderMachineModel", "fault", "I", false)
  | 7 => ("DrawingMachineModel$ShaderMachineModel", "place", "I", false)
  | 8 => ("DrawingMachineModel$ShaderMachineModel", "told", "I", false)
  | 9 => ("DrawingMachineModel$ShaderMachineModel", "temporaries", "[I", true)
  | 10 => ("DrawingMachineModel$ShaderMachineModel", "ins", "[I", true)
  | 11 => ("DrawingMachineModel$ShaderMachineModel", "outs", "[I", true)
  | 12 => ("DrawingMachineModel$ShaderMachineModel", "uniforms", "[I", true)
  | 13 => ("DrawingMachineModel$ShaderMachineModel", "read", "[I", true)
  | 14 => ("DrawingMachineModel$ShaderMachineModel", "result", "[I", true)
  | 15 => ("DrawingMachineModel$ShaderMachineModel", "killed", "Z", false)
  | 16 => ("DrawingMachineModel$ShaderMachineModel", "left", "[I", true)
  | _ => ("DrawingMachineModel$ShaderMachineModel", "opening", "[I", true)
def t_Shm : Nat → FieldType := fun k => match k with
  | 0 => .int
  | 1 => .array .int
  | 2 => .object "DrawingMachineModel$TextureUnitsModel"
  | 3 => .array .int
  | 4 => .array .int
  | 5 => .boolean
  | 6 => .int
  | 7 => .int
  | 8 => .int
  | 9 => .array .int
  | 10 => .array .int
  | 11 => .array .int
  | 12 => .array .int
  | 13 => .array .int
  | 14 => .array .int
  | 15 => .boolean
  | 16 => .array .int
  | _ => .array .int
theorem n_Shm : ∀ a, a < 18 → ∀ b, b < 18 → a ≠ b → (F_Shm a).2.1 ≠ (F_Shm b).2.1 := by decide +kernel
theorem t_Shm_ok : ∀ k, k < 18 → parseFieldDescriptor (F_Shm k).2.2.1 = some (t_Shm k) := by decide +kernel
def R_Vwm : String := "DrawingMachineModel$VertexWorkModel"
def F_Vwm : u_T := fun k => match k with
  | 0 => ("DrawingMachineModel$VertexWorkModel", "thrown", "I", false)
  | 1 => ("DrawingMachineModel$VertexWorkModel", "memory", "[I", true)
  | 2 => ("DrawingMachineModel$VertexWorkModel", "attributes", "[I", true)
  | 3 => ("DrawingMachineModel$VertexWorkModel", "corners", "[I", true)
  | 4 => ("DrawingMachineModel$VertexWorkModel", "view", "[I", true)
  | 5 => ("DrawingMachineModel$VertexWorkModel", "out", "I", false)
  | 6 => ("DrawingMachineModel$VertexWorkModel", "clock", "Z", false)
  | 7 => ("DrawingMachineModel$VertexWorkModel", "many", "I", false)
  | 8 => ("DrawingMachineModel$VertexWorkModel", "ring", "[I", true)
  | 9 => ("DrawingMachineModel$VertexWorkModel", "fewer", "I", false)
  | 10 => ("DrawingMachineModel$VertexWorkModel", "other", "[I", true)
  | 11 => ("DrawingMachineModel$VertexWorkModel", "made", "I", false)
  | _ => ("DrawingMachineModel$VertexWorkModel", "laid", "[I", true)
def t_Vwm : Nat → FieldType := fun k => match k with
  | 0 => .int
  | 1 => .array .int
  | 2 => .array .int
  | 3 => .array .int
  | 4 => .array .int
  | 5 => .int
  | 6 => .boolean
  | 7 => .int
  | 8 => .array .int
  | 9 => .int
  | 10 => .array .int
  | 11 => .int
  | _ => .array .int
theorem n_Vwm : ∀ a, a < 13 → ∀ b, b < 13 → a ≠ b → (F_Vwm a).2.1 ≠ (F_Vwm b).2.1 := by decide +kernel
theorem t_Vwm_ok : ∀ k, k < 13 → parseFieldDescriptor (F_Vwm k).2.2.1 = some (t_Vwm k) := by decide +kernel
def R_Erm : String := "DrawingMachineModel$EdgeRasterModel"
def F_Erm : u_T := fun k => match k with
  | 0 => ("DrawingMachineModel$EdgeRasterModel", "thrown", "I", false)
  | 1 => ("DrawingMachineModel$EdgeRasterModel", "cornerX", "[I", true)
  | 2 => ("DrawingMachineModel$EdgeRasterModel", "cornerY", "[I", true)
  | 3 => ("DrawingMachineModel$EdgeRasterModel", "depths", "[I", true)
  | 4 => ("DrawingMachineModel$EdgeRasterModel", "nearness", "[I", true)
  | _ => ("DrawingMachineModel$EdgeRasterModel", "values", "[I", true)
def t_Erm : Nat → FieldType := fun k => match k with
  | 0 => .int
  | 1 => .array .int
  | 2 => .array .int
  | 3 => .array .int
  | 4 => .array .int
  | _ => .array .int
theorem n_Erm : ∀ a, a < 6 → ∀ b, b < 6 → a ≠ b → (F_Erm a).2.1 ≠ (F_Erm b).2.1 := by decide +kernel
theorem t_Erm_ok : ∀ k, k < 6 → parseFieldDescriptor (F_Erm k).2.2.1 = some (t_Erm k) := by decide +kernel
def R_Ptm : String := "DrawingMachineModel$PlaceTestsModel"
def F_Ptm : u_T := fun k => match k with
  | 0 => ("DrawingMachineModel$PlaceTestsModel", "thrown", "I", false)
  | 1 => ("DrawingMachineModel$PlaceTestsModel", "x0", "I", false)
  | 2 => ("DrawingMachineModel$PlaceTestsModel", "y0", "I", false)
  | 3 => ("DrawingMachineModel$PlaceTestsModel", "wide", "I", false)
  | 4 => ("DrawingMachineModel$PlaceTestsModel", "high", "I", false)
  | 5 => ("DrawingMachineModel$PlaceTestsModel", "channels", "[I", true)
  | 6 => ("DrawingMachineModel$PlaceTestsModel", "depths", "[I", true)
  | 7 => ("DrawingMachineModel$PlaceTestsModel", "stencils", "[I", true)
  | 8 => ("DrawingMachineModel$PlaceTestsModel", "scissored", "Z", false)
  | 9 => ("DrawingMachineModel$PlaceTestsModel", "scissor", "[I", true)
  | 10 => ("DrawingMachineModel$PlaceTestsModel", "depthTest", "I", false)
  | 11 => ("DrawingMachineModel$PlaceTestsModel", "depthWritten", "Z", false)
  | 12 => ("DrawingMachineModel$PlaceTestsModel", "stencil", "[I", true)
  | 13 => ("DrawingMachineModel$PlaceTestsModel", "factors", "[I", true)
  | 14 => ("DrawingMachineModel$PlaceTestsModel", "equation", "I", false)
  | 15 => ("DrawingMachineModel$PlaceTestsModel", "equationA", "I", false)
  | 16 => ("DrawingMachineModel$PlaceTestsModel", "constant", "[I", true)
  | 17 => ("DrawingMachineModel$PlaceTestsModel", "logic", "I", false)
  | 18 => ("DrawingMachineModel$PlaceTestsModel", "mask", "I", false)
  | 19 => ("DrawingMachineModel$PlaceTestsModel", "answers", "[I", true)
  | 20 => ("DrawingMachineModel$PlaceTestsModel", "s", "[I", true)
  | _ => ("DrawingMachineModel$PlaceTestsModel", "d", "[I", true)
def t_Ptm : Nat → FieldType := fun k => match k with
  | 0 => .int
  | 1 => .int
  | 2 => .int
  | 3 => .int
  | 4 => .int
  | 5 => .array .int
  | 6 => .array .int
  | 7 => .array .int
  | 8 => .boolean
  | 9 => .array .int
  | 10 => .int
  | 11 => .boolean
  | 12 => .array .int
  | 13 => .array .int
  | 14 => .int
  | 15 => .int
  | 16 => .array .int
  | 17 => .int
  | 18 => .int
  | 19 => .array .int
  | 20 => .array .int
  | _ => .array .int
theorem n_Ptm : ∀ a, a < 22 → ∀ b, b < 22 → a ≠ b → (F_Ptm a).2.1 ≠ (F_Ptm b).2.1 := by decide +kernel
theorem t_Ptm_ok : ∀ k, k < 22 → parseFieldDescriptor (F_Ptm k).2.2.1 = some (t_Ptm k) := by decide +kernel
abbrev classes : List vw_C := [(R_DM, F_DM, 9), (R_Told, F_Told, 1), (R_Pic, F_Pic, 7), (R_Cou, F_Cou, 15), (R_Chk, F_Chk, 7), (R_Drw, F_Drw, 9), (R_Pro, F_Pro, 9), (R_Tex, F_Tex, 6), (R_Ver, F_Ver, 2), (R_Sha, F_Sha, 8), (R_Cov, F_Cov, 15), (R_Prg, F_Prg, 4), (R_Mod, F_Mod, 19), (R_Cmd, F_Cmd, 18), (R_Txm, F_Txm, 11), (R_Shm, F_Shm, 18), (R_Vwm, F_Vwm, 13), (R_Erm, F_Erm, 6), (R_Ptm, F_Ptm, 22)]
def y_DM_init : MethodName := ⟨"DrawingMachine", "<init>", "()V"⟩
def y_Told_init : MethodName := ⟨"DrawingMachine$Told", "<init>", "()V"⟩
def y_Told_forget : MethodName := ⟨"DrawingMachine$Told", "forget", "()V"⟩
def y_Arr_fill : MethodName := ⟨"java/util/Arrays", "fill", "([II)V"⟩
def y_Pic_init : MethodName := ⟨"DrawingMachine$Picture", "<init>", "(LDrawingMachine$Told;)V"⟩
def y_Cou_init : MethodName := ⟨"DrawingMachine$Course", "<init>", "([I)V"⟩
def y_Chk_init : MethodName := ⟨"DrawingMachine$Checker", "<init>", "()V"⟩
def y_Drw_init : MethodName := ⟨"DrawingMachine$Drawing", "<init>", "([ILDrawingMachine$Told;LDrawingMachine$Picture;)V"⟩
def y_Pro_init : MethodName := ⟨"DrawingMachine$Processor", "<init>", "([ILDrawingMachine$Told;)V"⟩
def y_Tex_init : MethodName := ⟨"DrawingMachine$Textures", "<init>", "([ILDrawingMachine$Told;)V"⟩
def y_Ver_init : MethodName := ⟨"DrawingMachine$Vertices", "<init>", "([ILDrawingMachine$Told;)V"⟩
def y_Sha_init : MethodName := ⟨"DrawingMachine$Shape", "<init>", "(LDrawingMachine$Told;)V"⟩
def y_Cov_init : MethodName := ⟨"DrawingMachine$Covering", "<init>", "(LDrawingMachine$Shape;)V"⟩
def y_Prg_init : MethodName := ⟨"DrawingMachine$Program", "<init>", "()V"⟩
def y_DM_begin : MethodName := ⟨"DrawingMachine", "begin", "(Z)V"⟩
def y_DM_beginAnew : MethodName := ⟨"DrawingMachine", "beginAnew", "()V"⟩
def y_Cou_beginAnew : MethodName := ⟨"DrawingMachine$Course", "beginAnew", "()V"⟩
def y_law_frame : MethodName := ⟨"DrawingMachineLaw", "frame", "(LDrawingMachine;III[J)I"⟩
def y_DM_frame : MethodName := ⟨"DrawingMachine", "frame", "(III)I"⟩
def y_DM_isSide : MethodName := ⟨"DrawingMachine", "isSide", "(I)Z"⟩
def y_DM_isTileSide : MethodName := ⟨"DrawingMachine", "isTileSide", "(I)Z"⟩
def y_Pic_makeNew : MethodName := ⟨"DrawingMachine$Picture", "makeNew", "(II)V"⟩
def y_Mat_max : MethodName := ⟨"java/lang/Math", "max", "(II)I"⟩
def y_Mat_min : MethodName := ⟨"java/lang/Math", "min", "(II)I"⟩
def y_Arr_fill1 : MethodName := ⟨"java/util/Arrays", "fill", "([IIII)V"⟩
def y_Arr_rangeCheck : MethodName := ⟨"java/util/Arrays", "rangeCheck", "(III)V"⟩
def y_law_word : MethodName := ⟨"DrawingMachineLaw", "word", "(LDrawingMachine;II[J)I"⟩
def y_DM_word : MethodName := ⟨"DrawingMachine", "word", "(II)I"⟩
def y_law_look : MethodName := ⟨"DrawingMachineLaw", "look", "(LDrawingMachine;I[J)I"⟩
def y_DM_look : MethodName := ⟨"DrawingMachine", "look", "(I)I"⟩
def y_law_feed : MethodName := ⟨"DrawingMachineLaw", "feed", "(LDrawingMachine;IIIII[J)I"⟩
def y_DM_feed : MethodName := ⟨"DrawingMachine", "feed", "(IIIII)I"⟩
def y_Cou_makeRoom : MethodName := ⟨"DrawingMachine$Course", "makeRoom", "(I)V"⟩
def y_Arr_copyOf : MethodName := ⟨"java/util/Arrays", "copyOf", "([II)[I"⟩
def y_Cou_add : MethodName := ⟨"DrawingMachine$Course", "add", "(I)V"⟩
def y_law_end : MethodName := ⟨"DrawingMachineLaw", "end", "(LDrawingMachine;I)I"⟩
def y_DM_end : MethodName := ⟨"DrawingMachine", "end", "(I)V"⟩
def y_law_run : MethodName := ⟨"DrawingMachineLaw", "run", "(LDrawingMachine;I[J)I"⟩
def y_DM_run : MethodName := ⟨"DrawingMachine", "run", "(I)I"⟩
def y_DM_refusal : MethodName := ⟨"DrawingMachine", "refusal", "()I"⟩
def y_Cou_fetch : MethodName := ⟨"DrawingMachine$Course", "fetch", "()I"⟩
def y_Cou_source : MethodName := ⟨"DrawingMachine$Course", "source", "()[I"⟩
def y_Cou_limit : MethodName := ⟨"DrawingMachine$Course", "limit", "()I"⟩
def y_DM_within : MethodName := ⟨"DrawingMachine", "within", "(JII)I"⟩
def y_Cou_valuesMayBe : MethodName := ⟨"DrawingMachine$Course", "valuesMayBe", "()Z"⟩
def y_DM_placesAreThere : MethodName := ⟨"DrawingMachine", "placesAreThere", "()Z"⟩
def y_DM_inMemory : MethodName := ⟨"DrawingMachine", "inMemory", "(II)Z"⟩
def y_DM_stateAllows : MethodName := ⟨"DrawingMachine", "stateAllows", "()Z"⟩
def y_DM_isDraw : MethodName := ⟨"DrawingMachine", "isDraw", "()Z"⟩
def y_Drw_draw : MethodName := ⟨"DrawingMachine$Drawing", "draw", "(LDrawingMachine$Course;LDrawingMachine$Program;LDrawingMachine$Program;)I"⟩
def y_Ver_triangles : MethodName := ⟨"DrawingMachine$Vertices", "triangles", "(II)I"⟩
def y_Ver_orderOf : MethodName := ⟨"DrawingMachine$Vertices", "orderOf", "(III)I"⟩
def y_Drw_vertexOf : MethodName := ⟨"DrawingMachine$Drawing", "vertexOf", "(LDrawingMachine$Course;I)I"⟩
def y_Ver_index : MethodName := ⟨"DrawingMachine$Vertices", "index", "(III)I"⟩
def y_DM_wordOf : MethodName := ⟨"DrawingMachine", "wordOf", "([IJ)I"⟩
def y_Ver_load : MethodName := ⟨"DrawingMachine$Vertices", "load", "(ILDrawingMachine$Program;[I)V"⟩
def y_Prg_readsIn : MethodName := ⟨"DrawingMachine$Program", "readsIn", "(I)Z"⟩
def y_Ver_loadAttribute : MethodName := ⟨"DrawingMachine$Vertices", "loadAttribute", "(II[I)V"⟩
def y_Ver_part : MethodName := ⟨"DrawingMachine$Vertices", "part", "(IJI)I"⟩
def y_Pro_follow : MethodName := ⟨"DrawingMachine$Processor", "follow", "(LDrawingMachine$Program;)Z"⟩
def y_Pro_readSources : MethodName := ⟨"DrawingMachine$Processor", "readSources", "(III)V"⟩
def y_Pro_readSource : MethodName := ⟨"DrawingMachine$Processor", "readSource", "(I[I)V"⟩
def y_Tex_read : MethodName := ⟨"DrawingMachine$Textures", "read", "(IIII[I)V"⟩
def y_Tex_readLevel : MethodName := ⟨"DrawingMachine$Textures", "readLevel", "(IIII[I)V"⟩
def y_Tex_texelsAbove : MethodName := ⟨"DrawingMachine$Textures", "texelsAbove", "(III)I"⟩
def y_Tex_wrapped : MethodName := ⟨"DrawingMachine$Textures", "wrapped", "(III)I"⟩
def y_Tex_rowAt : MethodName := ⟨"DrawingMachine$Textures", "rowAt", "(III)I"⟩
def y_Tex_readTexel : MethodName := ⟨"DrawingMachine$Textures", "readTexel", "(III[I)V"⟩
def y_Tex_mix : MethodName := ⟨"DrawingMachine$Textures", "mix", "([I[II)V"⟩
def y_Pro_setTarget : MethodName := ⟨"DrawingMachine$Processor", "setTarget", "(I)V"⟩
def y_Pro_reckon : MethodName := ⟨"DrawingMachine$Processor", "reckon", "(I)V"⟩
def y_Pro_dotProduct : MethodName := ⟨"DrawingMachine$Processor", "dotProduct", "(I)I"⟩
def y_Pro_product : MethodName := ⟨"DrawingMachine$Processor", "product", "(II)I"⟩
def y_Pro_setAll : MethodName := ⟨"DrawingMachine$Processor", "setAll", "(I)V"⟩
def y_Pro_oneBy : MethodName := ⟨"DrawingMachine$Processor", "oneBy", "(I)I"⟩
def y_Mat_floorDiv : MethodName := ⟨"java/lang/Math", "floorDiv", "(JJ)J"⟩
def y_Pro_rootOf : MethodName := ⟨"DrawingMachine$Processor", "rootOf", "(J)I"⟩
def y_Pro_crossProduct : MethodName := ⟨"DrawingMachine$Processor", "crossProduct", "()V"⟩
def y_Pro_readUniform : MethodName := ⟨"DrawingMachine$Processor", "readUniform", "(I)V"⟩
def y_Pro_part : MethodName := ⟨"DrawingMachine$Processor", "part", "(IIII)I"⟩
def y_Sha_take : MethodName := ⟨"DrawingMachine$Shape", "take", "(I[I)V"⟩
def y_Sha_cut : MethodName := ⟨"DrawingMachine$Shape", "cut", "()V"⟩
def y_Sha_cutBy : MethodName := ⟨"DrawingMachine$Shape", "cutBy", "(Z)V"⟩
def y_Sha_inside : MethodName := ⟨"DrawingMachine$Shape", "inside", "([IZ)J"⟩
def y_Sha_between : MethodName := ⟨"DrawingMachine$Shape", "between", "([I[IJJ[I)V"⟩
def y_Sha_layAll : MethodName := ⟨"DrawingMachine$Shape", "layAll", "()V"⟩
def y_Sha_lay : MethodName := ⟨"DrawingMachine$Shape", "lay", "(I)V"⟩
def y_Sha_shifted : MethodName := ⟨"DrawingMachine$Shape", "shifted", "(II)J"⟩
def y_Sha_laid : MethodName := ⟨"DrawingMachine$Shape", "laid", "(JII)I"⟩
def y_Sha_scaled : MethodName := ⟨"DrawingMachine$Shape", "scaled", "(JI)J"⟩
def y_Cov_take : MethodName := ⟨"DrawingMachine$Covering", "take", "(I)J"⟩
def y_Drw_shows : MethodName := ⟨"DrawingMachine$Drawing", "shows", "(J)Z"⟩
def y_Drw_fill : MethodName := ⟨"DrawingMachine$Drawing", "fill", "(LDrawingMachine$Program;)V"⟩
def y_Cov_makeReady : MethodName := ⟨"DrawingMachine$Covering", "makeReady", "(II)V"⟩
def y_Cov_setEdge : MethodName := ⟨"DrawingMachine$Covering", "setEdge", "(III)V"⟩
def y_Cov_leastOf : MethodName := ⟨"DrawingMachine$Covering", "leastOf", "([I)I"⟩
def y_Cov_greatestOf : MethodName := ⟨"DrawingMachine$Covering", "greatestOf", "([I)I"⟩
def y_Cov_covers : MethodName := ⟨"DrawingMachine$Covering", "covers", "(II)Z"⟩
def y_Cov_depthThere : MethodName := ⟨"DrawingMachine$Covering", "depthThere", "()I"⟩
def y_Cov_load : MethodName := ⟨"DrawingMachine$Covering", "load", "(LDrawingMachine$Program;[I)V"⟩
def y_Cov_setShares : MethodName := ⟨"DrawingMachine$Covering", "setShares", "()V"⟩
def y_Mat_max1 : MethodName := ⟨"java/lang/Math", "max", "(JJ)J"⟩
def y_Lng_numberOfLeadingZeros : MethodName := ⟨"java/lang/Long", "numberOfLeadingZeros", "(J)I"⟩
def y_Itg_numberOfLeadingZeros : MethodName := ⟨"java/lang/Integer", "numberOfLeadingZeros", "(I)I"⟩
def y_Cov_valueThere : MethodName := ⟨"DrawingMachine$Covering", "valueThere", "(I)I"⟩
def y_Drw_colourOf : MethodName := ⟨"DrawingMachine$Drawing", "colourOf", "([I)I"⟩
def y_Pic_drawPlace : MethodName := ⟨"DrawingMachine$Picture", "drawPlace", "(IIIII)I"⟩
def y_Told_isOpen : MethodName := ⟨"DrawingMachine$Told", "isOpen", "(II)Z"⟩
def y_Pic_holds : MethodName := ⟨"DrawingMachine$Picture", "holds", "(III)Z"⟩
def y_Pic_doDeed : MethodName := ⟨"DrawingMachine$Picture", "doDeed", "(III)V"⟩
def y_Pic_afterDeed : MethodName := ⟨"DrawingMachine$Picture", "afterDeed", "(III)I"⟩
def y_Pic_channelBits : MethodName := ⟨"DrawingMachine$Picture", "channelBits", "(I)I"⟩
def y_Pic_newColour : MethodName := ⟨"DrawingMachine$Picture", "newColour", "(II)I"⟩
def y_Pic_byLogic : MethodName := ⟨"DrawingMachine$Picture", "byLogic", "(III)I"⟩
def y_Pic_blended : MethodName := ⟨"DrawingMachine$Picture", "blended", "(III)I"⟩
def y_Pic_factor : MethodName := ⟨"DrawingMachine$Picture", "factor", "(IIII)I"⟩
def y_Pic_by255 : MethodName := ⟨"DrawingMachine$Picture", "by255", "(I)I"⟩
def y_Drw_tally : MethodName := ⟨"DrawingMachine$Drawing", "tally", "(I)V"⟩
def y_DM_carryOut : MethodName := ⟨"DrawingMachine", "carryOut", "()I"⟩
def y_Pic_clear : MethodName := ⟨"DrawingMachine$Picture", "clear", "(IIII)V"⟩
def y_Told_keepUniforms : MethodName := ⟨"DrawingMachine$Told", "keepUniforms", "(II[II)V"⟩
def y_DM_readProgram : MethodName := ⟨"DrawingMachine", "readProgram", "(II)I"⟩
def y_Chk_check : MethodName := ⟨"DrawingMachine$Checker", "check", "(LDrawingMachine$Program;Z)V"⟩
def y_Chk_faultAt : MethodName := ⟨"DrawingMachine$Checker", "faultAt", "(LDrawingMachine$Program;IZ)I"⟩
def y_Chk_hasTarget : MethodName := ⟨"DrawingMachine$Checker", "hasTarget", "(I)Z"⟩
def y_Chk_targetMayBe : MethodName := ⟨"DrawingMachine$Checker", "targetMayBe", "(I)Z"⟩
def y_Chk_sourcesMayBe : MethodName := ⟨"DrawingMachine$Checker", "sourcesMayBe", "(III)Z"⟩
def y_Chk_sourceMayBe : MethodName := ⟨"DrawingMachine$Checker", "sourceMayBe", "(ZI)Z"⟩
def y_Chk_numberMayBe : MethodName := ⟨"DrawingMachine$Checker", "numberMayBe", "(IIII)Z"⟩
def y_Chk_tell : MethodName := ⟨"DrawingMachine$Checker", "tell", "(II)V"⟩
def y_Chk_pass : MethodName := ⟨"DrawingMachine$Checker", "pass", "(LDrawingMachine$Program;I)V"⟩
def y_Chk_readBy : MethodName := ⟨"DrawingMachine$Checker", "readBy", "(I)I"⟩
def y_Chk_leavesLoop : MethodName := ⟨"DrawingMachine$Checker", "leavesLoop", "(LDrawingMachine$Program;I)Z"⟩
def y_Drw_turnQuery : MethodName := ⟨"DrawingMachine$Drawing", "turnQuery", "(IZ)V"⟩
def y_DM_copyBack : MethodName := ⟨"DrawingMachine", "copyBack", "()V"⟩
def y_Pic_rowOf : MethodName := ⟨"DrawingMachine$Picture", "rowOf", "(I)[I"⟩
def y_Cou_putWords : MethodName := ⟨"DrawingMachine$Course", "putWords", "(II)V"⟩
def y_Told_keep : MethodName := ⟨"DrawingMachine$Told", "keep", "(I[I)V"⟩
def y_Cou_goOn : MethodName := ⟨"DrawingMachine$Course", "goOn", "(I)V"⟩
def y_law_about : MethodName := ⟨"DrawingMachineLaw", "about", "(LDrawingMachine;I[J)I"⟩
def y_DM_about : MethodName := ⟨"DrawingMachine", "about", "(I)I"⟩
def y_law_at : MethodName := ⟨"DrawingMachineLaw", "at", "(LDrawingMachine;III[J)I"⟩
def y_DM_at : MethodName := ⟨"DrawingMachine", "at", "(III)I"⟩
def y_law_sum : MethodName := ⟨"DrawingMachineLaw", "sum", "(LDrawingMachine;I[J)I"⟩
def y_DM_sum : MethodName := ⟨"DrawingMachine", "sum", "(I)I"⟩
def y_law_query : MethodName := ⟨"DrawingMachineLaw", "query", "(LDrawingMachine;I[J)I"⟩
def y_DM_query : MethodName := ⟨"DrawingMachine", "query", "(I)I"⟩
def y_law_count : MethodName := ⟨"DrawingMachineLaw", "count", "(LDrawingMachine;I[J)I"⟩
def y_DM_count : MethodName := ⟨"DrawingMachine", "count", "(I)I"⟩
def y_Mod_init : MethodName := ⟨"DrawingMachineModel", "<init>", "()V"⟩
def y_Cmd_init : MethodName := ⟨"DrawingMachineModel$DrawCommandsModel", "<init>", "()V"⟩
def y_Cmd_nothingTold : MethodName := ⟨"DrawingMachineModel$DrawCommandsModel", "nothingTold", "()V"⟩
def y_Cmd_many : MethodName := ⟨"DrawingMachineModel$DrawCommandsModel", "many", "(I)I"⟩
def y_Cmd_rowOf : MethodName := ⟨"DrawingMachineModel$DrawCommandsModel", "rowOf", "(II)I"⟩
def y_Cmd_count : MethodName := ⟨"DrawingMachineModel$DrawCommandsModel", "count", "(I)I"⟩
def y_Txm_init : MethodName := ⟨"DrawingMachineModel$TextureUnitsModel", "<init>", "([I)V"⟩
def y_Shm_init : MethodName := ⟨"DrawingMachineModel$ShaderMachineModel", "<init>", "([ILDrawingMachineModel$TextureUnitsModel;)V"⟩
def y_Vwm_init : MethodName := ⟨"DrawingMachineModel$VertexWorkModel", "<init>", "([I)V"⟩
def y_Erm_init : MethodName := ⟨"DrawingMachineModel$EdgeRasterModel", "<init>", "()V"⟩
def y_Ptm_init : MethodName := ⟨"DrawingMachineModel$PlaceTestsModel", "<init>", "()V"⟩
def y_Mod_thrown : MethodName := ⟨"DrawingMachineModel", "thrown", "()I"⟩
def y_Mod_frame : MethodName := ⟨"DrawingMachineModel", "frame", "(III)I"⟩
def y_Mod_in : MethodName := ⟨"DrawingMachineModel", "in", "(JJJ)Z"⟩
def y_Mod_refuse : MethodName := ⟨"DrawingMachineModel", "refuse", "(ZZ)Z"⟩
def y_Cmd_frame : MethodName := ⟨"DrawingMachineModel$DrawCommandsModel", "frame", "(II)V"⟩
def y_Cmd_in : MethodName := ⟨"DrawingMachineModel$DrawCommandsModel", "in", "(JJJ)Z"⟩
def y_Cmd_refuse : MethodName := ⟨"DrawingMachineModel$DrawCommandsModel", "refuse", "(Z)Z"⟩
def y_Ptm_frame : MethodName := ⟨"DrawingMachineModel$PlaceTestsModel", "frame", "(IIII)V"⟩
def y_Ptm_in : MethodName := ⟨"DrawingMachineModel$PlaceTestsModel", "in", "(III)Z"⟩
def y_Ptm_refuse : MethodName := ⟨"DrawingMachineModel$PlaceTestsModel", "refuse", "(ZZ)Z"⟩
def y_Mod_word : MethodName := ⟨"DrawingMachineModel", "word", "(II)I"⟩
def y_Cmd_word : MethodName := ⟨"DrawingMachineModel$DrawCommandsModel", "word", "(II)I"⟩
def y_Mod_look : MethodName := ⟨"DrawingMachineModel", "look", "(I)I"⟩
def y_Mod_feed : MethodName := ⟨"DrawingMachineModel", "feed", "(IIIII)I"⟩
def y_Cmd_put : MethodName := ⟨"DrawingMachineModel$DrawCommandsModel", "put", "(I)I"⟩
def y_Mod_end : MethodName := ⟨"DrawingMachineModel", "end", "(I)V"⟩
def y_Cmd_begin : MethodName := ⟨"DrawingMachineModel$DrawCommandsModel", "begin", "(Z)V"⟩
def y_Cmd_anew : MethodName := ⟨"DrawingMachineModel$DrawCommandsModel", "anew", "()V"⟩
def y_Mod_begin : MethodName := ⟨"DrawingMachineModel", "begin", "(Z)V"⟩
def y_Mod_run : MethodName := ⟨"DrawingMachineModel", "run", "(I)I"⟩
def y_Mod_step : MethodName := ⟨"DrawingMachineModel", "step", "()Z"⟩
def y_Mod_kept : MethodName := ⟨"DrawingMachineModel", "kept", "(III)I"⟩
def y_Cmd_next : MethodName := ⟨"DrawingMachineModel$DrawCommandsModel", "next", "()I"⟩
def y_Cmd_look : MethodName := ⟨"DrawingMachineModel$DrawCommandsModel", "look", "()I"⟩
def y_Cmd_isThere : MethodName := ⟨"DrawingMachineModel$DrawCommandsModel", "isThere", "(I)Z"⟩
def y_Cmd_read : MethodName := ⟨"DrawingMachineModel$DrawCommandsModel", "read", "(I)I"⟩
def y_Cmd_length : MethodName := ⟨"DrawingMachineModel$DrawCommandsModel", "length", "(I)I"⟩
def y_Cmd_may : MethodName := ⟨"DrawingMachineModel$DrawCommandsModel", "may", "(III)Z"⟩
def y_Cmd_isViews : MethodName := ⟨"DrawingMachineModel$DrawCommandsModel", "isViews", "(II)Z"⟩
def y_Cmd_isTextures : MethodName := ⟨"DrawingMachineModel$DrawCommandsModel", "isTextures", "(II)Z"⟩
def y_Cmd_isStencils : MethodName := ⟨"DrawingMachineModel$DrawCommandsModel", "isStencils", "(II)Z"⟩
def y_Cmd_isCopys : MethodName := ⟨"DrawingMachineModel$DrawCommandsModel", "isCopys", "(II)Z"⟩
def y_Cmd_liesRight : MethodName := ⟨"DrawingMachineModel$DrawCommandsModel", "liesRight", "(I)Z"⟩
def y_Cmd_isInMemory : MethodName := ⟨"DrawingMachineModel$DrawCommandsModel", "isInMemory", "(JJ)Z"⟩
def y_Cmd_fitsState : MethodName := ⟨"DrawingMachineModel$DrawCommandsModel", "fitsState", "(I)Z"⟩
def y_Cmd_perform : MethodName := ⟨"DrawingMachineModel$DrawCommandsModel", "perform", "(I)V"⟩
def y_Cmd_keep : MethodName := ⟨"DrawingMachineModel$DrawCommandsModel", "keep", "(I)V"⟩
def y_Mod_settle : MethodName := ⟨"DrawingMachineModel", "settle", "()V"⟩
def y_Ptm_scissors : MethodName := ⟨"DrawingMachineModel$PlaceTestsModel", "scissors", "(IIII)V"⟩
def y_Ptm_depth : MethodName := ⟨"DrawingMachineModel$PlaceTestsModel", "depth", "(IZ)V"⟩
def y_Ptm_stencil : MethodName := ⟨"DrawingMachineModel$PlaceTestsModel", "stencil", "(IIIIIIII)V"⟩
def y_Ptm_blend : MethodName := ⟨"DrawingMachineModel$PlaceTestsModel", "blend", "(IIIIII)V"⟩
def y_Ptm_constant : MethodName := ⟨"DrawingMachineModel$PlaceTestsModel", "constant", "(I)V"⟩
def y_Ptm_logic : MethodName := ⟨"DrawingMachineModel$PlaceTestsModel", "logic", "(I)V"⟩
def y_Ptm_mask : MethodName := ⟨"DrawingMachineModel$PlaceTestsModel", "mask", "(I)V"⟩
def y_Vwm_view : MethodName := ⟨"DrawingMachineModel$VertexWorkModel", "view", "(IIIIII)V"⟩
def y_Vwm_in : MethodName := ⟨"DrawingMachineModel$VertexWorkModel", "in", "(III)Z"⟩
def y_Vwm_refuse : MethodName := ⟨"DrawingMachineModel$VertexWorkModel", "refuse", "(ZZ)Z"⟩
def y_Vwm_faces : MethodName := ⟨"DrawingMachineModel$VertexWorkModel", "faces", "(IZ)V"⟩
def y_Vwm_attribute : MethodName := ⟨"DrawingMachineModel$VertexWorkModel", "attribute", "(IIIII)V"⟩
def y_Txm_picture : MethodName := ⟨"DrawingMachineModel$TextureUnitsModel", "picture", "(IIIIII)V"⟩
def y_Txm_in : MethodName := ⟨"DrawingMachineModel$TextureUnitsModel", "in", "(III)Z"⟩
def y_Txm_refuse : MethodName := ⟨"DrawingMachineModel$TextureUnitsModel", "refuse", "(ZZ)Z"⟩
def y_Txm_manner : MethodName := ⟨"DrawingMachineModel$TextureUnitsModel", "manner", "(IIII)V"⟩
def y_Txm_border : MethodName := ⟨"DrawingMachineModel$TextureUnitsModel", "border", "(IIIII)V"⟩
def y_Ptm_clear : MethodName := ⟨"DrawingMachineModel$PlaceTestsModel", "clear", "(IIII)I"⟩
def y_Ptm_isOpen : MethodName := ⟨"DrawingMachineModel$PlaceTestsModel", "isOpen", "(II)Z"⟩
def y_Ptm_isInFrame : MethodName := ⟨"DrawingMachineModel$PlaceTestsModel", "isInFrame", "(II)Z"⟩
def y_Ptm_placeOf : MethodName := ⟨"DrawingMachineModel$PlaceTestsModel", "placeOf", "(II)I"⟩
def y_Ptm_writeStencil : MethodName := ⟨"DrawingMachineModel$PlaceTestsModel", "writeStencil", "(III)V"⟩
def y_Mod_program : MethodName := ⟨"DrawingMachineModel", "program", "(LDrawingMachineModel$ShaderMachineModel;Z)Z"⟩
def y_Shm_load : MethodName := ⟨"DrawingMachineModel$ShaderMachineModel", "load", "(IIZ)I"⟩
def y_Shm_refuse : MethodName := ⟨"DrawingMachineModel$ShaderMachineModel", "refuse", "(Z)Z"⟩
def y_Shm_check : MethodName := ⟨"DrawingMachineModel$ShaderMachineModel", "check", "([IIZ)I"⟩
def y_Shm_faultOf : MethodName := ⟨"DrawingMachineModel$ShaderMachineModel", "faultOf", "([IIIZ)I"⟩
def y_Shm_kindOf : MethodName := ⟨"DrawingMachineModel$ShaderMachineModel", "kindOf", "([II)I"⟩
def y_Shm_badTarget : MethodName := ⟨"DrawingMachineModel$ShaderMachineModel", "badTarget", "([II)Z"⟩
def y_Shm_hasTarget : MethodName := ⟨"DrawingMachineModel$ShaderMachineModel", "hasTarget", "(I)Z"⟩
def y_Shm_badSources : MethodName := ⟨"DrawingMachineModel$ShaderMachineModel", "badSources", "([II)Z"⟩
def y_Shm_sources : MethodName := ⟨"DrawingMachineModel$ShaderMachineModel", "sources", "(I)I"⟩
def y_Shm_sourceOf : MethodName := ⟨"DrawingMachineModel$ShaderMachineModel", "sourceOf", "([III)I"⟩
def y_Shm_badSource : MethodName := ⟨"DrawingMachineModel$ShaderMachineModel", "badSource", "(IZ)Z"⟩
def y_Shm_badNumber : MethodName := ⟨"DrawingMachineModel$ShaderMachineModel", "badNumber", "([III)Z"⟩
def y_Shm_numberOf : MethodName := ⟨"DrawingMachineModel$ShaderMachineModel", "numberOf", "([II)I"⟩
def y_Shm_depth : MethodName := ⟨"DrawingMachineModel$ShaderMachineModel", "depth", "([II)I"⟩
def y_Shm_no : MethodName := ⟨"DrawingMachineModel$ShaderMachineModel", "no", "(II)I"⟩
def y_Shm_closing : MethodName := ⟨"DrawingMachineModel$ShaderMachineModel", "closing", "([III)I"⟩
def y_Shm_around : MethodName := ⟨"DrawingMachineModel$ShaderMachineModel", "around", "([II)I"⟩
def y_Shm_steps : MethodName := ⟨"DrawingMachineModel$ShaderMachineModel", "steps", "([II)J"⟩
def y_Mod_no : MethodName := ⟨"DrawingMachineModel", "no", "(I)Z"⟩
def y_Mod_isMuch : MethodName := ⟨"DrawingMachineModel", "isMuch", "()Z"⟩
def y_Vwm_triangles : MethodName := ⟨"DrawingMachineModel$VertexWorkModel", "triangles", "(II)I"⟩
def y_Mod_draw : MethodName := ⟨"DrawingMachineModel", "draw", "(IIZ)V"⟩
def y_Vwm_corner : MethodName := ⟨"DrawingMachineModel$VertexWorkModel", "corner", "(III)I"⟩
def y_Mod_corner : MethodName := ⟨"DrawingMachineModel", "corner", "(IIZ)V"⟩
def y_Vwm_index : MethodName := ⟨"DrawingMachineModel$VertexWorkModel", "index", "(III)I"⟩
def y_Vwm_wordAt : MethodName := ⟨"DrawingMachineModel$VertexWorkModel", "wordAt", "(J)I"⟩
def y_Vwm_halfAt : MethodName := ⟨"DrawingMachineModel$VertexWorkModel", "halfAt", "(JI)I"⟩
def y_Vwm_byteAt : MethodName := ⟨"DrawingMachineModel$VertexWorkModel", "byteAt", "(JI)I"⟩
def y_Vwm_fetch : MethodName := ⟨"DrawingMachineModel$VertexWorkModel", "fetch", "(III)I"⟩
def y_Shm_run : MethodName := ⟨"DrawingMachineModel$ShaderMachineModel", "run", "()I"⟩
def y_Shm_take : MethodName := ⟨"DrawingMachineModel$ShaderMachineModel", "take", "(II)V"⟩
def y_Shm_put : MethodName := ⟨"DrawingMachineModel$ShaderMachineModel", "put", "(II)V"⟩
def y_Shm_part : MethodName := ⟨"DrawingMachineModel$ShaderMachineModel", "part", "(II)I"⟩
def y_Shm_product : MethodName := ⟨"DrawingMachineModel$ShaderMachineModel", "product", "(II)I"⟩
def y_Shm_oneBy : MethodName := ⟨"DrawingMachineModel$ShaderMachineModel", "oneBy", "(I)I"⟩
def y_Shm_greatest : MethodName := ⟨"DrawingMachineModel$ShaderMachineModel", "greatest", "(J)I"⟩
def y_Shm_more : MethodName := ⟨"DrawingMachineModel$ShaderMachineModel", "more", "(II)I"⟩
def y_Shm_word : MethodName := ⟨"DrawingMachineModel$ShaderMachineModel", "word", "(I)I"⟩
def y_Shm_sampled : MethodName := ⟨"DrawingMachineModel$ShaderMachineModel", "sampled", "(II)I"⟩
def y_Txm_read : MethodName := ⟨"DrawingMachineModel$TextureUnitsModel", "read", "(IIII)I"⟩
def y_Txm_readLevel : MethodName := ⟨"DrawingMachineModel$TextureUnitsModel", "readLevel", "(IIIIZ)V"⟩
def y_Txm_exponent : MethodName := ⟨"DrawingMachineModel$TextureUnitsModel", "exponent", "(III)I"⟩
def y_Txm_wrapped : MethodName := ⟨"DrawingMachineModel$TextureUnitsModel", "wrapped", "(IIII)V"⟩
def y_Txm_wide : MethodName := ⟨"DrawingMachineModel$TextureUnitsModel", "wide", "(II)I"⟩
def y_Txm_wrap : MethodName := ⟨"DrawingMachineModel$TextureUnitsModel", "wrap", "(III)I"⟩
def y_Txm_high : MethodName := ⟨"DrawingMachineModel$TextureUnitsModel", "high", "(II)I"⟩
def y_Txm_look : MethodName := ⟨"DrawingMachineModel$TextureUnitsModel", "look", "(IIII)V"⟩
def y_Txm_layOut : MethodName := ⟨"DrawingMachineModel$TextureUnitsModel", "layOut", "(I)I"⟩
def y_Txm_lay : MethodName := ⟨"DrawingMachineModel$TextureUnitsModel", "lay", "(IIIIIIII)V"⟩
def y_Txm_ahead : MethodName := ⟨"DrawingMachineModel$TextureUnitsModel", "ahead", "(II)I"⟩
def y_Txm_bit : MethodName := ⟨"DrawingMachineModel$TextureUnitsModel", "bit", "(IJ)I"⟩
def y_Txm_mixRow : MethodName := ⟨"DrawingMachineModel$TextureUnitsModel", "mixRow", "(IIIII)V"⟩
def y_Txm_mix : MethodName := ⟨"DrawingMachineModel$TextureUnitsModel", "mix", "(III)I"⟩
def y_Txm_also : MethodName := ⟨"DrawingMachineModel$TextureUnitsModel", "also", "(I)I"⟩
def y_Vwm_place : MethodName := ⟨"DrawingMachineModel$VertexWorkModel", "place", "(IIIII)V"⟩
def y_Vwm_tell : MethodName := ⟨"DrawingMachineModel$VertexWorkModel", "tell", "(IIIIII)V"⟩
def y_Vwm_vary : MethodName := ⟨"DrawingMachineModel$VertexWorkModel", "vary", "(IIIIII)V"⟩
def y_Vwm_make : MethodName := ⟨"DrawingMachineModel$VertexWorkModel", "make", "()I"⟩
def y_Vwm_cut : MethodName := ⟨"DrawingMachineModel$VertexWorkModel", "cut", "(Z)V"⟩
def y_Vwm_inside : MethodName := ⟨"DrawingMachineModel$VertexWorkModel", "inside", "(IZ)J"⟩
def y_Vwm_between : MethodName := ⟨"DrawingMachineModel$VertexWorkModel", "between", "(IIZ)V"⟩
def y_Vwm_down : MethodName := ⟨"DrawingMachineModel$VertexWorkModel", "down", "(JJ)J"⟩
def y_Vwm_lay : MethodName := ⟨"DrawingMachineModel$VertexWorkModel", "lay", "(IIII)I"⟩
def y_Vwm_depthOf : MethodName := ⟨"DrawingMachineModel$VertexWorkModel", "depthOf", "(IIII)I"⟩
def y_Vwm_side : MethodName := ⟨"DrawingMachineModel$VertexWorkModel", "side", "(I)I"⟩
def y_Vwm_areaOf : MethodName := ⟨"DrawingMachineModel$VertexWorkModel", "areaOf", "(I)J"⟩
def y_Vwm_cornerOf : MethodName := ⟨"DrawingMachineModel$VertexWorkModel", "cornerOf", "(II)I"⟩
def y_Mod_triangle : MethodName := ⟨"DrawingMachineModel", "triangle", "(II)V"⟩
def y_Vwm_got : MethodName := ⟨"DrawingMachineModel$VertexWorkModel", "got", "(III)I"⟩
def y_Erm_corner : MethodName := ⟨"DrawingMachineModel$EdgeRasterModel", "corner", "(IIIII)V"⟩
def y_Erm_in : MethodName := ⟨"DrawingMachineModel$EdgeRasterModel", "in", "(III)Z"⟩
def y_Erm_refuse : MethodName := ⟨"DrawingMachineModel$EdgeRasterModel", "refuse", "(ZZ)Z"⟩
def y_Erm_value : MethodName := ⟨"DrawingMachineModel$EdgeRasterModel", "value", "(III)V"⟩
def y_Mod_edge : MethodName := ⟨"DrawingMachineModel", "edge", "([IZ)I"⟩
def y_Mod_greatest : MethodName := ⟨"DrawingMachineModel", "greatest", "(II)I"⟩
def y_Mod_least : MethodName := ⟨"DrawingMachineModel", "least", "(II)I"⟩
def y_Erm_isCovered : MethodName := ⟨"DrawingMachineModel$EdgeRasterModel", "isCovered", "(II)Z"⟩
def y_Erm_whole : MethodName := ⟨"DrawingMachineModel$EdgeRasterModel", "whole", "()J"⟩
def y_Erm_room : MethodName := ⟨"DrawingMachineModel$EdgeRasterModel", "room", "(IIII)J"⟩
def y_Erm_weightOf : MethodName := ⟨"DrawingMachineModel$EdgeRasterModel", "weightOf", "(III)J"⟩
def y_Erm_from : MethodName := ⟨"DrawingMachineModel$EdgeRasterModel", "from", "(I)I"⟩
def y_Erm_to : MethodName := ⟨"DrawingMachineModel$EdgeRasterModel", "to", "(I)I"⟩
def y_Mod_place : MethodName := ⟨"DrawingMachineModel", "place", "(III)V"⟩
def y_Mod_share : MethodName := ⟨"DrawingMachineModel", "share", "(II)I"⟩
def y_Mod_value : MethodName := ⟨"DrawingMachineModel", "value", "(I)I"⟩
def y_Erm_down : MethodName := ⟨"DrawingMachineModel$EdgeRasterModel", "down", "(JJ)J"⟩
def y_Ptm_draw : MethodName := ⟨"DrawingMachineModel$PlaceTestsModel", "draw", "(IIIIIIII)I"⟩
def y_Ptm_answer : MethodName := ⟨"DrawingMachineModel$PlaceTestsModel", "answer", "(I)I"⟩
def y_Ptm_holds : MethodName := ⟨"DrawingMachineModel$PlaceTestsModel", "holds", "(III)Z"⟩
def y_Ptm_act : MethodName := ⟨"DrawingMachineModel$PlaceTestsModel", "act", "(III)V"⟩
def y_Ptm_deed : MethodName := ⟨"DrawingMachineModel$PlaceTestsModel", "deed", "(III)I"⟩
def y_Ptm_byteOf : MethodName := ⟨"DrawingMachineModel$PlaceTestsModel", "byteOf", "(I)I"⟩
def y_Ptm_bits : MethodName := ⟨"DrawingMachineModel$PlaceTestsModel", "bits", "(I)I"⟩
def y_Ptm_blended : MethodName := ⟨"DrawingMachineModel$PlaceTestsModel", "blended", "(I)I"⟩
def y_Ptm_factor : MethodName := ⟨"DrawingMachineModel$PlaceTestsModel", "factor", "(II)I"⟩
def y_Ptm_nearest : MethodName := ⟨"DrawingMachineModel$PlaceTestsModel", "nearest", "(I)I"⟩
def y_Mod_copy : MethodName := ⟨"DrawingMachineModel", "copy", "()V"⟩
def y_Ptm_show : MethodName := ⟨"DrawingMachineModel$PlaceTestsModel", "show", "(II)I"⟩
def y_Mod_about : MethodName := ⟨"DrawingMachineModel", "about", "(I)I"⟩
def y_Cmd_about : MethodName := ⟨"DrawingMachineModel$DrawCommandsModel", "about", "(I)I"⟩
def y_Mod_at : MethodName := ⟨"DrawingMachineModel", "at", "(III)I"⟩
def y_Mod_sum : MethodName := ⟨"DrawingMachineModel", "sum", "(I)I"⟩
def y_Ptm_sum : MethodName := ⟨"DrawingMachineModel$PlaceTestsModel", "sum", "(I)I"⟩
def y_Mod_query : MethodName := ⟨"DrawingMachineModel", "query", "(I)I"⟩
def y_Mod_count : MethodName := ⟨"DrawingMachineModel", "count", "(I)I"⟩
def isNest : Cond → Bool
  | .fieldLinkNest _ _ _ _ _ _ => true
  | .methodLinkNest _ _ _ _ => true
  | .declares _ => true
  | .castable _ _ => true
  | _ => false
def tw : List Cond := lw_tbl.filter goodWord
def nw : List Cond := lw_tbl.filter isNest
theorem tw_tab {w : Cond} (i : Nat) (h : tables_1[i]? = some w) (hg : goodWord w = true) : w ∈ tw := List.mem_filter.mpr ⟨List.mem_append_right _ (List.mem_of_getElem? h), hg⟩
theorem tw_sel {w : Cond} (i : Nat) (h : (k2_sels lw_privs)[i]? = some w) (hg : goodWord w = true) : w ∈ tw := List.mem_filter.mpr ⟨List.mem_append_left _ (List.mem_of_getElem? h), hg⟩
theorem nw_tab {w : Cond} (i : Nat) (h : tables_1[i]? = some w) (hg : isNest w = true) : w ∈ nw := List.mem_filter.mpr ⟨List.mem_append_right _ (List.mem_of_getElem? h), hg⟩
theorem tw_ok : ∀ w ∈ tw, w ∈ lw_tbl ∧ goodWord w = true := fun w hw => List.mem_filter.mp hw
theorem tw_good {y : MethodName} {b : ByteArray} {n : Nat} {r : Option FieldType} (hm : Cond.code y b n r ∈ tw) : GoodIn tw (Cond.code y b n r :: tw) := fun w hw => by
  rcases List.mem_cons.mp hw with h | h
  · subst h; exact ⟨hm, good_of_word (tw_ok _ hm).2⟩
  · exact ⟨h, good_of_word (tw_ok _ h).2⟩
theorem tw_goodW {y : MethodName} {b : ByteArray} {n : Nat} {r : Option FieldType} {hh : List (Nat × Nat × Nat × Nat)} (hm : Cond.codeWith y b n r hh ∈ tw) : GoodIn tw (Cond.codeWith y b n r hh :: tw) := fun w hw => by
  rcases List.mem_cons.mp hw with h | h
  · subst h; exact ⟨hm, good_of_word (tw_ok _ hm).2⟩
  · exact ⟨h, good_of_word (tw_ok _ h).2⟩
theorem tw_pre {ws : List Cond} (hg : GoodIn tw ws) {l : List Cond} (hl : ∀ w ∈ l, w ∈ tw) : GoodIn tw (l ++ ws) := fun w hw => by
  rcases List.mem_append.mp hw with h | h
  · exact ⟨hl _ h, good_of_word (tw_ok _ (hl _ h)).2⟩
  · exact hg w h
theorem tw_tbl : ∀ w ∈ tw, w ∈ lw_tbl := fun w hw => (tw_ok w hw).1
theorem nw_tbl : ∀ w ∈ nw, w ∈ lw_tbl := fun w hw => (List.mem_filter.mp hw).1
theorem nw_is : ∀ w ∈ nw, isNest w = true := fun w hw => (List.mem_filter.mp hw).2
theorem nw_on : ∀ w ∈ nw, w.onTables = true := fun w hw => by
  have h := nw_is w hw
  cases w <;> first | rfl | (simp [isNest] at h; done)
theorem ao_tbl : Cond.arrayOver (.array .int) ∈ lw_tbl := List.mem_append_right _ (List.mem_of_getElem? (i := 285) (by decide +kernel))
def wN (U : State) : Prop := (∀ w ∈ nw, va_Nw w U) ∧ (Cond.arrayOver (.array .int)).before #[] U = true
theorem wN_same {u U : State} (hv : u.vm = U.vm) (h : wN u) : wN U := ⟨fun w hw => va_Nw.same (nw_on w hw) hv (h.1 w hw), by have h2 := h.2; simp only [Cond.before, Cond.holds, Cond.value] at h2 ⊢; rw [← hv]; exact h2⟩
theorem castable_warm {a b : String} {s U : State} (hW : s.WarmedH U.vm) (hZ : va_Nw (.castable a b) s) : va_Nw (.castable a b) U := va_tabs rfl (rfl : (s.setVm U.vm).vm = U.vm) (by rw [Cond.castable_setVm hW.alike]; exact hZ)
theorem ao_warm {u U : State} (hvm : u.vm.Alike U.vm) (h : (Cond.arrayOver (.array .int)).before #[] u = true) : (Cond.arrayOver (.array .int)).before #[] U = true := by
  obtain ⟨comp, c, k, h1, h2, h3, h4, h5⟩ := arrayOverA_spec h
  obtain ⟨k', hk', he⟩ := hvm.2.2 _ _ h3
  have hi : (U.vm.classes.findIdx? fun (x : Class) => match x.kind with | .array component _ => component == comp | _ => false) = some c := by
    refine (va_idx_bare U.vm comp).symm.trans ?_
    have hbe : U.vm.bare = u.vm.bare := by first | exact hvm.bare_eq | exact hvm.bare_eq.symm
    rw [hbe]
    exact (va_idx_bare u.vm comp).trans h2
  have hkind : k'.kind = .array comp (.array .int) := by rw [he]; exact h4
  have f1 : U.vm.findClass (FieldType.array .int).toString = some comp := by rw [hvm.findClass]; exact h1
  have f2 : U.vm.findClass ("[" ++ (FieldType.array .int).toString) = some c := by rw [hvm.findClass]; exact h5
  unfold Cond.before Cond.holds
  simp only [Cond.value]
  rw [f1, Option.bind_some]
  refine (congrArg (fun o : Option Nat => (o.bind (fun c => (U.vm.classes[c]?).map fun (k : Class) => match k.kind with | .array _ ty => decide (ty = FieldType.array .int) && decide (U.vm.findClass ("[" ++ (FieldType.array .int).toString) = some c) | _ => false) == some true)) hi).trans ?_
  simp [hk', hkind, f2]
theorem wN_warm {s U : State} (hW : s.WarmedH U.vm) (h : wN s) : wN U := ⟨fun w hw => by
  have hh := h.1 w hw
  have h3 := nw_is w hw
  cases w <;> first | exact va_Nw.warmF hW hh | exact va_Nw.warmM hW hh | exact va_Nw.warmD hW hh | exact castable_warm hW hh | (simp [isNest] at h3; done)
  , ao_warm hW.alike h.2⟩
