section
-- ===== PART A: goes FIRST, ahead of the names: the tables' words, and 'selects' of the private methods out of them =====
/-- a private method of a class that the tables say can be made, by its rows of tables_1 -/
def lw_okq (q : MethodName × Nat) : Prop := (q.1.cls ≠ "java/lang/invoke/MethodHandle" ∧ q.1.cls ≠ "java/lang/invoke/VarHandle") ∧ Cond.instantiable q.1.cls q.2 ∈ tables_1 ∧ Cond.privateMethod q.1 ∈ tables_1 ∧ Cond.instanceMethod q.1 ∈ tables_1
theorem lw_p0 : lw_okq (⟨"OneStroke", "isDrummer", "(I)Z"⟩, 13) := ⟨⟨by decide +kernel, by decide +kernel⟩, List.mem_of_getElem? (i := 23) (by decide +kernel), List.mem_of_getElem? (i := 297) (by decide +kernel), List.mem_of_getElem? (i := 298) (by decide +kernel)⟩
theorem lw_p1 : lw_okq (⟨"OneStroke", "think", "()V"⟩, 13) := ⟨⟨by decide +kernel, by decide +kernel⟩, List.mem_of_getElem? (i := 23) (by decide +kernel), List.mem_of_getElem? (i := 497) (by decide +kernel), List.mem_of_getElem? (i := 498) (by decide +kernel)⟩
theorem lw_p2 : lw_okq (⟨"OneStroke", "findMend", "(I)Z"⟩, 13) := ⟨⟨by decide +kernel, by decide +kernel⟩, List.mem_of_getElem? (i := 23) (by decide +kernel), List.mem_of_getElem? (i := 544) (by decide +kernel), List.mem_of_getElem? (i := 545) (by decide +kernel)⟩
theorem lw_p3 : lw_okq (⟨"OneStroke", "findMiscounted", "(LOneStroke$Sheet;I)Z"⟩, 13) := ⟨⟨by decide +kernel, by decide +kernel⟩, List.mem_of_getElem? (i := 23) (by decide +kernel), List.mem_of_getElem? (i := 580) (by decide +kernel), List.mem_of_getElem? (i := 581) (by decide +kernel)⟩
theorem lw_p4 : lw_okq (⟨"OneStroke", "differences", "(LOneStroke$Sheet;)I"⟩, 13) := ⟨⟨by decide +kernel, by decide +kernel⟩, List.mem_of_getElem? (i := 23) (by decide +kernel), List.mem_of_getElem? (i := 584) (by decide +kernel), List.mem_of_getElem? (i := 585) (by decide +kernel)⟩
theorem lw_p5 : lw_okq (⟨"OneStroke$Tape", "isSide", "(III)Z"⟩, 9) := ⟨⟨by decide +kernel, by decide +kernel⟩, List.mem_of_getElem? (i := 168) (by decide +kernel), List.mem_of_getElem? (i := 710) (by decide +kernel), List.mem_of_getElem? (i := 711) (by decide +kernel)⟩
theorem lw_p6 : lw_okq (⟨"OneStroke$Tape", "isPiece", "(II)Z"⟩, 9) := ⟨⟨by decide +kernel, by decide +kernel⟩, List.mem_of_getElem? (i := 168) (by decide +kernel), List.mem_of_getElem? (i := 714) (by decide +kernel), List.mem_of_getElem? (i := 715) (by decide +kernel)⟩
theorem lw_p7 : lw_okq (⟨"OneStrokeModel", "comes", "(II)V"⟩, 34) := ⟨⟨by decide +kernel, by decide +kernel⟩, List.mem_of_getElem? (i := 933) (by decide +kernel), List.mem_of_getElem? (i := 1053) (by decide +kernel), List.mem_of_getElem? (i := 1054) (by decide +kernel)⟩
theorem lw_p8 : lw_okq (⟨"OneStrokeModel", "sets", "(III)V"⟩, 34) := ⟨⟨by decide +kernel, by decide +kernel⟩, List.mem_of_getElem? (i := 933) (by decide +kernel), List.mem_of_getElem? (i := 1057) (by decide +kernel), List.mem_of_getElem? (i := 1058) (by decide +kernel)⟩
theorem lw_p9 : lw_okq (⟨"OneStrokeModel", "isDrummer", "(I)Z"⟩, 34) := ⟨⟨by decide +kernel, by decide +kernel⟩, List.mem_of_getElem? (i := 933) (by decide +kernel), List.mem_of_getElem? (i := 1065) (by decide +kernel), List.mem_of_getElem? (i := 1066) (by decide +kernel)⟩
theorem lw_p10 : lw_okq (⟨"OneStrokeModel", "of", "(II)I"⟩, 34) := ⟨⟨by decide +kernel, by decide +kernel⟩, List.mem_of_getElem? (i := 933) (by decide +kernel), List.mem_of_getElem? (i := 1069) (by decide +kernel), List.mem_of_getElem? (i := 1070) (by decide +kernel)⟩
theorem lw_p11 : lw_okq (⟨"OneStrokeModel", "hears", "(I)Z"⟩, 34) := ⟨⟨by decide +kernel, by decide +kernel⟩, List.mem_of_getElem? (i := 933) (by decide +kernel), List.mem_of_getElem? (i := 1074) (by decide +kernel), List.mem_of_getElem? (i := 1075) (by decide +kernel)⟩
theorem lw_p12 : lw_okq (⟨"OneStrokeModel", "left", "(I)I"⟩, 34) := ⟨⟨by decide +kernel, by decide +kernel⟩, List.mem_of_getElem? (i := 933) (by decide +kernel), List.mem_of_getElem? (i := 1078) (by decide +kernel), List.mem_of_getElem? (i := 1079) (by decide +kernel)⟩
theorem lw_p13 : lw_okq (⟨"OneStrokeModel", "ago", "(II)I"⟩, 34) := ⟨⟨by decide +kernel, by decide +kernel⟩, List.mem_of_getElem? (i := 933) (by decide +kernel), List.mem_of_getElem? (i := 1082) (by decide +kernel), List.mem_of_getElem? (i := 1083) (by decide +kernel)⟩
theorem lw_p14 : lw_okq (⟨"OneStrokeModel", "counts", "(I)I"⟩, 34) := ⟨⟨by decide +kernel, by decide +kernel⟩, List.mem_of_getElem? (i := 933) (by decide +kernel), List.mem_of_getElem? (i := 1086) (by decide +kernel), List.mem_of_getElem? (i := 1087) (by decide +kernel)⟩
theorem lw_p15 : lw_okq (⟨"OneStrokeModel", "textAt", "(I)I"⟩, 34) := ⟨⟨by decide +kernel, by decide +kernel⟩, List.mem_of_getElem? (i := 933) (by decide +kernel), List.mem_of_getElem? (i := 1090) (by decide +kernel), List.mem_of_getElem? (i := 1091) (by decide +kernel)⟩
def lw_privs_1 : List (MethodName × Nat) := [(⟨"OneStroke", "isDrummer", "(I)Z"⟩, 13), (⟨"OneStroke", "think", "()V"⟩, 13), (⟨"OneStroke", "findMend", "(I)Z"⟩, 13), (⟨"OneStroke", "findMiscounted", "(LOneStroke$Sheet;I)Z"⟩, 13), (⟨"OneStroke", "differences", "(LOneStroke$Sheet;)I"⟩, 13), (⟨"OneStroke$Tape", "isSide", "(III)Z"⟩, 9), (⟨"OneStroke$Tape", "isPiece", "(II)Z"⟩, 9), (⟨"OneStrokeModel", "comes", "(II)V"⟩, 34), (⟨"OneStrokeModel", "sets", "(III)V"⟩, 34), (⟨"OneStrokeModel", "isDrummer", "(I)Z"⟩, 34), (⟨"OneStrokeModel", "of", "(II)I"⟩, 34), (⟨"OneStrokeModel", "hears", "(I)Z"⟩, 34), (⟨"OneStrokeModel", "left", "(I)I"⟩, 34), (⟨"OneStrokeModel", "ago", "(II)I"⟩, 34), (⟨"OneStrokeModel", "counts", "(I)I"⟩, 34), (⟨"OneStrokeModel", "textAt", "(I)I"⟩, 34)]
theorem lw_r1 : ∀ q ∈ lw_privs_1, lw_okq q := List.forall_mem_cons.mpr ⟨lw_p0, List.forall_mem_cons.mpr ⟨lw_p1, List.forall_mem_cons.mpr ⟨lw_p2, List.forall_mem_cons.mpr ⟨lw_p3, List.forall_mem_cons.mpr ⟨lw_p4, List.forall_mem_cons.mpr ⟨lw_p5, List.forall_mem_cons.mpr ⟨lw_p6, List.forall_mem_cons.mpr ⟨lw_p7, List.forall_mem_cons.mpr ⟨lw_p8, List.forall_mem_cons.mpr ⟨lw_p9, List.forall_mem_cons.mpr ⟨lw_p10, List.forall_mem_cons.mpr ⟨lw_p11, List.forall_mem_cons.mpr ⟨lw_p12, List.forall_mem_cons.mpr ⟨lw_p13, List.forall_mem_cons.mpr ⟨lw_p14, List.forall_mem_cons.mpr ⟨lw_p15, fun _ h => absurd h List.not_mem_nil⟩⟩⟩⟩⟩⟩⟩⟩⟩⟩⟩⟩⟩⟩⟩⟩
theorem lw_p16 : lw_okq (⟨"OneStrokeModel", "right", "(I)I"⟩, 34) := ⟨⟨by decide +kernel, by decide +kernel⟩, List.mem_of_getElem? (i := 933) (by decide +kernel), List.mem_of_getElem? (i := 1094) (by decide +kernel), List.mem_of_getElem? (i := 1095) (by decide +kernel)⟩
theorem lw_p17 : lw_okq (⟨"OneStrokeModel", "worked", "(I)I"⟩, 34) := ⟨⟨by decide +kernel, by decide +kernel⟩, List.mem_of_getElem? (i := 933) (by decide +kernel), List.mem_of_getElem? (i := 1098) (by decide +kernel), List.mem_of_getElem? (i := 1099) (by decide +kernel)⟩
theorem lw_p18 : lw_okq (⟨"OneStrokeModel", "wakes", "(I)I"⟩, 34) := ⟨⟨by decide +kernel, by decide +kernel⟩, List.mem_of_getElem? (i := 933) (by decide +kernel), List.mem_of_getElem? (i := 1105) (by decide +kernel), List.mem_of_getElem? (i := 1106) (by decide +kernel)⟩
theorem lw_p19 : lw_okq (⟨"OneStrokeModel", "stepFrom", "(II)I"⟩, 34) := ⟨⟨by decide +kernel, by decide +kernel⟩, List.mem_of_getElem? (i := 933) (by decide +kernel), List.mem_of_getElem? (i := 1112) (by decide +kernel), List.mem_of_getElem? (i := 1113) (by decide +kernel)⟩
theorem lw_p20 : lw_okq (⟨"OneStrokeModel", "worth", "(I)I"⟩, 34) := ⟨⟨by decide +kernel, by decide +kernel⟩, List.mem_of_getElem? (i := 933) (by decide +kernel), List.mem_of_getElem? (i := 1116) (by decide +kernel), List.mem_of_getElem? (i := 1117) (by decide +kernel)⟩
theorem lw_p21 : lw_okq (⟨"OneStrokeModel", "becomes", "(II)I"⟩, 34) := ⟨⟨by decide +kernel, by decide +kernel⟩, List.mem_of_getElem? (i := 933) (by decide +kernel), List.mem_of_getElem? (i := 1132) (by decide +kernel), List.mem_of_getElem? (i := 1133) (by decide +kernel)⟩
theorem lw_p22 : lw_okq (⟨"OneStrokeModel", "drawn", "()I"⟩, 34) := ⟨⟨by decide +kernel, by decide +kernel⟩, List.mem_of_getElem? (i := 933) (by decide +kernel), List.mem_of_getElem? (i := 1151) (by decide +kernel), List.mem_of_getElem? (i := 1152) (by decide +kernel)⟩
theorem lw_p23 : lw_okq (⟨"OneStrokeModel", "mayOrder", "(I)Z"⟩, 34) := ⟨⟨by decide +kernel, by decide +kernel⟩, List.mem_of_getElem? (i := 933) (by decide +kernel), List.mem_of_getElem? (i := 1164) (by decide +kernel), List.mem_of_getElem? (i := 1165) (by decide +kernel)⟩
theorem lw_p24 : lw_okq (⟨"OneStrokeModel", "orders", "(I)I"⟩, 34) := ⟨⟨by decide +kernel, by decide +kernel⟩, List.mem_of_getElem? (i := 933) (by decide +kernel), List.mem_of_getElem? (i := 1168) (by decide +kernel), List.mem_of_getElem? (i := 1169) (by decide +kernel)⟩
theorem lw_p25 : lw_okq (⟨"OneStrokeModel", "goesOn", "()I"⟩, 34) := ⟨⟨by decide +kernel, by decide +kernel⟩, List.mem_of_getElem? (i := 933) (by decide +kernel), List.mem_of_getElem? (i := 1181) (by decide +kernel), List.mem_of_getElem? (i := 1182) (by decide +kernel)⟩
theorem lw_p26 : lw_okq (⟨"OneStrokeModel", "laysBy", "()V"⟩, 34) := ⟨⟨by decide +kernel, by decide +kernel⟩, List.mem_of_getElem? (i := 933) (by decide +kernel), List.mem_of_getElem? (i := 1193) (by decide +kernel), List.mem_of_getElem? (i := 1194) (by decide +kernel)⟩
theorem lw_p27 : lw_okq (⟨"OneStrokeModel", "laysBack", "()V"⟩, 34) := ⟨⟨by decide +kernel, by decide +kernel⟩, List.mem_of_getElem? (i := 933) (by decide +kernel), List.mem_of_getElem? (i := 1197) (by decide +kernel), List.mem_of_getElem? (i := 1198) (by decide +kernel)⟩
theorem lw_p28 : lw_okq (⟨"OneStrokeModel", "firstOf", "(I)I"⟩, 34) := ⟨⟨by decide +kernel, by decide +kernel⟩, List.mem_of_getElem? (i := 933) (by decide +kernel), List.mem_of_getElem? (i := 1205) (by decide +kernel), List.mem_of_getElem? (i := 1206) (by decide +kernel)⟩
theorem lw_p29 : lw_okq (⟨"OneStrokeModel", "layFirsts", "(I)V"⟩, 34) := ⟨⟨by decide +kernel, by decide +kernel⟩, List.mem_of_getElem? (i := 933) (by decide +kernel), List.mem_of_getElem? (i := 1220) (by decide +kernel), List.mem_of_getElem? (i := 1221) (by decide +kernel)⟩
theorem lw_p30 : lw_okq (⟨"OneStrokeModel", "spreadOf", "()I"⟩, 34) := ⟨⟨by decide +kernel, by decide +kernel⟩, List.mem_of_getElem? (i := 933) (by decide +kernel), List.mem_of_getElem? (i := 1224) (by decide +kernel), List.mem_of_getElem? (i := 1225) (by decide +kernel)⟩
theorem lw_p31 : lw_okq (⟨"OneStrokeModel", "farOf", "(II)I"⟩, 34) := ⟨⟨by decide +kernel, by decide +kernel⟩, List.mem_of_getElem? (i := 933) (by decide +kernel), List.mem_of_getElem? (i := 1242) (by decide +kernel), List.mem_of_getElem? (i := 1243) (by decide +kernel)⟩
def lw_privs_2 : List (MethodName × Nat) := [(⟨"OneStrokeModel", "right", "(I)I"⟩, 34), (⟨"OneStrokeModel", "worked", "(I)I"⟩, 34), (⟨"OneStrokeModel", "wakes", "(I)I"⟩, 34), (⟨"OneStrokeModel", "stepFrom", "(II)I"⟩, 34), (⟨"OneStrokeModel", "worth", "(I)I"⟩, 34), (⟨"OneStrokeModel", "becomes", "(II)I"⟩, 34), (⟨"OneStrokeModel", "drawn", "()I"⟩, 34), (⟨"OneStrokeModel", "mayOrder", "(I)Z"⟩, 34), (⟨"OneStrokeModel", "orders", "(I)I"⟩, 34), (⟨"OneStrokeModel", "goesOn", "()I"⟩, 34), (⟨"OneStrokeModel", "laysBy", "()V"⟩, 34), (⟨"OneStrokeModel", "laysBack", "()V"⟩, 34), (⟨"OneStrokeModel", "firstOf", "(I)I"⟩, 34), (⟨"OneStrokeModel", "layFirsts", "(I)V"⟩, 34), (⟨"OneStrokeModel", "spreadOf", "()I"⟩, 34), (⟨"OneStrokeModel", "farOf", "(II)I"⟩, 34)]
theorem lw_r2 : ∀ q ∈ lw_privs_2, lw_okq q := List.forall_mem_cons.mpr ⟨lw_p16, List.forall_mem_cons.mpr ⟨lw_p17, List.forall_mem_cons.mpr ⟨lw_p18, List.forall_mem_cons.mpr ⟨lw_p19, List.forall_mem_cons.mpr ⟨lw_p20, List.forall_mem_cons.mpr ⟨lw_p21, List.forall_mem_cons.mpr ⟨lw_p22, List.forall_mem_cons.mpr ⟨lw_p23, List.forall_mem_cons.mpr ⟨lw_p24, List.forall_mem_cons.mpr ⟨lw_p25, List.forall_mem_cons.mpr ⟨lw_p26, List.forall_mem_cons.mpr ⟨lw_p27, List.forall_mem_cons.mpr ⟨lw_p28, List.forall_mem_cons.mpr ⟨lw_p29, List.forall_mem_cons.mpr ⟨lw_p30, List.forall_mem_cons.mpr ⟨lw_p31, fun _ h => absurd h List.not_mem_nil⟩⟩⟩⟩⟩⟩⟩⟩⟩⟩⟩⟩⟩⟩⟩⟩
theorem lw_p32 : lw_okq (⟨"OneStrokeModel", "strokesOfAll", "()I"⟩, 34) := ⟨⟨by decide +kernel, by decide +kernel⟩, List.mem_of_getElem? (i := 933) (by decide +kernel), List.mem_of_getElem? (i := 1259) (by decide +kernel), List.mem_of_getElem? (i := 1260) (by decide +kernel)⟩
theorem lw_p33 : lw_okq (⟨"OneStrokeModel", "parse", "()I"⟩, 34) := ⟨⟨by decide +kernel, by decide +kernel⟩, List.mem_of_getElem? (i := 933) (by decide +kernel), List.mem_of_getElem? (i := 1275) (by decide +kernel), List.mem_of_getElem? (i := 1276) (by decide +kernel)⟩
theorem lw_p34 : lw_okq (⟨"OneStrokeModel", "nextToken", "()V"⟩, 34) := ⟨⟨by decide +kernel, by decide +kernel⟩, List.mem_of_getElem? (i := 933) (by decide +kernel), List.mem_of_getElem? (i := 1279) (by decide +kernel), List.mem_of_getElem? (i := 1280) (by decide +kernel)⟩
theorem lw_p35 : lw_okq (⟨"OneStrokeModel", "isLetter", "(I)Z"⟩, 34) := ⟨⟨by decide +kernel, by decide +kernel⟩, List.mem_of_getElem? (i := 933) (by decide +kernel), List.mem_of_getElem? (i := 1283) (by decide +kernel), List.mem_of_getElem? (i := 1284) (by decide +kernel)⟩
theorem lw_p36 : lw_okq (⟨"OneStrokeModel", "isDigit", "(I)Z"⟩, 34) := ⟨⟨by decide +kernel, by decide +kernel⟩, List.mem_of_getElem? (i := 933) (by decide +kernel), List.mem_of_getElem? (i := 1289) (by decide +kernel), List.mem_of_getElem? (i := 1290) (by decide +kernel)⟩
theorem lw_p37 : lw_okq (⟨"OneStrokeModel", "key", "()I"⟩, 34) := ⟨⟨by decide +kernel, by decide +kernel⟩, List.mem_of_getElem? (i := 933) (by decide +kernel), List.mem_of_getElem? (i := 1295) (by decide +kernel), List.mem_of_getElem? (i := 1296) (by decide +kernel)⟩
theorem lw_p38 : lw_okq (⟨"OneStrokeModel", "isWordAt", "(IIII)Z"⟩, 34) := ⟨⟨by decide +kernel, by decide +kernel⟩, List.mem_of_getElem? (i := 933) (by decide +kernel), List.mem_of_getElem? (i := 1299) (by decide +kernel), List.mem_of_getElem? (i := 1300) (by decide +kernel)⟩
theorem lw_p39 : lw_okq (⟨"OneStrokeModel", "isLong", "(IIIIII)Z"⟩, 34) := ⟨⟨by decide +kernel, by decide +kernel⟩, List.mem_of_getElem? (i := 933) (by decide +kernel), List.mem_of_getElem? (i := 1303) (by decide +kernel), List.mem_of_getElem? (i := 1304) (by decide +kernel)⟩
theorem lw_p40 : lw_okq (⟨"OneStrokeModel", "either", "(I)Z"⟩, 34) := ⟨⟨by decide +kernel, by decide +kernel⟩, List.mem_of_getElem? (i := 933) (by decide +kernel), List.mem_of_getElem? (i := 1307) (by decide +kernel), List.mem_of_getElem? (i := 1308) (by decide +kernel)⟩
theorem lw_p41 : lw_okq (⟨"OneStrokeModel", "both", "(I)Z"⟩, 34) := ⟨⟨by decide +kernel, by decide +kernel⟩, List.mem_of_getElem? (i := 933) (by decide +kernel), List.mem_of_getElem? (i := 1311) (by decide +kernel), List.mem_of_getElem? (i := 1312) (by decide +kernel)⟩
theorem lw_p42 : lw_okq (⟨"OneStrokeModel", "test", "(I)Z"⟩, 34) := ⟨⟨by decide +kernel, by decide +kernel⟩, List.mem_of_getElem? (i := 933) (by decide +kernel), List.mem_of_getElem? (i := 1315) (by decide +kernel), List.mem_of_getElem? (i := 1316) (by decide +kernel)⟩
theorem lw_p43 : lw_okq (⟨"OneStrokeModel", "sum", "(I)Z"⟩, 34) := ⟨⟨by decide +kernel, by decide +kernel⟩, List.mem_of_getElem? (i := 933) (by decide +kernel), List.mem_of_getElem? (i := 1319) (by decide +kernel), List.mem_of_getElem? (i := 1320) (by decide +kernel)⟩
theorem lw_p44 : lw_okq (⟨"OneStrokeModel", "term", "(I)Z"⟩, 34) := ⟨⟨by decide +kernel, by decide +kernel⟩, List.mem_of_getElem? (i := 933) (by decide +kernel), List.mem_of_getElem? (i := 1323) (by decide +kernel), List.mem_of_getElem? (i := 1324) (by decide +kernel)⟩
theorem lw_p45 : lw_okq (⟨"OneStrokeModel", "part0", "(I)Z"⟩, 34) := ⟨⟨by decide +kernel, by decide +kernel⟩, List.mem_of_getElem? (i := 933) (by decide +kernel), List.mem_of_getElem? (i := 1327) (by decide +kernel), List.mem_of_getElem? (i := 1328) (by decide +kernel)⟩
theorem lw_p46 : lw_okq (⟨"OneStrokeModel", "step", "(II)V"⟩, 34) := ⟨⟨by decide +kernel, by decide +kernel⟩, List.mem_of_getElem? (i := 933) (by decide +kernel), List.mem_of_getElem? (i := 1331) (by decide +kernel), List.mem_of_getElem? (i := 1332) (by decide +kernel)⟩
theorem lw_p47 : lw_okq (⟨"OneStrokeModel", "isSign", "(I)Z"⟩, 34) := ⟨⟨by decide +kernel, by decide +kernel⟩, List.mem_of_getElem? (i := 933) (by decide +kernel), List.mem_of_getElem? (i := 1338) (by decide +kernel), List.mem_of_getElem? (i := 1339) (by decide +kernel)⟩
def lw_privs_3 : List (MethodName × Nat) := [(⟨"OneStrokeModel", "strokesOfAll", "()I"⟩, 34), (⟨"OneStrokeModel", "parse", "()I"⟩, 34), (⟨"OneStrokeModel", "nextToken", "()V"⟩, 34), (⟨"OneStrokeModel", "isLetter", "(I)Z"⟩, 34), (⟨"OneStrokeModel", "isDigit", "(I)Z"⟩, 34), (⟨"OneStrokeModel", "key", "()I"⟩, 34), (⟨"OneStrokeModel", "isWordAt", "(IIII)Z"⟩, 34), (⟨"OneStrokeModel", "isLong", "(IIIIII)Z"⟩, 34), (⟨"OneStrokeModel", "either", "(I)Z"⟩, 34), (⟨"OneStrokeModel", "both", "(I)Z"⟩, 34), (⟨"OneStrokeModel", "test", "(I)Z"⟩, 34), (⟨"OneStrokeModel", "sum", "(I)Z"⟩, 34), (⟨"OneStrokeModel", "term", "(I)Z"⟩, 34), (⟨"OneStrokeModel", "part0", "(I)Z"⟩, 34), (⟨"OneStrokeModel", "step", "(II)V"⟩, 34), (⟨"OneStrokeModel", "isSign", "(I)Z"⟩, 34)]
theorem lw_r3 : ∀ q ∈ lw_privs_3, lw_okq q := List.forall_mem_cons.mpr ⟨lw_p32, List.forall_mem_cons.mpr ⟨lw_p33, List.forall_mem_cons.mpr ⟨lw_p34, List.forall_mem_cons.mpr ⟨lw_p35, List.forall_mem_cons.mpr ⟨lw_p36, List.forall_mem_cons.mpr ⟨lw_p37, List.forall_mem_cons.mpr ⟨lw_p38, List.forall_mem_cons.mpr ⟨lw_p39, List.forall_mem_cons.mpr ⟨lw_p40, List.forall_mem_cons.mpr ⟨lw_p41, List.forall_mem_cons.mpr ⟨lw_p42, List.forall_mem_cons.mpr ⟨lw_p43, List.forall_mem_cons.mpr ⟨lw_p44, List.forall_mem_cons.mpr ⟨lw_p45, List.forall_mem_cons.mpr ⟨lw_p46, List.forall_mem_cons.mpr ⟨lw_p47, fun _ h => absurd h List.not_mem_nil⟩⟩⟩⟩⟩⟩⟩⟩⟩⟩⟩⟩⟩⟩⟩⟩
theorem lw_p48 : lw_okq (⟨"OneStrokeModel", "isText", "(I)Z"⟩, 34) := ⟨⟨by decide +kernel, by decide +kernel⟩, List.mem_of_getElem? (i := 933) (by decide +kernel), List.mem_of_getElem? (i := 1346) (by decide +kernel), List.mem_of_getElem? (i := 1347) (by decide +kernel)⟩
theorem lw_p49 : lw_okq (⟨"OneStrokeModel", "setAside", "([I[I)V"⟩, 34) := ⟨⟨by decide +kernel, by decide +kernel⟩, List.mem_of_getElem? (i := 933) (by decide +kernel), List.mem_of_getElem? (i := 1418) (by decide +kernel), List.mem_of_getElem? (i := 1419) (by decide +kernel)⟩
theorem lw_p50 : lw_okq (⟨"OneStrokeModel", "countsOfAll", "()I"⟩, 34) := ⟨⟨by decide +kernel, by decide +kernel⟩, List.mem_of_getElem? (i := 933) (by decide +kernel), List.mem_of_getElem? (i := 1422) (by decide +kernel), List.mem_of_getElem? (i := 1423) (by decide +kernel)⟩
theorem lw_p51 : lw_okq (⟨"OneStrokeModel", "counting", "()I"⟩, 34) := ⟨⟨by decide +kernel, by decide +kernel⟩, List.mem_of_getElem? (i := 933) (by decide +kernel), List.mem_of_getElem? (i := 1438) (by decide +kernel), List.mem_of_getElem? (i := 1439) (by decide +kernel)⟩
def lw_privs_4 : List (MethodName × Nat) := [(⟨"OneStrokeModel", "isText", "(I)Z"⟩, 34), (⟨"OneStrokeModel", "setAside", "([I[I)V"⟩, 34), (⟨"OneStrokeModel", "countsOfAll", "()I"⟩, 34), (⟨"OneStrokeModel", "counting", "()I"⟩, 34)]
theorem lw_r4 : ∀ q ∈ lw_privs_4, lw_okq q := List.forall_mem_cons.mpr ⟨lw_p48, List.forall_mem_cons.mpr ⟨lw_p49, List.forall_mem_cons.mpr ⟨lw_p50, List.forall_mem_cons.mpr ⟨lw_p51, fun _ h => absurd h List.not_mem_nil⟩⟩⟩⟩
def lw_privs : List (MethodName × Nat) := lw_privs_1 ++ (lw_privs_2 ++ (lw_privs_3 ++ (lw_privs_4)))
def lw_tbl : List Cond := k2_sels lw_privs ++ tables_1
theorem lw_privs_ok : ∀ q ∈ lw_privs, lw_okq q := by
  show ∀ q ∈ lw_privs_1 ++ (lw_privs_2 ++ (lw_privs_3 ++ (lw_privs_4))), lw_okq q
  exact List.forall_mem_append.mpr ⟨lw_r1, List.forall_mem_append.mpr ⟨lw_r2, List.forall_mem_append.mpr ⟨lw_r3, lw_r4⟩⟩⟩
theorem goodIn_r {big : List Cond} (ws : List Cond) (ps : List Nat) (hp : ws = ps.filterMap (fun i => big[i]?)) (h : ws.all goodWord = true) : GoodIn big ws := by
  intro w hw
  have h1 := List.all_eq_true.mp h w hw
  rw [hp] at hw
  obtain ⟨i, -, hi⟩ := List.mem_filterMap.mp hw
  have hm : w ∈ big := by first | exact List.mem_of_getElem? hi | exact List.getElem?_mem hi
  exact ⟨hm, good_of_word h1⟩
theorem goodIn_app {big a b : List Cond} (ha : GoodIn big a) (hb : GoodIn big b) : GoodIn big (a ++ b) := fun w h => (List.mem_append.mp h).elim (ha w) (hb w)
theorem goodIn_ca {big a b : List Cond} {c : Cond} (ha : GoodIn big (c :: a)) (hb : GoodIn big b) : GoodIn big (c :: (a ++ b)) := fun w h => (List.mem_cons.mp h).elim (fun e => ha w (List.mem_cons.mpr (Or.inl e))) (fun h => (List.mem_append.mp h).elim (fun h => ha w (List.mem_cons.mpr (Or.inr h))) (hb w))
theorem goodIn_sub {big ws : List Cond} (hm : ∀ w ∈ ws, w ∈ big) (h : ws.all goodWord = true) : GoodIn big ws := fun w hw => ⟨hm w hw, good_of_word (List.all_eq_true.mp h w hw)⟩
def RX0 : String := "OneStroke$Deaf"
def TX0 : u_T := fun k => match k with
  | _ => ("", "", "", false)
def tyX0 : Nat → FieldType := fun k => match k with
  | _ => .int
abbrev wsX00 : List Cond := u_ws RX0 TX0 0
theorem nmX0 : ∀ a, a < 0 → ∀ b, b < 0 → a ≠ b → (TX0 a).2.1 ≠ (TX0 b).2.1 := by decide +kernel
theorem tyX0_ok : ∀ k, k < 0 → parseFieldDescriptor (TX0 k).2.2.1 = some (tyX0 k) := by decide +kernel
abbrev cX0_init : ByteArray := prog_2_method_1_code
def yX0_init : MethodName := ⟨RX0, "<init>", "()V"⟩
abbrev cX0_hears : ByteArray := prog_2_method_2_code
def yX0_hears : MethodName := ⟨RX0, "hears", "(LOneStroke$Line;I)Z"⟩
abbrev cX0_worth : ByteArray := prog_2_method_3_code
def yX0_worth : MethodName := ⟨RX0, "worth", "(I)I"⟩
def RX1 : String := "OneStroke$Drummer"
def TX1 : u_T := fun k => match k with
  | 0 => ("OneStroke$Drummer", "kind", "I", false)
  | 1 => ("OneStroke$Drummer", "start", "I", false)
  | 2 => ("OneStroke$Drummer", "count", "I", false)
  | 3 => ("OneStroke$Drummer", "ago1", "I", false)
  | 4 => ("OneStroke$Drummer", "ago2", "I", false)
  | 5 => ("OneStroke$Drummer", "strokes", "I", false)
  | 6 => ("OneStroke$Drummer", "apart", "I", false)
  | _ => ("OneStroke$Drummer", "first", "I", false)
def tyX1 : Nat → FieldType := fun k => match k with
  | 0 => .int
  | 1 => .int
  | 2 => .int
  | 3 => .int
  | 4 => .int
  | 5 => .int
  | 6 => .int
  | _ => .int
abbrev wsX10 : List Cond := u_ws RX1 TX1 8
theorem nmX1 : ∀ a, a < 8 → ∀ b, b < 8 → a ≠ b → (TX1 a).2.1 ≠ (TX1 b).2.1 := by decide +kernel
theorem tyX1_ok : ∀ k, k < 8 → parseFieldDescriptor (TX1 k).2.2.1 = some (tyX1 k) := by decide +kernel
abbrev cX1_init : ByteArray := prog_3_method_1_code
def yX1_init : MethodName := ⟨RX1, "<init>", "()V"⟩
abbrev cX1_begin : ByteArray := prog_3_method_2_code
def yX1_begin : MethodName := ⟨RX1, "begin", "(II)V"⟩
abbrev cX1_fallStill : ByteArray := prog_3_method_3_code
def yX1_fallStill : MethodName := ⟨RX1, "fallStill", "()V"⟩
abbrev cX1_setAs : ByteArray := prog_3_method_4_code
def yX1_setAs : MethodName := ⟨RX1, "setAs", "(LOneStroke$Drummer;)V"⟩
abbrev cX1_countAgo : ByteArray := prog_3_method_5_code
def yX1_countAgo : MethodName := ⟨RX1, "countAgo", "(I)I"⟩
abbrev cX1_moves : ByteArray := prog_3_method_6_code
def yX1_moves : MethodName := ⟨RX1, "moves", "(II)Z"⟩
def RX2 : String := "OneStroke$Eager"
def TX2 : u_T := fun k => match k with
  | _ => ("", "", "", false)
def tyX2 : Nat → FieldType := fun k => match k with
  | _ => .int
abbrev wsX20 : List Cond := u_ws RX2 TX2 0
theorem nmX2 : ∀ a, a < 0 → ∀ b, b < 0 → a ≠ b → (TX2 a).2.1 ≠ (TX2 b).2.1 := by decide +kernel
theorem tyX2_ok : ∀ k, k < 0 → parseFieldDescriptor (TX2 k).2.2.1 = some (tyX2 k) := by decide +kernel
abbrev cX2_init : ByteArray := prog_4_method_1_code
def yX2_init : MethodName := ⟨RX2, "<init>", "()V"⟩
abbrev cX2_wakesFrom : ByteArray := prog_4_method_2_code
def yX2_wakesFrom : MethodName := ⟨RX2, "wakesFrom", "(I)I"⟩
abbrev cX2_worth : ByteArray := prog_4_method_3_code
def yX2_worth : MethodName := ⟨RX2, "worth", "(I)I"⟩
def RX3 : String := "OneStroke$Kind"
def TX3 : u_T := fun k => match k with
  | _ => ("", "", "", false)
def tyX3 : Nat → FieldType := fun k => match k with
  | _ => .int
abbrev wsX30 : List Cond := u_ws RX3 TX3 0
theorem nmX3 : ∀ a, a < 0 → ∀ b, b < 0 → a ≠ b → (TX3 a).2.1 ≠ (TX3 b).2.1 := by decide +kernel
theorem tyX3_ok : ∀ k, k < 0 → parseFieldDescriptor (TX3 k).2.2.1 = some (tyX3 k) := by decide +kernel
abbrev cX3_init : ByteArray := prog_5_method_1_code
def yX3_init : MethodName := ⟨RX3, "<init>", "()V"⟩
abbrev cX3_hears : ByteArray := prog_5_method_2_code
def yX3_hears : MethodName := ⟨RX3, "hears", "(LOneStroke$Line;I)Z"⟩
abbrev cX3_wakesFrom : ByteArray := prog_5_method_3_code
def yX3_wakesFrom : MethodName := ⟨RX3, "wakesFrom", "(I)I"⟩
abbrev cX3_stepFrom : ByteArray := prog_5_method_4_code
def yX3_stepFrom : MethodName := ⟨RX3, "stepFrom", "(II)I"⟩
abbrev cX3_worth : ByteArray := prog_5_method_5_code
def yX3_worth : MethodName := ⟨RX3, "worth", "(I)I"⟩
def RX4 : String := "OneStroke$Late"
def TX4 : u_T := fun k => match k with
  | _ => ("", "", "", false)
def tyX4 : Nat → FieldType := fun k => match k with
  | _ => .int
abbrev wsX40 : List Cond := u_ws RX4 TX4 0
theorem nmX4 : ∀ a, a < 0 → ∀ b, b < 0 → a ≠ b → (TX4 a).2.1 ≠ (TX4 b).2.1 := by decide +kernel
theorem tyX4_ok : ∀ k, k < 0 → parseFieldDescriptor (TX4 k).2.2.1 = some (tyX4 k) := by decide +kernel
abbrev cX4_init : ByteArray := prog_6_method_1_code
def yX4_init : MethodName := ⟨RX4, "<init>", "()V"⟩
abbrev cX4_wakesFrom : ByteArray := prog_6_method_2_code
def yX4_wakesFrom : MethodName := ⟨RX4, "wakesFrom", "(I)I"⟩
abbrev cX4_worth : ByteArray := prog_6_method_3_code
def yX4_worth : MethodName := ⟨RX4, "worth", "(I)I"⟩
def RX5 : String := "OneStroke$Line"
def TX5 : u_T := fun k => match k with
  | 0 => ("OneStroke$Line", "kinds", "[LOneStroke$Kind;", true)
  | 1 => ("OneStroke$Line", "drummers", "[LOneStroke$Drummer;", true)
  | 2 => ("OneStroke$Line", "texts", "[LOneStroke$Text;", true)
  | 3 => ("OneStroke$Line", "laws", "[I", true)
  | 4 => ("OneStroke$Line", "size", "I", false)
  | 5 => ("OneStroke$Line", "beat", "I", false)
  | 6 => ("OneStroke$Line", "miss", "I", false)
  | 7 => ("OneStroke$Line", "z", "I", false)
  | _ => ("OneStroke$Line", "textCount", "I", false)
def tyX5 : Nat → FieldType := fun k => match k with
  | 0 => .array (.object "OneStroke$Kind")
  | 1 => .array (.object "OneStroke$Drummer")
  | 2 => .array (.object "OneStroke$Text")
  | 3 => .array .int
  | 4 => .int
  | 5 => .int
  | 6 => .int
  | 7 => .int
  | _ => .int
abbrev wsX50 : List Cond := u_ws RX5 TX5 9
theorem nmX5 : ∀ a, a < 9 → ∀ b, b < 9 → a ≠ b → (TX5 a).2.1 ≠ (TX5 b).2.1 := by decide +kernel
theorem tyX5_ok : ∀ k, k < 9 → parseFieldDescriptor (TX5 k).2.2.1 = some (tyX5 k) := by decide +kernel
abbrev cX5_init : ByteArray := prog_7_method_1_code
def yX5_init : MethodName := ⟨RX5, "<init>", "([LOneStroke$Kind;)V"⟩
abbrev cX5_become : ByteArray := prog_7_method_2_code
def yX5_become : MethodName := ⟨RX5, "become", "(LOneStroke$Line;)V"⟩
abbrev cX5_join : ByteArray := prog_7_method_3_code
def yX5_join : MethodName := ⟨RX5, "join", "(II)I"⟩
abbrev cX5_kindOf : ByteArray := prog_7_method_4_code
def yX5_kindOf : MethodName := ⟨RX5, "kindOf", "(LOneStroke$Drummer;)LOneStroke$Kind;"⟩
abbrev cX5_takeLaw : ByteArray := prog_7_method_5_code
def yX5_takeLaw : MethodName := ⟨RX5, "takeLaw", "(LOneStroke$Text;)I"⟩
abbrev cX5_lawOf : ByteArray := prog_7_method_6_code
def yX5_lawOf : MethodName := ⟨RX5, "lawOf", "(I)LOneStroke$Text;"⟩
abbrev cX5_draw : ByteArray := prog_7_method_7_code
def yX5_draw : MethodName := ⟨RX5, "draw", "()I"⟩
abbrev cX5_soundFrom : ByteArray := prog_7_method_8_code
def yX5_soundFrom : MethodName := ⟨RX5, "soundFrom", "(II)I"⟩
abbrev cX5_hearGives : ByteArray := prog_7_method_9_code
def yX5_hearGives : MethodName := ⟨RX5, "hearGives", "(I)I"⟩
abbrev cX5_wakesTo : ByteArray := prog_7_method_10_code
def yX5_wakesTo : MethodName := ⟨RX5, "wakesTo", "(I)I"⟩
abbrev cX5_wake : ByteArray := prog_7_method_11_code
def yX5_wake : MethodName := ⟨RX5, "wake", "(I)V"⟩
abbrev cX5_passOne : ByteArray := prog_7_method_12_code
def yX5_passOne : MethodName := ⟨RX5, "passOne", "()I"⟩
abbrev cX5_nextCount : ByteArray := prog_7_method_13_code
def yX5_nextCount : MethodName := ⟨RX5, "nextCount", "(IZ)I"⟩
abbrev cX5_pass : ByteArray := prog_7_method_14_code
def yX5_pass : MethodName := ⟨RX5, "pass", "(I)I"⟩
abbrev cX5_firstWithStriking : ByteArray := prog_7_method_15_code
def yX5_firstWithStriking : MethodName := ⟨RX5, "firstWithStriking", "(I)I"⟩
abbrev cX5_mostAtOnce : ByteArray := prog_7_method_16_code
def yX5_mostAtOnce : MethodName := ⟨RX5, "mostAtOnce", "(I)I"⟩
abbrev cX5_spreadIn : ByteArray := prog_7_method_17_code
def yX5_spreadIn : MethodName := ⟨RX5, "spreadIn", "(I)I"⟩
abbrev cX5_beatsBetween : ByteArray := prog_7_method_18_code
def yX5_beatsBetween : MethodName := ⟨RX5, "beatsBetween", "(II)I"⟩
abbrev cX5_counting : ByteArray := prog_7_method_19_code
def yX5_counting : MethodName := ⟨RX5, "counting", "()I"⟩
abbrev cX5_countsOfAll : ByteArray := prog_7_method_20_code
def yX5_countsOfAll : MethodName := ⟨RX5, "countsOfAll", "()I"⟩
abbrev cX5_strokesOfAll : ByteArray := prog_7_method_21_code
def yX5_strokesOfAll : MethodName := ⟨RX5, "strokesOfAll", "()I"⟩
def RX6 : String := "OneStroke$Sheet"
def TX6 : u_T := fun k => match k with
  | 0 => ("OneStroke$Sheet", "sort", "I", false)
  | 1 => ("OneStroke$Sheet", "size", "I", false)
  | _ => ("OneStroke$Sheet", "places", "[I", true)
def tyX6 : Nat → FieldType := fun k => match k with
  | 0 => .int
  | 1 => .int
  | _ => .array .int
abbrev wsX60 : List Cond := u_ws RX6 TX6 3
theorem nmX6 : ∀ a, a < 3 → ∀ b, b < 3 → a ≠ b → (TX6 a).2.1 ≠ (TX6 b).2.1 := by decide +kernel
theorem tyX6_ok : ∀ k, k < 3 → parseFieldDescriptor (TX6 k).2.2.1 = some (tyX6 k) := by decide +kernel
abbrev cX6_init : ByteArray := prog_8_method_1_code
def yX6_init : MethodName := ⟨RX6, "<init>", "()V"⟩
abbrev cX6_begin : ByteArray := prog_8_method_2_code
def yX6_begin : MethodName := ⟨RX6, "begin", "(II)V"⟩
abbrev cX6_fillAs : ByteArray := prog_8_method_3_code
def yX6_fillAs : MethodName := ⟨RX6, "fillAs", "(LOneStroke$Sheet;)V"⟩
abbrev cX6_isMissing : ByteArray := prog_8_method_4_code
def yX6_isMissing : MethodName := ⟨RX6, "isMissing", "()Z"⟩
abbrev cX6_hasPlace : ByteArray := prog_8_method_5_code
def yX6_hasPlace : MethodName := ⟨RX6, "hasPlace", "(I)Z"⟩
abbrev cX6_hasPlaces : ByteArray := prog_8_method_6_code
def yX6_hasPlaces : MethodName := ⟨RX6, "hasPlaces", "(II)Z"⟩
abbrev cX6_hasNumber : ByteArray := prog_8_method_7_code
def yX6_hasNumber : MethodName := ⟨RX6, "hasNumber", "(I)Z"⟩
def RX7 : String := "OneStroke$Sleepy"
def TX7 : u_T := fun k => match k with
  | _ => ("", "", "", false)
def tyX7 : Nat → FieldType := fun k => match k with
  | _ => .int
abbrev wsX70 : List Cond := u_ws RX7 TX7 0
theorem nmX7 : ∀ a, a < 0 → ∀ b, b < 0 → a ≠ b → (TX7 a).2.1 ≠ (TX7 b).2.1 := by decide +kernel
theorem tyX7_ok : ∀ k, k < 0 → parseFieldDescriptor (TX7 k).2.2.1 = some (tyX7 k) := by decide +kernel
abbrev cX7_init : ByteArray := prog_9_method_1_code
def yX7_init : MethodName := ⟨RX7, "<init>", "()V"⟩
abbrev cX7_stepFrom : ByteArray := prog_9_method_2_code
def yX7_stepFrom : MethodName := ⟨RX7, "stepFrom", "(II)I"⟩
abbrev cX7_worth : ByteArray := prog_9_method_3_code
def yX7_worth : MethodName := ⟨RX7, "worth", "(I)I"⟩
def RX8 : String := "OneStroke$Tape"
def TX8 : u_T := fun k => match k with
  | 0 => ("OneStroke$Tape", "bytes", "[B", true)
  | 1 => ("OneStroke$Tape", "length", "I", false)
  | 2 => ("OneStroke$Tape", "from", "I", false)
  | 3 => ("OneStroke$Tape", "after", "I", false)
  | 4 => ("OneStroke$Tape", "token", "I", false)
  | 5 => ("OneStroke$Tape", "key", "I", false)
  | 6 => ("OneStroke$Tape", "operands", "I", false)
  | 7 => ("OneStroke$Tape", "codeCount", "I", false)
  | _ => ("OneStroke$Tape", "codes", "[I", true)
def tyX8 : Nat → FieldType := fun k => match k with
  | 0 => .array .byte
  | 1 => .int
  | 2 => .int
  | 3 => .int
  | 4 => .int
  | 5 => .int
  | 6 => .int
  | 7 => .int
  | _ => .array .int
abbrev wsX80 : List Cond := u_ws RX8 TX8 9
theorem nmX8 : ∀ a, a < 9 → ∀ b, b < 9 → a ≠ b → (TX8 a).2.1 ≠ (TX8 b).2.1 := by decide +kernel
theorem tyX8_ok : ∀ k, k < 9 → parseFieldDescriptor (TX8 k).2.2.1 = some (tyX8 k) := by decide +kernel
abbrev cX8_init : ByteArray := prog_10_method_1_code
def yX8_init : MethodName := ⟨RX8, "<init>", "()V"⟩
abbrev cX8_takeIn : ByteArray := prog_10_method_2_code
def yX8_takeIn : MethodName := ⟨RX8, "takeIn", "(I)V"⟩
abbrev cX8_readText : ByteArray := prog_10_method_3_code
def yX8_readText : MethodName := ⟨RX8, "readText", "()LOneStroke$Text;"⟩
abbrev cX8_isText : ByteArray := prog_10_method_4_code
def yX8_isText : MethodName := ⟨RX8, "isText", "()Z"⟩
abbrev cX8_isKey : ByteArray := prog_10_method_5_code
def yX8_isKey : MethodName := ⟨RX8, "isKey", "()Z"⟩
abbrev cX8_isTheWord : ByteArray := prog_10_method_6_code
def yX8_isTheWord : MethodName := ⟨RX8, "isTheWord", "(Ljava/lang/String;)Z"⟩
abbrev cX8_isSide : ByteArray := prog_10_method_7_code
def yX8_isSide : MethodName := ⟨RX8, "isSide", "(III)Z"⟩
abbrev cX8_levelOf : ByteArray := prog_10_method_8_code
def yX8_levelOf : MethodName := ⟨RX8, "levelOf", "(I)I"⟩
abbrev cX8_isPiece : ByteArray := prog_10_method_9_code
def yX8_isPiece : MethodName := ⟨RX8, "isPiece", "(II)Z"⟩
abbrev cX8_isName : ByteArray := prog_10_method_10_code
def yX8_isName : MethodName := ⟨RX8, "isName", "()Z"⟩
abbrev cX8_number : ByteArray := prog_10_method_11_code
def yX8_number : MethodName := ⟨RX8, "number", "()I"⟩
abbrev cX8_takes : ByteArray := prog_10_method_12_code
def yX8_takes : MethodName := ⟨RX8, "takes", "(I)Z"⟩
abbrev cX8_write : ByteArray := prog_10_method_13_code
def yX8_write : MethodName := ⟨RX8, "write", "(I)V"⟩
abbrev cX8_next : ByteArray := prog_10_method_14_code
def yX8_next : MethodName := ⟨RX8, "next", "()V"⟩
abbrev cX8_isWord : ByteArray := prog_10_method_15_code
def yX8_isWord : MethodName := ⟨RX8, "isWord", "()Z"⟩
abbrev cX8_byteAt : ByteArray := prog_10_method_16_code
def yX8_byteAt : MethodName := ⟨RX8, "byteAt", "(I)I"⟩
abbrev cX8_isLetter : ByteArray := prog_10_method_17_code
def yX8_isLetter : MethodName := ⟨RX8, "isLetter", "(I)Z"⟩
abbrev cX8_isDigit : ByteArray := prog_10_method_18_code
def yX8_isDigit : MethodName := ⟨RX8, "isDigit", "(I)Z"⟩
def RX9 : String := "OneStroke$Text"
def TX9 : u_T := fun k => match k with
  | 0 => ("OneStroke$Text", "key", "I", true)
  | 1 => ("OneStroke$Text", "operands", "I", true)
  | 2 => ("OneStroke$Text", "codes", "[I", true)
  | _ => ("OneStroke$Text", "stack", "[I", true)
def tyX9 : Nat → FieldType := fun k => match k with
  | 0 => .int
  | 1 => .int
  | 2 => .array .int
  | _ => .array .int
abbrev wsX90 : List Cond := u_ws RX9 TX9 4
theorem nmX9 : ∀ a, a < 4 → ∀ b, b < 4 → a ≠ b → (TX9 a).2.1 ≠ (TX9 b).2.1 := by decide +kernel
theorem tyX9_ok : ∀ k, k < 4 → parseFieldDescriptor (TX9 k).2.2.1 = some (tyX9 k) := by decide +kernel
abbrev cX9_init : ByteArray := prog_11_method_1_code
def yX9_init : MethodName := ⟨RX9, "<init>", "(II[I)V"⟩
abbrev cX9_wordOf : ByteArray := prog_11_method_2_code
def yX9_wordOf : MethodName := ⟨RX9, "wordOf", "(I)Ljava/lang/String;"⟩
abbrev cX9_namesOf : ByteArray := prog_11_method_3_code
def yX9_namesOf : MethodName := ⟨RX9, "namesOf", "(I)Ljava/lang/String;"⟩
abbrev cX9_gives : ByteArray := prog_11_method_4_code
def yX9_gives : MethodName := ⟨RX9, "gives", "(III)I"⟩
abbrev cX9_joined : ByteArray := prog_11_method_5_code
def yX9_joined : MethodName := ⟨RX9, "joined", "(III)I"⟩
def RX10 : String := "OneStroke$Traitor"
def TX10 : u_T := fun k => match k with
  | _ => ("", "", "", false)
def tyX10 : Nat → FieldType := fun k => match k with
  | _ => .int
abbrev wsX100 : List Cond := u_ws RX10 TX10 0
theorem nmX10 : ∀ a, a < 0 → ∀ b, b < 0 → a ≠ b → (TX10 a).2.1 ≠ (TX10 b).2.1 := by decide +kernel
theorem tyX10_ok : ∀ k, k < 0 → parseFieldDescriptor (TX10 k).2.2.1 = some (tyX10 k) := by decide +kernel
abbrev cX10_init : ByteArray := prog_12_method_1_code
def yX10_init : MethodName := ⟨RX10, "<init>", "()V"⟩
abbrev cX10_stepFrom : ByteArray := prog_12_method_2_code
def yX10_stepFrom : MethodName := ⟨RX10, "stepFrom", "(II)I"⟩
abbrev cX10_worth : ByteArray := prog_12_method_3_code
def yX10_worth : MethodName := ⟨RX10, "worth", "(I)I"⟩
def RX11 : String := "OneStroke"
def TX11 : u_T := fun k => match k with
  | 0 => ("OneStroke", "now", "LOneStroke$Line;", true)
  | 1 => ("OneStroke", "image", "LOneStroke$Line;", true)
  | 2 => ("OneStroke", "thought", "LOneStroke$Line;", true)
  | 3 => ("OneStroke", "imageKept", "Z", false)
  | 4 => ("OneStroke", "tape", "LOneStroke$Tape;", true)
  | 5 => ("OneStroke", "sheets", "[LOneStroke$Sheet;", true)
  | 6 => ("OneStroke", "held", "[I", true)
  | 7 => ("OneStroke", "heldNumbers", "[I", true)
  | 8 => ("OneStroke", "heldDrummers", "[LOneStroke$Drummer;", true)
  | 9 => ("OneStroke", "heldSheets", "[LOneStroke$Sheet;", true)
  | 10 => ("OneStroke", "waiting", "[I", true)
  | 11 => ("OneStroke", "waits", "I", false)
  | _ => ("OneStroke", "found", "[I", true)
def tyX11 : Nat → FieldType := fun k => match k with
  | 0 => .object "OneStroke$Line"
  | 1 => .object "OneStroke$Line"
  | 2 => .object "OneStroke$Line"
  | 3 => .boolean
  | 4 => .object "OneStroke$Tape"
  | 5 => .array (.object "OneStroke$Sheet")
  | 6 => .array .int
  | 7 => .array .int
  | 8 => .array (.object "OneStroke$Drummer")
  | 9 => .array (.object "OneStroke$Sheet")
  | 10 => .array .int
  | 11 => .int
  | _ => .array .int
abbrev wsX110 : List Cond := u_ws RX11 TX11 13
theorem nmX11 : ∀ a, a < 13 → ∀ b, b < 13 → a ≠ b → (TX11 a).2.1 ≠ (TX11 b).2.1 := by decide +kernel
theorem tyX11_ok : ∀ k, k < 13 → parseFieldDescriptor (TX11 k).2.2.1 = some (tyX11 k) := by decide +kernel
abbrev cX11_init : ByteArray := prog_1_method_1_code
def yX11_init : MethodName := ⟨RX11, "<init>", "()V"⟩
abbrev cX11_drummer : ByteArray := prog_1_method_2_code
def yX11_drummer : MethodName := ⟨RX11, "drummer", "(II)I"⟩
abbrev cX11_told : ByteArray := prog_1_method_3_code
def yX11_told : MethodName := ⟨RX11, "told", "(II)I"⟩
abbrev cX11_as : ByteArray := prog_1_method_4_code
def yX11_as : MethodName := ⟨RX11, "as", "(II)I"⟩
abbrev cX11_turns : ByteArray := prog_1_method_5_code
def yX11_turns : MethodName := ⟨RX11, "turns", "(II)I"⟩
abbrev cX11_set : ByteArray := prog_1_method_6_code
def yX11_set : MethodName := ⟨RX11, "set", "(III)I"⟩
abbrev cX11_miss : ByteArray := prog_1_method_7_code
def yX11_miss : MethodName := ⟨RX11, "miss", "(I)I"⟩
abbrev cX11_deal : ByteArray := prog_1_method_8_code
def yX11_deal : MethodName := ⟨RX11, "deal", "(I)I"⟩
abbrev cX11_seed : ByteArray := prog_1_method_9_code
def yX11_seed : MethodName := ⟨RX11, "seed", "(I)I"⟩
abbrev cX11_order : ByteArray := prog_1_method_10_code
def yX11_order : MethodName := ⟨RX11, "order", "(I)I"⟩
abbrev cX11_hush : ByteArray := prog_1_method_11_code
def yX11_hush : MethodName := ⟨RX11, "hush", "()I"⟩
abbrev cX11_beats : ByteArray := prog_1_method_12_code
def yX11_beats : MethodName := ⟨RX11, "beats", "(I)I"⟩
abbrev cX11_behind : ByteArray := prog_1_method_13_code
def yX11_behind : MethodName := ⟨RX11, "behind", "(III)I"⟩
abbrev cX11_soon : ByteArray := prog_1_method_14_code
def yX11_soon : MethodName := ⟨RX11, "soon", "()I"⟩
abbrev cX11_all : ByteArray := prog_1_method_15_code
def yX11_all : MethodName := ⟨RX11, "all", "()I"⟩
abbrev cX11_spread : ByteArray := prog_1_method_16_code
def yX11_spread : MethodName := ⟨RX11, "spread", "(I)I"⟩
abbrev cX11_toWhom : ByteArray := prog_1_method_17_code
def yX11_toWhom : MethodName := ⟨RX11, "toWhom", "(I)I"⟩
abbrev cX11_mend : ByteArray := prog_1_method_18_code
def yX11_mend : MethodName := ⟨RX11, "mend", "(II)I"⟩
abbrev cX11_far : ByteArray := prog_1_method_19_code
def yX11_far : MethodName := ⟨RX11, "far", "(II)I"⟩
abbrev cX11_reach : ByteArray := prog_1_method_20_code
def yX11_reach : MethodName := ⟨RX11, "reach", "(II)I"⟩
abbrev cX11_edge : ByteArray := prog_1_method_21_code
def yX11_edge : MethodName := ⟨RX11, "edge", "(I)I"⟩
abbrev cX11_miscounted : ByteArray := prog_1_method_22_code
def yX11_miscounted : MethodName := ⟨RX11, "miscounted", "(III)I"⟩
abbrev cX11_fine : ByteArray := prog_1_method_23_code
def yX11_fine : MethodName := ⟨RX11, "fine", "()I"⟩
abbrev cX11_feed : ByteArray := prog_1_method_24_code
def yX11_feed : MethodName := ⟨RX11, "feed", "(III)I"⟩
abbrev cX11_trim : ByteArray := prog_1_method_25_code
def yX11_trim : MethodName := ⟨RX11, "trim", "(I)I"⟩
abbrev cX11_text : ByteArray := prog_1_method_26_code
def yX11_text : MethodName := ⟨RX11, "text", "()I"⟩
abbrev cX11_textTold : ByteArray := prog_1_method_27_code
def yX11_textTold : MethodName := ⟨RX11, "textTold", "(II)I"⟩
abbrev cX11_why : ByteArray := prog_1_method_28_code
def yX11_why : MethodName := ⟨RX11, "why", "(I)I"⟩
abbrev cX11_sheet : ByteArray := prog_1_method_29_code
def yX11_sheet : MethodName := ⟨RX11, "sheet", "(III)I"⟩
abbrev cX11_mark : ByteArray := prog_1_method_30_code
def yX11_mark : MethodName := ⟨RX11, "mark", "(III)I"⟩
abbrev cX11_pour : ByteArray := prog_1_method_31_code
def yX11_pour : MethodName := ⟨RX11, "pour", "(I)I"⟩
abbrev cX11_reads : ByteArray := prog_1_method_32_code
def yX11_reads : MethodName := ⟨RX11, "reads", "(II)I"⟩
abbrev cX11_copy : ByteArray := prog_1_method_33_code
def yX11_copy : MethodName := ⟨RX11, "copy", "(IIIII)I"⟩
abbrev cX11_lay : ByteArray := prog_1_method_34_code
def yX11_lay : MethodName := ⟨RX11, "lay", "(III)I"⟩
abbrev cX11_ask : ByteArray := prog_1_method_35_code
def yX11_ask : MethodName := ⟨RX11, "ask", "(II)I"⟩
abbrev cX11_item : ByteArray := prog_1_method_36_code
def yX11_item : MethodName := ⟨RX11, "item", "(II)I"⟩
abbrev cX11_rest : ByteArray := prog_1_method_37_code
def yX11_rest : MethodName := ⟨RX11, "rest", "(II)I"⟩
abbrev cX11_tell : ByteArray := prog_1_method_38_code
def yX11_tell : MethodName := ⟨RX11, "tell", "(I)I"⟩
abbrev cX11_check : ByteArray := prog_1_method_39_code
def yX11_check : MethodName := ⟨RX11, "check", "(I)I"⟩
abbrev cX11_keep : ByteArray := prog_1_method_40_code
def yX11_keep : MethodName := ⟨RX11, "keep", "()I"⟩
abbrev cX11_back : ByteArray := prog_1_method_41_code
def yX11_back : MethodName := ⟨RX11, "back", "()I"⟩
abbrev cX11_count : ByteArray := prog_1_method_42_code
def yX11_count : MethodName := ⟨RX11, "count", "(I)I"⟩
abbrev cX11_isWithin : ByteArray := prog_1_method_43_code
def yX11_isWithin : MethodName := ⟨RX11, "isWithin", "(III)Z"⟩
abbrev cX11_isKind : ByteArray := prog_1_method_44_code
def yX11_isKind : MethodName := ⟨RX11, "isKind", "(I)Z"⟩
abbrev cX11_isSheet : ByteArray := prog_1_method_45_code
def yX11_isSheet : MethodName := ⟨RX11, "isSheet", "(I)Z"⟩
abbrev cX11_isSlot : ByteArray := prog_1_method_46_code
def yX11_isSlot : MethodName := ⟨RX11, "isSlot", "(I)Z"⟩
abbrev cX11_isDrummer : ByteArray := prog_1_method_47_code
def yX11_isDrummer : MethodName := ⟨RX11, "isDrummer", "(I)Z"⟩
abbrev cX11_isOf : ByteArray := prog_1_method_48_code
def yX11_isOf : MethodName := ⟨RX11, "isOf", "(II)Z"⟩
abbrev cX11_withinStarts : ByteArray := prog_1_method_49_code
def yX11_withinStarts : MethodName := ⟨RX11, "withinStarts", "(I)I"⟩
abbrev cX11_think : ByteArray := prog_1_method_50_code
def yX11_think : MethodName := ⟨RX11, "think", "()V"⟩
abbrev cX11_findMend : ByteArray := prog_1_method_51_code
def yX11_findMend : MethodName := ⟨RX11, "findMend", "(I)Z"⟩
abbrev cX11_findMiscounted : ByteArray := prog_1_method_52_code
def yX11_findMiscounted : MethodName := ⟨RX11, "findMiscounted", "(LOneStroke$Sheet;I)Z"⟩
abbrev cX11_differences : ByteArray := prog_1_method_53_code
def yX11_differences : MethodName := ⟨RX11, "differences", "(LOneStroke$Sheet;)I"⟩
def RX12 : String := "OneStrokeModel"
def TX12 : u_T := fun k => match k with
  | 0 => ("OneStrokeModel", "s", "[I", true)
  | 1 => ("OneStrokeModel", "image", "[I", true)
  | 2 => ("OneStrokeModel", "aside", "[I", true)
  | 3 => ("OneStrokeModel", "hasImage", "Z", false)
  | 4 => ("OneStrokeModel", "tSort", "[I", true)
  | 5 => ("OneStrokeModel", "tSize", "[I", true)
  | 6 => ("OneStrokeModel", "tNumber", "[I", true)
  | 7 => ("OneStrokeModel", "held", "[I", true)
  | 8 => ("OneStrokeModel", "heldNumber", "[I", true)
  | 9 => ("OneStrokeModel", "heldWorth", "[I", true)
  | 10 => ("OneStrokeModel", "heldSize", "[I", true)
  | 11 => ("OneStrokeModel", "heldRow", "[I", true)
  | 12 => ("OneStrokeModel", "was", "[I", true)
  | 13 => ("OneStrokeModel", "close", "[I", true)
  | 14 => ("OneStrokeModel", "firstIn", "[I", true)
  | 15 => ("OneStrokeModel", "mostAtOnce", "I", false)
  | 16 => ("OneStrokeModel", "tape", "[I", true)
  | 17 => ("OneStrokeModel", "taped", "I", false)
  | 18 => ("OneStrokeModel", "begin", "I", false)
  | 19 => ("OneStrokeModel", "behind", "I", false)
  | 20 => ("OneStrokeModel", "token", "I", false)
  | 21 => ("OneStrokeModel", "number", "I", false)
  | 22 => ("OneStrokeModel", "letter", "I", false)
  | 23 => ("OneStrokeModel", "deep", "I", false)
  | 24 => ("OneStrokeModel", "turned", "I", false)
  | 25 => ("OneStrokeModel", "laid", "I", false)
  | 26 => ("OneStrokeModel", "laidAt", "I", false)
  | 27 => ("OneStrokeModel", "said", "I", false)
  | 28 => ("OneStrokeModel", "named", "[I", true)
  | 29 => ("OneStrokeModel", "pile", "[I", true)
  | 30 => ("OneStrokeModel", "carried", "[I", true)
  | 31 => ("OneStrokeModel", "waits", "[I", true)
  | 32 => ("OneStrokeModel", "waiting", "I", false)
  | _ => ("OneStrokeModel", "rowDue", "[I", true)
def tyX12 : Nat → FieldType := fun k => match k with
  | 0 => .array .int
  | 1 => .array .int
  | 2 => .array .int
  | 3 => .boolean
  | 4 => .array .int
  | 5 => .array .int
  | 6 => .array .int
  | 7 => .array .int
  | 8 => .array .int
  | 9 => .array .int
  | 10 => .array .int
  | 11 => .array .int
  | 12 => .array .int
  | 13 => .array .int
  | 14 => .array .int
  | 15 => .int
  | 16 => .array .int
  | 17 => .int
  | 18 => .int
  | 19 => .int
  | 20 => .int
  | 21 => .int
  | 22 => .int
  | 23 => .int
  | 24 => .int
  | 25 => .int
  | 26 => .int
  | 27 => .int
  | 28 => .array .int
  | 29 => .array .int
  | 30 => .array .int
  | 31 => .array .int
  | 32 => .int
  | _ => .array .int
abbrev wsX120 : List Cond := u_ws RX12 TX12 34
theorem nmX12 : ∀ a, a < 34 → ∀ b, b < 34 → a ≠ b → (TX12 a).2.1 ≠ (TX12 b).2.1 := by decide +kernel
theorem tyX12_ok : ∀ k, k < 34 → parseFieldDescriptor (TX12 k).2.2.1 = some (tyX12 k) := by decide +kernel
abbrev cX12_init : ByteArray := prog_14_method_1_code
def yX12_init : MethodName := ⟨RX12, "<init>", "()V"⟩
abbrev cX12_isIn : ByteArray := prog_14_method_2_code
def yX12_isIn : MethodName := ⟨RX12, "isIn", "(JJJ)Z"⟩
abbrev cX12_orNone : ByteArray := prog_14_method_3_code
def yX12_orNone : MethodName := ⟨RX12, "orNone", "(I)I"⟩
abbrev cX12_held : ByteArray := prog_14_method_4_code
def yX12_held : MethodName := ⟨RX12, "held", "(III)I"⟩
abbrev cX12_off : ByteArray := prog_14_method_5_code
def yX12_off : MethodName := ⟨RX12, "off", "(II)I"⟩
abbrev cX12_becomes : ByteArray := prog_14_method_6_code
def yX12_becomes : MethodName := ⟨RX12, "becomes", "(II)I"⟩
abbrev cX12_textAt : ByteArray := prog_14_method_7_code
def yX12_textAt : MethodName := ⟨RX12, "textAt", "(I)I"⟩
abbrev cX12_of : ByteArray := prog_14_method_8_code
def yX12_of : MethodName := ⟨RX12, "of", "(II)I"⟩
abbrev cX12_sets : ByteArray := prog_14_method_9_code
def yX12_sets : MethodName := ⟨RX12, "sets", "(III)V"⟩
abbrev cX12_isDrummer : ByteArray := prog_14_method_10_code
def yX12_isDrummer : MethodName := ⟨RX12, "isDrummer", "(I)Z"⟩
abbrev cX12_isText : ByteArray := prog_14_method_11_code
def yX12_isText : MethodName := ⟨RX12, "isText", "(I)Z"⟩
abbrev cX12_drawn : ByteArray := prog_14_method_12_code
def yX12_drawn : MethodName := ⟨RX12, "drawn", "()I"⟩
abbrev cX12_comes : ByteArray := prog_14_method_13_code
def yX12_comes : MethodName := ⟨RX12, "comes", "(II)V"⟩
abbrev cX12_drummer : ByteArray := prog_14_method_14_code
def yX12_drummer : MethodName := ⟨RX12, "drummer", "(II)I"⟩
abbrev cX12_ago : ByteArray := prog_14_method_15_code
def yX12_ago : MethodName := ⟨RX12, "ago", "(II)I"⟩
abbrev cX12_left : ByteArray := prog_14_method_16_code
def yX12_left : MethodName := ⟨RX12, "left", "(I)I"⟩
abbrev cX12_right : ByteArray := prog_14_method_17_code
def yX12_right : MethodName := ⟨RX12, "right", "(I)I"⟩
abbrev cX12_hears : ByteArray := prog_14_method_18_code
def yX12_hears : MethodName := ⟨RX12, "hears", "(I)Z"⟩
abbrev cX12_wakes : ByteArray := prog_14_method_19_code
def yX12_wakes : MethodName := ⟨RX12, "wakes", "(I)I"⟩
abbrev cX12_stepFrom : ByteArray := prog_14_method_20_code
def yX12_stepFrom : MethodName := ⟨RX12, "stepFrom", "(II)I"⟩
abbrev cX12_worth : ByteArray := prog_14_method_21_code
def yX12_worth : MethodName := ⟨RX12, "worth", "(I)I"⟩
abbrev cX12_told : ByteArray := prog_14_method_22_code
def yX12_told : MethodName := ⟨RX12, "told", "(II)I"⟩
abbrev cX12_isOf : ByteArray := prog_14_method_23_code
def yX12_isOf : MethodName := ⟨RX12, "isOf", "(II)Z"⟩
abbrev cX12_as : ByteArray := prog_14_method_24_code
def yX12_as : MethodName := ⟨RX12, "as", "(II)I"⟩
abbrev cX12_turns : ByteArray := prog_14_method_25_code
def yX12_turns : MethodName := ⟨RX12, "turns", "(II)I"⟩
abbrev cX12_set : ByteArray := prog_14_method_26_code
def yX12_set : MethodName := ⟨RX12, "set", "(III)I"⟩
abbrev cX12_miss : ByteArray := prog_14_method_27_code
def yX12_miss : MethodName := ⟨RX12, "miss", "(I)I"⟩
abbrev cX12_deal : ByteArray := prog_14_method_28_code
def yX12_deal : MethodName := ⟨RX12, "deal", "(I)I"⟩
abbrev cX12_seed : ByteArray := prog_14_method_29_code
def yX12_seed : MethodName := ⟨RX12, "seed", "(I)I"⟩
abbrev cX12_mayOrder : ByteArray := prog_14_method_30_code
def yX12_mayOrder : MethodName := ⟨RX12, "mayOrder", "(I)Z"⟩
abbrev cX12_orders : ByteArray := prog_14_method_31_code
def yX12_orders : MethodName := ⟨RX12, "orders", "(I)I"⟩
abbrev cX12_order : ByteArray := prog_14_method_32_code
def yX12_order : MethodName := ⟨RX12, "order", "(I)I"⟩
abbrev cX12_hush : ByteArray := prog_14_method_33_code
def yX12_hush : MethodName := ⟨RX12, "hush", "()I"⟩
abbrev cX12_goesOn : ByteArray := prog_14_method_34_code
def yX12_goesOn : MethodName := ⟨RX12, "goesOn", "()I"⟩
abbrev cX12_ones : ByteArray := prog_14_method_35_code
def yX12_ones : MethodName := ⟨RX12, "ones", "(I)I"⟩
abbrev cX12_beats : ByteArray := prog_14_method_36_code
def yX12_beats : MethodName := ⟨RX12, "beats", "(I)I"⟩
abbrev cX12_laysBy : ByteArray := prog_14_method_37_code
def yX12_laysBy : MethodName := ⟨RX12, "laysBy", "()V"⟩
abbrev cX12_laysBack : ByteArray := prog_14_method_38_code
def yX12_laysBack : MethodName := ⟨RX12, "laysBack", "()V"⟩
abbrev cX12_behind : ByteArray := prog_14_method_39_code
def yX12_behind : MethodName := ⟨RX12, "behind", "(III)I"⟩
abbrev cX12_firstOf : ByteArray := prog_14_method_40_code
def yX12_firstOf : MethodName := ⟨RX12, "firstOf", "(I)I"⟩
abbrev cX12_soon : ByteArray := prog_14_method_41_code
def yX12_soon : MethodName := ⟨RX12, "soon", "()I"⟩
abbrev cX12_all : ByteArray := prog_14_method_42_code
def yX12_all : MethodName := ⟨RX12, "all", "()I"⟩
abbrev cX12_layFirsts : ByteArray := prog_14_method_43_code
def yX12_layFirsts : MethodName := ⟨RX12, "layFirsts", "(I)V"⟩
abbrev cX12_spreadOf : ByteArray := prog_14_method_44_code
def yX12_spreadOf : MethodName := ⟨RX12, "spreadOf", "()I"⟩
abbrev cX12_spread : ByteArray := prog_14_method_45_code
def yX12_spread : MethodName := ⟨RX12, "spread", "(I)I"⟩
abbrev cX12_toWhom : ByteArray := prog_14_method_46_code
def yX12_toWhom : MethodName := ⟨RX12, "toWhom", "(I)I"⟩
abbrev cX12_mend : ByteArray := prog_14_method_47_code
def yX12_mend : MethodName := ⟨RX12, "mend", "(II)I"⟩
abbrev cX12_farOf : ByteArray := prog_14_method_48_code
def yX12_farOf : MethodName := ⟨RX12, "farOf", "(II)I"⟩
abbrev cX12_far : ByteArray := prog_14_method_49_code
def yX12_far : MethodName := ⟨RX12, "far", "(II)I"⟩
abbrev cX12_reach : ByteArray := prog_14_method_50_code
def yX12_reach : MethodName := ⟨RX12, "reach", "(II)I"⟩
abbrev cX12_edge : ByteArray := prog_14_method_51_code
def yX12_edge : MethodName := ⟨RX12, "edge", "(I)I"⟩
abbrev cX12_strokesOfAll : ByteArray := prog_14_method_52_code
def yX12_strokesOfAll : MethodName := ⟨RX12, "strokesOfAll", "()I"⟩
abbrev cX12_fine : ByteArray := prog_14_method_53_code
def yX12_fine : MethodName := ⟨RX12, "fine", "()I"⟩
abbrev cX12_feed : ByteArray := prog_14_method_54_code
def yX12_feed : MethodName := ⟨RX12, "feed", "(III)I"⟩
abbrev cX12_trim : ByteArray := prog_14_method_55_code
def yX12_trim : MethodName := ⟨RX12, "trim", "(I)I"⟩
abbrev cX12_isLetter : ByteArray := prog_14_method_56_code
def yX12_isLetter : MethodName := ⟨RX12, "isLetter", "(I)Z"⟩
abbrev cX12_isDigit : ByteArray := prog_14_method_57_code
def yX12_isDigit : MethodName := ⟨RX12, "isDigit", "(I)Z"⟩
abbrev cX12_nextToken : ByteArray := prog_14_method_58_code
def yX12_nextToken : MethodName := ⟨RX12, "nextToken", "()V"⟩
abbrev cX12_isSign : ByteArray := prog_14_method_59_code
def yX12_isSign : MethodName := ⟨RX12, "isSign", "(I)Z"⟩
abbrev cX12_isWordAt : ByteArray := prog_14_method_60_code
def yX12_isWordAt : MethodName := ⟨RX12, "isWordAt", "(IIII)Z"⟩
abbrev cX12_isLong : ByteArray := prog_14_method_61_code
def yX12_isLong : MethodName := ⟨RX12, "isLong", "(IIIIII)Z"⟩
abbrev cX12_key : ByteArray := prog_14_method_62_code
def yX12_key : MethodName := ⟨RX12, "key", "()I"⟩
abbrev cX12_isName : ByteArray := prog_14_method_63_code
def yX12_isName : MethodName := ⟨RX12, "isName", "(II)Z"⟩
abbrev cX12_step : ByteArray := prog_14_method_64_code
def yX12_step : MethodName := ⟨RX12, "step", "(II)V"⟩
abbrev cX12_either : ByteArray := prog_14_method_65_code
def yX12_either : MethodName := ⟨RX12, "either", "(I)Z"⟩
abbrev cX12_both : ByteArray := prog_14_method_66_code
def yX12_both : MethodName := ⟨RX12, "both", "(I)Z"⟩
abbrev cX12_test : ByteArray := prog_14_method_67_code
def yX12_test : MethodName := ⟨RX12, "test", "(I)Z"⟩
abbrev cX12_sum : ByteArray := prog_14_method_68_code
def yX12_sum : MethodName := ⟨RX12, "sum", "(I)Z"⟩
abbrev cX12_term : ByteArray := prog_14_method_69_code
def yX12_term : MethodName := ⟨RX12, "term", "(I)Z"⟩
abbrev cX12_part0 : ByteArray := prog_14_method_70_code
def yX12_part0 : MethodName := ⟨RX12, "part0", "(I)Z"⟩
abbrev cX12_parse : ByteArray := prog_14_method_71_code
def yX12_parse : MethodName := ⟨RX12, "parse", "()I"⟩
abbrev cX12_text : ByteArray := prog_14_method_72_code
def yX12_text : MethodName := ⟨RX12, "text", "()I"⟩
abbrev cX12_textTold : ByteArray := prog_14_method_73_code
def yX12_textTold : MethodName := ⟨RX12, "textTold", "(II)I"⟩
abbrev cX12_counts : ByteArray := prog_14_method_74_code
def yX12_counts : MethodName := ⟨RX12, "counts", "(I)I"⟩
abbrev cX12_why : ByteArray := prog_14_method_75_code
def yX12_why : MethodName := ⟨RX12, "why", "(I)I"⟩
abbrev cX12_joined : ByteArray := prog_14_method_76_code
def yX12_joined : MethodName := ⟨RX12, "joined", "(III)I"⟩
abbrev cX12_worked : ByteArray := prog_14_method_77_code
def yX12_worked : MethodName := ⟨RX12, "worked", "(I)I"⟩
abbrev cX12_isSheet : ByteArray := prog_14_method_78_code
def yX12_isSheet : MethodName := ⟨RX12, "isSheet", "(I)Z"⟩
abbrev cX12_sheet : ByteArray := prog_14_method_79_code
def yX12_sheet : MethodName := ⟨RX12, "sheet", "(III)I"⟩
abbrev cX12_mark : ByteArray := prog_14_method_80_code
def yX12_mark : MethodName := ⟨RX12, "mark", "(III)I"⟩
abbrev cX12_pour : ByteArray := prog_14_method_81_code
def yX12_pour : MethodName := ⟨RX12, "pour", "(I)I"⟩
abbrev cX12_reads : ByteArray := prog_14_method_82_code
def yX12_reads : MethodName := ⟨RX12, "reads", "(II)I"⟩
abbrev cX12_miscounted : ByteArray := prog_14_method_83_code
def yX12_miscounted : MethodName := ⟨RX12, "miscounted", "(III)I"⟩
abbrev cX12_copy : ByteArray := prog_14_method_84_code
def yX12_copy : MethodName := ⟨RX12, "copy", "(IIIII)I"⟩
abbrev cX12_isSlot : ByteArray := prog_14_method_85_code
def yX12_isSlot : MethodName := ⟨RX12, "isSlot", "(I)Z"⟩
abbrev cX12_lay : ByteArray := prog_14_method_86_code
def yX12_lay : MethodName := ⟨RX12, "lay", "(III)I"⟩
abbrev cX12_ask : ByteArray := prog_14_method_87_code
def yX12_ask : MethodName := ⟨RX12, "ask", "(II)I"⟩
abbrev cX12_item : ByteArray := prog_14_method_88_code
def yX12_item : MethodName := ⟨RX12, "item", "(II)I"⟩
abbrev cX12_rest : ByteArray := prog_14_method_89_code
def yX12_rest : MethodName := ⟨RX12, "rest", "(II)I"⟩
abbrev cX12_tell : ByteArray := prog_14_method_90_code
def yX12_tell : MethodName := ⟨RX12, "tell", "(I)I"⟩
abbrev cX12_setAside : ByteArray := prog_14_method_91_code
def yX12_setAside : MethodName := ⟨RX12, "setAside", "([I[I)V"⟩
abbrev cX12_countsOfAll : ByteArray := prog_14_method_92_code
def yX12_countsOfAll : MethodName := ⟨RX12, "countsOfAll", "()I"⟩
abbrev cX12_check : ByteArray := prog_14_method_93_code
def yX12_check : MethodName := ⟨RX12, "check", "(I)I"⟩
abbrev cX12_keep : ByteArray := prog_14_method_94_code
def yX12_keep : MethodName := ⟨RX12, "keep", "()I"⟩
abbrev cX12_back : ByteArray := prog_14_method_95_code
def yX12_back : MethodName := ⟨RX12, "back", "()I"⟩
abbrev cX12_counting : ByteArray := prog_14_method_96_code
def yX12_counting : MethodName := ⟨RX12, "counting", "()I"⟩
abbrev cX12_count : ByteArray := prog_14_method_97_code
def yX12_count : MethodName := ⟨RX12, "count", "(I)I"⟩
def RJ11 : String := "java/lang/Character"
def TJ11 : u_T := fun k => match k with
  | _ => ("", "", "", false)
def tyJ11 : Nat → FieldType := fun k => match k with
  | _ => .int
theorem nmJ11 : ∀ a, a < 0 → ∀ b, b < 0 → a ≠ b → (TJ11 a).2.1 ≠ (TJ11 b).2.1 := by decide +kernel
theorem tyJ11_ok : ∀ k, k < 0 → parseFieldDescriptor (TJ11 k).2.2.1 = some (tyJ11 k) := by decide +kernel
abbrev cJ11_isValidCodePoint_9a6ad : ByteArray := prog_15_method_11_code
def yJ11_isValidCodePoint_9a6ad : MethodName := ⟨RJ11, "isValidCodePoint", "(I)Z"⟩
abbrev cJ11_highSurrogate_5068e : ByteArray := prog_15_method_28_code
def yJ11_highSurrogate_5068e : MethodName := ⟨RJ11, "highSurrogate", "(I)C"⟩
abbrev cJ11_lowSurrogate_5068e : ByteArray := prog_15_method_29_code
def yJ11_lowSurrogate_5068e : MethodName := ⟨RJ11, "lowSurrogate", "(I)C"⟩
def RJ9 : String := "java/lang/Math"
def TJ9 : u_T := fun k => match k with
  | _ => ("", "", "", false)
def tyJ9 : Nat → FieldType := fun k => match k with
  | _ => .int
theorem nmJ9 : ∀ a, a < 0 → ∀ b, b < 0 → a ≠ b → (TJ9 a).2.1 ≠ (TJ9 b).2.1 := by decide +kernel
theorem tyJ9_ok : ∀ k, k < 0 → parseFieldDescriptor (TJ9 k).2.2.1 = some (tyJ9 k) := by decide +kernel
abbrev cJ9_abs_0f7a4 : ByteArray := prog_17_method_59_code
def yJ9_abs_0f7a4 : MethodName := ⟨RJ9, "abs", "(I)I"⟩
abbrev cJ9_max_7cf53 : ByteArray := prog_17_method_65_code
def yJ9_max_7cf53 : MethodName := ⟨RJ9, "max", "(II)I"⟩
abbrev cJ9_min_7cf53 : ByteArray := prog_17_method_69_code
def yJ9_min_7cf53 : MethodName := ⟨RJ9, "min", "(II)I"⟩
def RJ0 : String := "java/lang/String"
def TJ0 : u_T := fun k => match k with
  | _ => ("", "", "", false)
def tyJ0 : Nat → FieldType := fun k => match k with
  | _ => .int
theorem nmJ0 : ∀ a, a < 0 → ∀ b, b < 0 → a ≠ b → (TJ0 a).2.1 ≠ (TJ0 b).2.1 := by decide +kernel
theorem tyJ0_ok : ∀ k, k < 0 → parseFieldDescriptor (TJ0 k).2.2.1 = some (tyJ0 k) := by decide +kernel
abbrev cJ0_length_8abf5 : ByteArray := prog_18_method_54_code
def yJ0_length_8abf5 : MethodName := ⟨RJ0, "length", "()I"⟩
abbrev cJ0_charAt_5068e : ByteArray := prog_18_method_56_code
def yJ0_charAt_5068e : MethodName := ⟨RJ0, "charAt", "(I)C"⟩
abbrev cJ0_indexOf_0f7a4 : ByteArray := prog_18_method_79_code
def yJ0_indexOf_0f7a4 : MethodName := ⟨RJ0, "indexOf", "(I)I"⟩
abbrev cJ0_indexOf_7cf53 : ByteArray := prog_18_method_80_code
def yJ0_indexOf_7cf53 : MethodName := ⟨RJ0, "indexOf", "(II)I"⟩
abbrev cJ0_coder_7d493 : ByteArray := prog_18_method_152_code
def yJ0_coder_7d493 : MethodName := ⟨RJ0, "coder", "()B"⟩
abbrev cJ0_isLatin1_aae02 : ByteArray := prog_18_method_154_code
def yJ0_isLatin1_aae02 : MethodName := ⟨RJ0, "isLatin1", "()Z"⟩
abbrev cJ0_checkIndex_df160 : ByteArray := prog_18_method_155_code
def yJ0_checkIndex_df160 : MethodName := ⟨RJ0, "checkIndex", "(II)V"⟩
abbrev cJ0_checkBoundsBeginEnd_23922 : ByteArray := prog_18_method_158_code
def yJ0_checkBoundsBeginEnd_23922 : MethodName := ⟨RJ0, "checkBoundsBeginEnd", "(III)V"⟩
def RJ1 : String := "java/lang/StringLatin1"
def TJ1 : u_T := fun k => match k with
  | _ => ("", "", "", false)
def tyJ1 : Nat → FieldType := fun k => match k with
  | _ => .int
theorem nmJ1 : ∀ a, a < 0 → ∀ b, b < 0 → a ≠ b → (TJ1 a).2.1 ≠ (TJ1 b).2.1 := by decide +kernel
theorem tyJ1_ok : ∀ k, k < 0 → parseFieldDescriptor (TJ1 k).2.2.1 = some (tyJ1 k) := by decide +kernel
abbrev cJ1_charAt_3b067 : ByteArray := prog_19_method_2_code
def yJ1_charAt_3b067 : MethodName := ⟨RJ1, "charAt", "([BI)C"⟩
abbrev cJ1_canEncode_9a6ad : ByteArray := prog_19_method_4_code
def yJ1_canEncode_9a6ad : MethodName := ⟨RJ1, "canEncode", "(I)Z"⟩
abbrev cJ1_indexOf_4cfef : ByteArray := prog_19_method_22_code
def yJ1_indexOf_4cfef : MethodName := ⟨RJ1, "indexOf", "([BIII)I"⟩
abbrev cJ1_indexOfChar_4cfef : ByteArray := prog_19_method_23_code
def yJ1_indexOfChar_4cfef : MethodName := ⟨RJ1, "indexOfChar", "([BIII)I"⟩
def RJ2 : String := "java/lang/StringUTF16"
def TJ2 : u_T := fun k => match k with
  | _ => ("", "", "", false)
def tyJ2 : Nat → FieldType := fun k => match k with
  | _ => .int
theorem nmJ2 : ∀ a, a < 0 → ∀ b, b < 0 → a ≠ b → (TJ2 a).2.1 ≠ (TJ2 b).2.1 := by decide +kernel
theorem tyJ2_ok : ∀ k, k < 0 → parseFieldDescriptor (TJ2 k).2.2.1 = some (tyJ2 k) := by decide +kernel
abbrev cJ2_getChar_3b067 : ByteArray := prog_20_method_5_code
def yJ2_getChar_3b067 : MethodName := ⟨RJ2, "getChar", "([BI)C"⟩
abbrev cJ2_length_9d52b : ByteArray := prog_20_method_6_code
def yJ2_length_9d52b : MethodName := ⟨RJ2, "length", "([B)I"⟩
abbrev cJ2_indexOf_4cfef : ByteArray := prog_20_method_40_code
def yJ2_indexOf_4cfef : MethodName := ⟨RJ2, "indexOf", "([BIII)I"⟩
abbrev cJ2_indexOfChar_4cfef : ByteArray := prog_20_method_47_code
def yJ2_indexOfChar_4cfef : MethodName := ⟨RJ2, "indexOfChar", "([BIII)I"⟩
abbrev cJ2_indexOfCharUnsafe_4cfef : ByteArray := prog_20_method_48_code
def yJ2_indexOfCharUnsafe_4cfef : MethodName := ⟨RJ2, "indexOfCharUnsafe", "([BIII)I"⟩
abbrev cJ2_indexOfSupplementary_4cfef : ByteArray := prog_20_method_49_code
def yJ2_indexOfSupplementary_4cfef : MethodName := ⟨RJ2, "indexOfSupplementary", "([BIII)I"⟩
abbrev cJ2_charAt_3b067 : ByteArray := prog_20_method_83_code
def yJ2_charAt_3b067 : MethodName := ⟨RJ2, "charAt", "([BI)C"⟩
abbrev cJ2_checkIndex_2214a : ByteArray := prog_20_method_91_code
def yJ2_checkIndex_2214a : MethodName := ⟨RJ2, "checkIndex", "(I[B)V"⟩
abbrev cJ2_checkBoundsBeginEnd_d044e : ByteArray := prog_20_method_93_code
def yJ2_checkBoundsBeginEnd_d044e : MethodName := ⟨RJ2, "checkBoundsBeginEnd", "(II[B)V"⟩
def RJ10 : String := "java/lang/System"
def TJ10 : u_T := fun k => match k with
  | _ => ("", "", "", false)
def tyJ10 : Nat → FieldType := fun k => match k with
  | _ => .int
theorem nmJ10 : ∀ a, a < 0 → ∀ b, b < 0 → a ≠ b → (TJ10 a).2.1 ≠ (TJ10 b).2.1 := by decide +kernel
theorem tyJ10_ok : ∀ k, k < 0 → parseFieldDescriptor (TJ10 k).2.2.1 = some (tyJ10 k) := by decide +kernel
def RJ7 : String := "java/util/Arrays"
def TJ7 : u_T := fun k => match k with
  | _ => ("", "", "", false)
def tyJ7 : Nat → FieldType := fun k => match k with
  | _ => .int
theorem nmJ7 : ∀ a, a < 0 → ∀ b, b < 0 → a ≠ b → (TJ7 a).2.1 ≠ (TJ7 b).2.1 := by decide +kernel
theorem tyJ7_ok : ∀ k, k < 0 → parseFieldDescriptor (TJ7 k).2.2.1 = some (tyJ7 k) := by decide +kernel
abbrev cJ7_fill_53178 : ByteArray := prog_22_method_103_code
def yJ7_fill_53178 : MethodName := ⟨RJ7, "fill", "([II)V"⟩
abbrev cJ7_copyOf_59c91 : ByteArray := prog_22_method_123_code
def yJ7_copyOf_59c91 : MethodName := ⟨RJ7, "copyOf", "([II)[I"⟩
def RJ3 : String := "jdk/internal/util/Preconditions"
def TJ3 : u_T := fun k => match k with
  | _ => ("", "", "", false)
def tyJ3 : Nat → FieldType := fun k => match k with
  | _ => .int
theorem nmJ3 : ∀ a, a < 0 → ∀ b, b < 0 → a ≠ b → (TJ3 a).2.1 ≠ (TJ3 b).2.1 := by decide +kernel
theorem tyJ3_ok : ∀ k, k < 0 → parseFieldDescriptor (TJ3 k).2.2.1 = some (tyJ3 k) := by decide +kernel
abbrev cJ3_checkIndex_8e157 : ByteArray := prog_23_method_11_code
def yJ3_checkIndex_8e157 : MethodName := ⟨RJ3, "checkIndex", "(IILjava/util/function/BiFunction;)I"⟩
abbrev cJ3_checkFromToIndex_8c36e : ByteArray := prog_23_method_12_code
def yJ3_checkFromToIndex_8c36e : MethodName := ⟨RJ3, "checkFromToIndex", "(IIILjava/util/function/BiFunction;)I"⟩
def RL : String := "OneStrokeLaw"
abbrev cL_law : ByteArray := code
def yL_law : MethodName := ⟨RL, "law", "([I)Z"⟩
abbrev vwCl : List vw_C := [(RX0, TX0, 0), (RX1, TX1, 8), (RX2, TX2, 0), (RX3, TX3, 0), (RX4, TX4, 0), (RX5, TX5, 9), (RX6, TX6, 3), (RX7, TX7, 0), (RX8, TX8, 9), (RX9, TX9, 4), (RX10, TX10, 0), (RX11, TX11, 13), (RX12, TX12, 34)]
end
section
/-! ===== an interpreter over abstract cells: a cell is (role, number); all that changes are ints; references are fixed by the layout (but texts) ===== -/
abbrev sv_V : Type := Int32 ⊕ (Int64 ⊕ Option (Nat × Nat))
abbrev sv_S : Type := Nat → Nat → Nat → Int32
abbrev sv_I (n : Int32) : sv_V := .inl n
abbrev sv_L (n : Int64) : sv_V := .inr (.inl n)
abbrev sv_N : sv_V := .inr (.inr none)
abbrev sv_R (r i : Nat) : sv_V := .inr (.inr (some (r, i)))
def sv_up (σ : sv_S) (r i k : Nat) (n : Int32) : sv_S := fun r' i' k' => if r' = r ∧ i' = i ∧ k' = k then n else σ r' i' k'
def sv_c (ad : Nat → Nat → Nat) : sv_V → Value
  | .inl n => .int n
  | .inr (.inl n) => .long n
  | .inr (.inr none) => .null
  | .inr (.inr (some (r, i))) => .ref (ad r i)
/-- the class (its place in vwCl) or the element type of a cell: 0 int, 1 byte, 2 Drummer, 3 Text, 4 Kind, 5 Sheet, 6 the static row ABOVE, 7 a text constant -/
def sv_kd (r i : Nat) : Nat ⊕ Nat := match r with
  | 0 => .inl 11
  | 1 => .inl 5
  | 2 => .inl 1
  | 3 => .inr 2
  | 4 => .inr 3
  | 5 => .inr 0
  | 6 => .inr 4
  | 7 => .inl (match i with
    | 0 => 3
    | 1 => 7
    | 2 => 2
    | 3 => 4
    | 4 => 10
    | _ => 0)
  | 8 => .inl 8
  | 9 => .inr 1
  | 10 => .inr 0
  | 11 => .inr 5
  | 12 => .inl 6
  | 13 => .inr 0
  | 14 => .inr 0
  | 15 => .inr 0
  | 16 => .inr 0
  | 17 => .inr 0
  | 18 => .inl 9
  | 19 => .inr 0
  | 20 => .inr 0
  | 21 => .inr 6
  | 23 => .inl 13
  | 24 => .inr 8
  | 25 => .inr 7
  | 30 => .inl 12
  | 31 => .inr 0
  | _ => .inr 9
/-- fields of OneStrokeModel that are rows -/
def sv_ar (k : Nat) : Bool := match k with
  | 3 => false
  | 15 => false
  | 17 => false
  | 18 => false
  | 19 => false
  | 20 => false
  | 21 => false
  | 22 => false
  | 23 => false
  | 24 => false
  | 25 => false
  | 26 => false
  | 27 => false
  | 32 => false
  | _ => true
/-- a field that is a reference: to which cell -/
def sv_fr (c i k : Nat) : Option (Nat × Nat) := match c with
  | 11 => (match k with
    | 0 => some (1, 0)
    | 1 => some (1, 1)
    | 2 => some (1, 2)
    | 4 => some (8, 0)
    | 5 => some (11, 0)
    | 6 => some (14, 0)
    | 7 => some (15, 0)
    | 8 => some (3, 3)
    | 9 => some (11, 1)
    | 10 => some (16, 0)
    | 12 => some (17, 0)
    | _ => none)
  | 5 => (match k with
    | 0 => some (6, 0)
    | 1 => some (3, i)
    | 2 => some (4, i)
    | 3 => some (5, i)
    | _ => none)
  | 8 => (match k with
    | 0 => some (9, 0)
    | 8 => some (10, 0)
    | _ => none)
  | 6 => (match k with
    | 2 => some (13, i)
    | _ => none)
  | 9 => (match k with
    | 2 => some (19, i)
    | 3 => some (20, i)
    | _ => none)
  | 12 => bif sv_ar k then some (31, k) else none
  | 13 => (match k with
    | 0 => some (25, i)
    | _ => none)
  | _ => none
/-- what may be put into a field: 0 an int, 1 a boolean, 2 nothing -/
def sv_ft (c k : Nat) : Nat := match c with
  | 11 => (match k with
    | 3 => 1
    | 11 => 0
    | _ => 2)
  | 5 => (match k with
    | 0 => 2
    | 1 => 2
    | 2 => 2
    | 3 => 2
    | _ => 0)
  | 1 => 0
  | 8 => (match k with
    | 0 => 2
    | 8 => 2
    | _ => 0)
  | 6 => (match k with
    | 2 => 2
    | _ => 0)
  | 12 => (match k with
    | 3 => 1
    | _ => bif sv_ar k then 2 else 0)
  | _ => 2
/-- how many fields an object of a class has -/
def sv_nf (c : Nat) : Nat := match c with
  | 1 => 8
  | 5 => 9
  | 6 => 3
  | 8 => 9
  | 9 => 4
  | 11 => 13
  | 12 => 34
  | 13 => 2
  | _ => 0
/-- a choice that computing doesn't look into -/
noncomputable def sv_if {α : Type} (c : Prop) (a b : α) : α := @ite α c (Classical.propDecidable c) a b
noncomputable def sv_tx {α : Type} (n : Int32) (k0 : α) (k1 : Nat → α) : α := sv_if (n = 0) k0 (k1 (n.toNatClampNeg - 1))
def sv_df (c i k : Nat) (n : Int32) : sv_V := match sv_fr c i k with
  | some q => .inr (.inr (some q))
  | none => .inl n
/-- the value in a place of a row -/
noncomputable def sv_de (t i k : Nat) (n : Int32) : sv_V := match t with
  | 2 => sv_R 2 (10 * i + k)
  | 3 => sv_tx n sv_N (fun t => sv_R 18 t)
  | 4 => sv_R 7 k
  | 5 => sv_R 12 (4 * i + k)
  | _ => .inl n
noncomputable def sv_dc (r i k : Nat) (n : Int32) : sv_V := match sv_kd r i with
  | .inl c => sv_df c i k n
  | .inr t => sv_de t i k n
def sv_ab (k : Nat) : Int32 := match k with
  | 0 => -1
  | 1 => 0
  | 2 => 0
  | 3 => 1
  | 4 => 2
  | _ => 0
/-- text constants: their lengths, their bytes -/
def sv_tl : List Nat := [4, 5, 4, 3, 3, 2]
def sv_tb : List (List Int32) := [[104, 101, 97, 114], [115, 116, 97, 114, 116], [102, 105, 110, 101], [108, 114, 110], [115, 110, 98], [109, 98]]
/-- how many texts there are -/
def sv_ct (σ : sv_S) : Nat := (σ 22 0 0).toNatClampNeg
/-- rows of OneStrokeModel: how long -/
def sv_ml (k : Nat) : Nat := match k with
  | 0 => 3086
  | 1 => 3086
  | 2 => 3086
  | 4 => 4
  | 5 => 4
  | 6 => 96
  | 7 => 5
  | 8 => 5
  | 9 => 5
  | 10 => 5
  | 11 => 120
  | 12 => 10
  | 13 => 86
  | 14 => 10
  | 16 => 96
  | 28 => 128
  | 29 => 100
  | 30 => 24
  | 31 => 60
  | _ => 60
def sv_ln (r i : Nat) (σ : sv_S) : Nat := match r with
  | 3 => (match i with
    | 3 => 5
    | _ => 10)
  | 4 => 14
  | 5 => 3
  | 6 => 6
  | 9 => 96
  | 10 => 96
  | 11 => (match i with
    | 0 => 4
    | _ => 5)
  | 13 => 24
  | 14 => 5
  | 15 => 5
  | 16 => 60
  | 17 => 3
  | 19 => (σ 18 i 9).toNatClampNeg
  | 20 => (σ 18 i 1).toNatClampNeg
  | 21 => 6
  | 31 => sv_ml i
  | _ => 0
/-- how many cells of a role there are, if there are n texts -/
def sv_nb (n r : Nat) : Nat := match r with
  | 0 => 1
  | 1 => 3
  | 2 => 35
  | 3 => 4
  | 4 => 3
  | 5 => 3
  | 6 => 1
  | 7 => 6
  | 8 => 1
  | 9 => 1
  | 10 => 1
  | 11 => 2
  | 12 => 9
  | 13 => 9
  | 14 => 1
  | 15 => 1
  | 16 => 1
  | 17 => 1
  | 18 => n
  | 19 => n
  | 20 => n
  | 21 => 1
  | 23 => 6
  | 24 => 1
  | 25 => 6
  | 30 => 1
  | 31 => 34
  | _ => 0
def sv_lv (n r i : Nat) : Prop := i < sv_nb n r ∧ (r = 31 → sv_ar i = true)
def sv_ok (n : Nat) (v : sv_V) : Prop := match v with
  | .inr (.inr (some (r, i))) => sv_lv n r i
  | _ => True
/-- by its number out of a list -/
def sv_lk {α : Type} (i : Nat) : List (Nat × α) → Option α
  | [] => none
  | q :: l => bif Nat.beq i q.1 then some q.2 else sv_lk i l
/-! the code of a method, its links, its calls -/
/-- a row of the code: the instruction, its constant, the next pc, a branch's target, a switch's targets -/
abbrev sv_W : Type := Instr × (sv_V × (Nat × (Nat × List (Int × Nat))))
abbrev sv_C : Type := List (Nat × sv_W)
def sv_at (pc : Nat) : sv_C → Option sv_W
  | [] => none
  | q :: l => bif Nat.beq pc q.1 then some q.2 else sv_at pc l
abbrev sv_Lo : Type := List (Option sv_V)
def sv_ga : sv_Lo → Nat → Option sv_V
  | [], _ => none
  | a :: _, 0 => a
  | _ :: l, n + 1 => sv_ga l n
def sv_se : sv_Lo → Nat → sv_V → sv_Lo
  | [], _, _ => []
  | _ :: l, 0, v => some v :: l
  | a :: l, n + 1, v => a :: sv_se l n v
/-- what a call does: an int; nothing; a cell of a role; a text or null -/
abbrev sv_F : Type := (List sv_V → sv_S → Option (Int32 × sv_S)) ⊕ ((List sv_V → sv_S → Option sv_S) ⊕ ((Nat × (List sv_V → sv_S → Option (Nat × sv_S))) ⊕ (List sv_V → sv_S → Option (Option Nat × sv_S))))
/-- links of a method: fields (class, slot), constants, the statics (1 ABOVE, 2 COMPACT_STRINGS), whether locals hold no longs, calls by their pc (how many values they take); the law's script -/
abbrev sv_E : Type := (Nat → Option (Nat × Nat)) × ((Nat → Option sv_V) × ((Nat → Nat) × (Bool × ((Nat → Option (Nat × sv_F)) × Option (Nat × (Nat → Int32))))))
def sv_b {α β : Type} (x : Option (α × sv_S)) (k : α → sv_S → Option β) : Option β := match x with
  | some (a, σ) => k a σ
  | none => none
def sv_b0 {β : Type} (x : Option sv_S) (k : sv_S → Option β) : Option β := match x with
  | some σ => k σ
  | none => none
def sv_bT {β : Type} (x : Option (Option Nat × sv_S)) (k0 : sv_S → Option β) (k1 : Nat → sv_S → Option β) : Option β := match x with
  | some (none, σ) => k0 σ
  | some (some t, σ) => k1 t σ
  | none => none
noncomputable def sv_g {β : Type} (c : Prop) (x : Option β) : Option β := sv_if c x none
/-- an index within -/
abbrev sv_in (i : Int32) (n : Nat) : Prop := 0 ≤ i.toInt ∧ i.toInt < n
def sv_tk : Nat → List sv_V → List sv_V → Option (List sv_V × List sv_V)
  | 0, acc, st => some (acc, st)
  | n + 1, acc, v :: st => sv_tk n (v :: acc) st
  | _ + 1, _, [] => none
def sv_sm (st : List sv_V) : Bool := match st with
  | [] => true
  | [_] => true
  | [_, _] => true
  | [_, _, _] => true
  | [_, _, _, _] => true
  | _ => false
/-- a switch -/
noncomputable def sv_sw {β : Type} (x : Int) (d : Nat) (go : Nat → Option β) : List (Int × Nat) → Option β
  | [] => go d
  | q :: l => sv_if (x = q.1) (go q.2) (sv_sw x d go l)
/-- a branch -/
noncomputable def sv_br {β : Type} (c : ClassFile.Cond) (x y : Int32) (t f : Option β) : Option β := match c with
  | .eq => sv_if (x = y) t f
  | .ne => sv_if (x = y) f t
  | .lt => sv_if (x < y) t f
  | .ge => sv_if (y ≤ x) t f
  | .gt => sv_if (y < x) t f
  | .le => sv_if (x ≤ y) t f
/-- a call -/
noncomputable def sv_cl {β : Type} (E : sv_E) (pc nx : Nat) (lo : sv_Lo) (st : List sv_V) (σ : sv_S) (go : Nat → sv_Lo → List sv_V → sv_S → Option β) : Option β :=
  match E.2.2.2.2.1 pc with
  | none => none
  | some (n, f) => match sv_tk n [] st with
    | none => none
    | some (as, rest) => bif sv_sm rest then (match f with
      | .inl F => sv_b (F as σ) (fun v σ => go nx lo (.inl v :: rest) σ)
      | .inr (.inl F) => sv_b0 (F as σ) (fun σ => go nx lo rest σ)
      | .inr (.inr (.inl F)) => sv_b (F.2 as σ) (fun i σ => go nx lo (sv_R F.1 i :: rest) σ)
      | .inr (.inr (.inr F)) => sv_bT (F as σ) (fun σ => go nx lo (sv_N :: rest) σ) (fun t σ => go nx lo (sv_R 18 t :: rest) σ)) else none
/-- one instruction -/
noncomputable def sv_i {β : Type} (E : sv_E) (rt : sv_V → sv_S → Option β) (pc : Nat) (cv : sv_V) (nx tg : Nat) (sw : List (Int × Nat)) (lo : sv_Lo) (st : List sv_V) (σ : sv_S) (go : Nat → sv_Lo → List sv_V → sv_S → Option β) : Instr → Option β
  | .iconst _ => go nx lo (cv :: st) σ
  | .bipush _ => go nx lo (cv :: st) σ
  | .sipush _ => go nx lo (cv :: st) σ
  | .lconst _ => go nx lo (cv :: st) σ
  | .aconst_null => go nx lo (sv_N :: st) σ
  | .ldc i => (match E.2.1 i with
    | some (.inl n) => go nx lo (.inl n :: st) σ
    | some (.inr (.inr (some (r, i)))) => go nx lo (sv_R r i :: st) σ
    | _ => none)
  | .ldc_w i => (match E.2.1 i with
    | some (.inl n) => go nx lo (.inl n :: st) σ
    | _ => none)
  | .ldc2_w i => (match E.2.1 i with
    | some (.inr (.inl n)) => go nx lo (sv_L n :: st) σ
    | _ => none)
  | .iload_n k => (match sv_ga lo k with
    | some (.inl n) => go nx lo (.inl n :: st) σ
    | _ => none)
  | .iload k => (match sv_ga lo k with
    | some (.inl n) => go nx lo (.inl n :: st) σ
    | _ => none)
  | .lload_n k => (match sv_ga lo k with
    | some (.inr (.inl n)) => go nx lo (sv_L n :: st) σ
    | _ => none)
  | .lload k => (match sv_ga lo k with
    | some (.inr (.inl n)) => go nx lo (sv_L n :: st) σ
    | _ => none)
  | .aload_n k => (match sv_ga lo k with
    | some (.inr (.inr (some (r, i)))) => go nx lo (sv_R r i :: st) σ
    | _ => none)
  | .aload k => (match sv_ga lo k with
    | some (.inr (.inr (some (r, i)))) => go nx lo (sv_R r i :: st) σ
    | _ => none)
  | .istore_n k => (match st with
    | .inl n :: st => bif E.2.2.2.1 && Nat.ble (k + 1) lo.length then go nx (sv_se lo k (.inl n)) st σ else none
    | _ => none)
  | .istore k => (match st with
    | .inl n :: st => bif E.2.2.2.1 && Nat.ble (k + 1) lo.length then go nx (sv_se lo k (.inl n)) st σ else none
    | _ => none)
  | .astore_n k => (match st with
    | .inr (.inr (some (r, i))) :: st => bif E.2.2.2.1 && Nat.ble (k + 1) lo.length then go nx (sv_se lo k (sv_R r i)) st σ else none
    | _ => none)
  | .astore k => (match st with
    | .inr (.inr (some (r, i))) :: st => bif E.2.2.2.1 && Nat.ble (k + 1) lo.length then go nx (sv_se lo k (sv_R r i)) st σ else none
    | _ => none)
  | .iinc k _ => (match sv_ga lo k, cv with
    | some (.inl n), .inl d => bif E.2.2.2.1 then go nx (sv_se lo k (.inl (n + d))) st σ else none
    | _, _ => none)
  | .iadd => (match st with
    | .inl y :: .inl x :: st => go nx lo (.inl (x + y) :: st) σ
    | _ => none)
  | .isub => (match st with
    | .inl y :: .inl x :: st => go nx lo (.inl (x - y) :: st) σ
    | _ => none)
  | .imul => (match st with
    | .inl y :: .inl x :: st => go nx lo (.inl (x * y) :: st) σ
    | _ => none)
  | .iand => (match st with
    | .inl y :: .inl x :: st => go nx lo (.inl (x &&& y) :: st) σ
    | _ => none)
  | .ior => (match st with
    | .inl y :: .inl x :: st => go nx lo (.inl (x ||| y) :: st) σ
    | _ => none)
  | .idiv => (match st with
    | .inl y :: .inl x :: st => sv_g (¬ y = 0) (go nx lo (.inl (x / y) :: st) σ)
    | _ => none)
  | .irem => (match st with
    | .inl y :: .inl x :: st => sv_g (¬ y = 0) (go nx lo (.inl (x - x / y * y) :: st) σ)
    | _ => none)
  | .ineg => (match st with
    | .inl x :: st => go nx lo (.inl (-x) :: st) σ
    | _ => none)
  | .ishl => (match st with
    | .inl y :: .inl x :: st => go nx lo (.inl (x <<< (y &&& 31)) :: st) σ
    | _ => none)
  | .ishr => (match st with
    | .inl y :: .inl x :: st => go nx lo (.inl (x >>> (y &&& 31)) :: st) σ
    | _ => none)
  | .iushr => (match st with
    | .inl y :: .inl x :: st => go nx lo (.inl ((x.toUInt32 >>> (y.toUInt32 &&& Int32.toUInt32 31)).toInt32) :: st) σ
    | _ => none)
  | .i2l => (match st with
    | .inl x :: st => go nx lo (sv_L x.toInt64 :: st) σ
    | _ => none)
  | .i2b => (match st with
    | .inl x :: st => go nx lo (.inl x.toInt8.toInt32 :: st) σ
    | _ => none)
  | .i2s => (match st with
    | .inl x :: st => go nx lo (.inl x.toInt16.toInt32 :: st) σ
    | _ => none)
  | .i2c => (match st with
    | .inl x :: st => go nx lo (.inl (x.toUInt32 % 65536).toInt32 :: st) σ
    | _ => none)
  | .ladd => (match st with
    | .inr (.inl y) :: .inr (.inl x) :: st => go nx lo (sv_L (x + y) :: st) σ
    | _ => none)
  | .lcmp => (match st with
    | .inr (.inl y) :: .inr (.inl x) :: st => go nx lo (.inl (lg_cmp x y) :: st) σ
    | _ => none)
  | .dup => (match st with
    | .inl x :: st => go nx lo (.inl x :: .inl x :: st) σ
    | .inr (.inr (some (r, i))) :: st => go nx lo (sv_R r i :: sv_R r i :: st) σ
    | _ => none)
  | .dup2 => (match st with
    | .inl x :: .inr (.inr (some (r, i))) :: st => go nx lo (.inl x :: sv_R r i :: .inl x :: sv_R r i :: st) σ
    | _ => none)
  | .pop => (match st with
    | .inl _ :: st => go nx lo st σ
    | _ => none)
  | .goto _ => go tg lo st σ
  | .ifCond c _ => (match st with
    | .inl x :: st => sv_br c x 0 (go tg lo st σ) (go nx lo st σ)
    | _ => none)
  | .if_icmp c _ => (match st with
    | .inl y :: .inl x :: st => sv_br c x y (go tg lo st σ) (go nx lo st σ)
    | _ => none)
  | .ifnull _ => (match st with
    | .inr (.inr none) :: st => go tg lo st σ
    | .inr (.inr (some _)) :: st => go nx lo st σ
    | _ => none)
  | .ifnonnull _ => (match st with
    | .inr (.inr none) :: st => go nx lo st σ
    | .inr (.inr (some _)) :: st => go tg lo st σ
    | _ => none)
  | .tableswitch _ _ _ _ => (match st with
    | .inl x :: st => sv_sw x.toInt tg (fun t => go t lo st σ) sw
    | _ => none)
  | .lookupswitch _ _ => (match st with
    | .inl x :: st => sv_sw x.toInt tg (fun t => go t lo st σ) sw
    | _ => none)
  | .getfield i => (match E.1 i, st with
    | some (c, k), .inr (.inr (some (r, j))) :: st => (match sv_kd r j with
      | .inl c' => bif Nat.beq c' c then (match sv_fr c j k with
        | some (r', j') => go nx lo (sv_R r' j' :: st) σ
        | none => bif Nat.beq c 13 then go nx lo (.inl 0 :: st) σ else go nx lo (.inl (σ r j k) :: st) σ) else none
      | .inr _ => none)
    | _, _ => none)
  | .putfield i => (match E.1 i, st with
    | some (c, k), .inl n :: .inr (.inr (some (r, j))) :: st => (match sv_kd r j with
      | .inl c' => bif Nat.beq c' c then (match sv_ft c k with
        | 0 => go nx lo st (sv_up σ r j k n)
        | 1 => sv_g (n = 0 ∨ n = 1) (go nx lo st (sv_up σ r j k n))
        | _ => none) else none
      | .inr _ => none)
    | _, _ => none)
  | .getstatic i => (match E.2.2.1 i with
    | 1 => go nx lo (sv_R 21 0 :: st) σ
    | 2 => go nx lo (.inl 1 :: st) σ
    | _ => none)
  | .arraylength => (match st with
    | .inr (.inr (some (r, j))) :: st => (match sv_kd r j with
      | .inr 8 => (match E.2.2.2.2.2 with
        | some q => go nx lo (.inl (nI q.1) :: st) σ
        | none => none)
      | .inr 7 => go nx lo (.inl (nI (sv_tl.getD j 0)) :: st) σ
      | .inr t => bif Nat.ble t 6 then go nx lo (.inl (nI (sv_ln r j σ)) :: st) σ else none
      | .inl _ => none)
    | _ => none)
  | .iaload => (match st with
    | .inl x :: .inr (.inr (some (r, j))) :: st => (match sv_kd r j with
      | .inr 0 => sv_g (sv_in x (sv_ln r j σ)) (go nx lo (.inl (σ r j x.toNatClampNeg) :: st) σ)
      | .inr 6 => sv_g (sv_in x 6) (go nx lo (.inl (sv_ab x.toNatClampNeg) :: st) σ)
      | .inr 8 => (match E.2.2.2.2.2 with
        | some q => sv_g (sv_in x q.1) (go nx lo (.inl (q.2 x.toNatClampNeg) :: st) σ)
        | none => none)
      | _ => none)
    | _ => none)
  | .iastore => (match st with
    | .inl n :: .inl x :: .inr (.inr (some (r, j))) :: st => (match sv_kd r j with
      | .inr 0 => sv_g (sv_in x (sv_ln r j σ)) (go nx lo st (sv_up σ r j x.toNatClampNeg n))
      | _ => none)
    | _ => none)
  | .baload => (match st with
    | .inl x :: .inr (.inr (some (r, j))) :: st => (match sv_kd r j with
      | .inr 1 => sv_g (sv_in x (sv_ln r j σ)) (go nx lo (.inl (σ r j x.toNatClampNeg) :: st) σ)
      | .inr 7 => sv_g (sv_in x (sv_tl.getD j 0)) (go nx lo (.inl ((sv_tb.getD j []).getD x.toNatClampNeg 0) :: st) σ)
      | _ => none)
    | _ => none)
  | .bastore => (match st with
    | .inl n :: .inl x :: .inr (.inr (some (r, j))) :: st => (match sv_kd r j with
      | .inr 1 => sv_g (sv_in x (sv_ln r j σ)) (go nx lo st (sv_up σ r j x.toNatClampNeg n.toInt8.toInt32))
      | _ => none)
    | _ => none)
  | .aaload => (match st with
    | .inl x :: .inr (.inr (some (r, j))) :: st => (match sv_kd r j with
      | .inr 2 => sv_g (sv_in x (sv_ln r j σ)) (go nx lo (sv_R 2 (10 * j + x.toNatClampNeg) :: st) σ)
      | .inr 3 => sv_g (sv_in x (sv_ln r j σ)) (sv_tx (σ r j x.toNatClampNeg) (go nx lo (sv_N :: st) σ) (fun t => sv_g (t < sv_ct σ) (go nx lo (sv_R 18 t :: st) σ)))
      | .inr 4 => sv_g (sv_in x (sv_ln r j σ)) (go nx lo (sv_R 7 x.toNatClampNeg :: st) σ)
      | .inr 5 => sv_g (sv_in x (sv_ln r j σ)) (go nx lo (sv_R 12 (4 * j + x.toNatClampNeg) :: st) σ)
      | _ => none)
    | _ => none)
  | .aastore => (match st with
    | .inr (.inr none) :: .inl x :: .inr (.inr (some (r, j))) :: st => (match sv_kd r j with
      | .inr 3 => sv_g (sv_in x (sv_ln r j σ)) (go nx lo st (sv_up σ r j x.toNatClampNeg 0))
      | _ => none)
    | .inr (.inr (some (18, t))) :: .inl x :: .inr (.inr (some (r, j))) :: st => (match sv_kd r j with
      | .inr 3 => sv_g (sv_in x (sv_ln r j σ)) (go nx lo st (sv_up σ r j x.toNatClampNeg (nI (t + 1))))
      | _ => none)
    | _ => none)
  | .invokevirtual _ => sv_cl E pc nx lo st σ go
  | .invokestatic _ => sv_cl E pc nx lo st σ go
  | .invokespecial _ => sv_cl E pc nx lo st σ go
  | .ireturn => (match st with
    | [.inl n] => rt (.inl n) σ
    | _ => none)
  | .areturn => (match st with
    | [.inr (.inr none)] => rt sv_N σ
    | [.inr (.inr (some (r, i)))] => rt (sv_R r i) σ
    | _ => none)
  | .return_ => (match st with
    | [] => rt (sv_L 0) σ
    | _ => none)
  | _ => none
/-- places at which a run is cut, and what is said to follow there -/
abbrev sv_K (β : Type) : Type := Nat → Option (sv_Lo → List sv_V → sv_S → Option β)
/-- a run of at most n instructions -/
noncomputable def sv_ex {β : Type} (E : sv_E) (rt : sv_V → sv_S → Option β) (K : sv_K β) (cd : sv_C) : Nat → Nat → sv_Lo → List sv_V → sv_S → Option β
  | 0, _, _, _, _ => none
  | n + 1, pc, lo, st, σ => match sv_at pc cd with
    | none => none
    | some (ins, (cv, (nx, (tg, sw)))) => sv_i E rt pc cv nx tg sw lo st σ (fun pc lo st σ => match K pc with
      | some k => k lo st σ
      | none => sv_ex E rt K cd n pc lo st σ) ins
/-- the length of an instruction (0: not asked) -/
def sv_il : Instr → Nat
  | .bipush _ => 2
  | .sipush _ => 3
  | .ldc _ => 2
  | .ldc_w _ => 3
  | .ldc2_w _ => 3
  | .iload _ => 2
  | .lload _ => 2
  | .aload _ => 2
  | .istore _ => 2
  | .astore _ => 2
  | .iinc _ _ => 3
  | .goto _ => 3
  | .ifCond _ _ => 3
  | .if_icmp _ _ => 3
  | .ifnull _ => 3
  | .ifnonnull _ => 3
  | .tableswitch _ _ _ _ => 0
  | .lookupswitch _ _ => 0
  | .getfield _ => 3
  | .putfield _ => 3
  | .getstatic _ => 3
  | .invokevirtual _ => 3
  | .invokestatic _ => 3
  | .invokespecial _ => 3
  | _ => 1
def sv_tk1 (pc : Nat) (l : Int) : List Int → List (Int × Nat) → Bool
  | [], [] => true
  | o :: os, q :: qs => decide (q.1 = l) && decide ((pc : Int) + o = (q.2 : Int)) && sv_tk1 pc (l + 1) os qs
  | _, _ => false
def sv_tk2 (pc : Nat) : List (Int × Int) → List (Int × Nat) → Bool
  | [], [] => true
  | o :: os, q :: qs => decide (q.1 = o.1) && decide ((pc : Int) + o.2 = (q.2 : Int)) && sv_tk2 pc os qs
  | _, _ => false
/-- what the code's row must say of a switch, of a constant, of a branch -/
def sv_sk (pc : Nat) (cv : sv_V) (tg : Nat) (sw : List (Int × Nat)) : Instr → Bool
  | .tableswitch d l h offs => decide ((offs.toList.length : Int) = h + 1 - l) && decide ((pc : Int) + d = (tg : Int)) && sv_tk1 pc l offs.toList sw
  | .lookupswitch d ps => (ps.toList.zip (ps.toList.drop 1)).all (fun (a, next) => a.1 < next.1) && decide ((pc : Int) + d = (tg : Int)) && sv_tk2 pc ps.toList sw
  | .iconst n => decide (cv = .inl (Int32.ofInt n))
  | .bipush n => decide (cv = .inl (Int8.ofInt n).toInt32)
  | .sipush n => decide (cv = .inl (Int16.ofInt n).toInt32)
  | .iinc _ n => decide (cv = .inl (Int32.ofInt n))
  | .lconst n => decide (cv = .inr (.inl (Int64.ofNat (n : Nat))))
  | .goto o => decide ((pc : Int) + o = (tg : Int))
  | .ifCond _ o => decide ((pc : Int) + o = (tg : Int))
  | .if_icmp _ o => decide ((pc : Int) + o = (tg : Int))
  | .ifnull o => decide ((pc : Int) + o = (tg : Int))
  | .ifnonnull o => decide ((pc : Int) + o = (tg : Int))
  | _ => true
def sv_dk (cc : ByteArray) (q : Nat × sv_W) : Bool := match decode cc q.1 with
  | .ok (ins, len) => decide (ins = q.2.1) && ((Nat.beq (sv_il ins) 0 || Nat.beq (sv_il ins) len) && (Nat.beq q.2.2.2.1 (q.1 + sv_il ins) && sv_sk q.1 q.2.2.1 q.2.2.2.2.1 q.2.2.2.2.2 ins))
  | _ => false
end
section
/-! ===== the interpreter is right: words, worlds, locals ===== -/
def gw_tbl : List Cond := lw_tbl.filter goodWord
theorem gw_mem {w : Cond} (h : w ∈ lw_tbl) (g : goodWord w = true) : w ∈ gw_tbl := List.mem_filter.mpr ⟨h, g⟩
theorem gw_at {w : Cond} (i : Nat) (h : lw_tbl[i]? = some w) (g : goodWord w = true) : w ∈ gw_tbl := gw_mem (List.mem_of_getElem? h) g
theorem gw_good (w : Cond) (h : w ∈ gw_tbl) : (w.onTables && w.keeps) = true ∨ ∃ ty, w = .arrayClass ty := good_of_word (List.mem_filter.mp h).2
/-- how far a run goes at most -/
def sv_fu : Nat := 4000
noncomputable def sv_rI (v : sv_V) (σ : sv_S) : Option (Int32 × sv_S) := match v with
  | .inl n => some (n, σ)
  | _ => none
noncomputable def sv_rZ (v : sv_V) (σ : sv_S) : Option (Int32 × sv_S) := match v with
  | .inl n => sv_g (n = 0 ∨ n = 1) (some (n, σ))
  | _ => none
noncomputable def sv_rN (ty : FieldType) (v : sv_V) (σ : sv_S) : Option (Int32 × sv_S) := match v with
  | .inl n => sv_g (narrow ty (.int n) = .int n) (some (n, σ))
  | _ => none
noncomputable def sv_rV (v : sv_V) (σ : sv_S) : Option sv_S := match v with
  | .inr (.inl _) => some σ
  | _ => none
noncomputable def sv_rR (q : Nat) (v : sv_V) (σ : sv_S) : Option (Nat × sv_S) := match v with
  | .inr (.inr (some (r, i))) => bif Nat.beq r q then some (i, σ) else none
  | _ => none
noncomputable def sv_rT (v : sv_V) (σ : sv_S) : Option (Option Nat × sv_S) := match v with
  | .inr (.inr none) => some (none, σ)
  | .inr (.inr (some (r, i))) => bif Nat.beq r 18 then some (some i, σ) else none
  | _ => none
theorem sv_if_t {α : Type} {c : Prop} {a b : α} (h : c) : sv_if c a b = a := by unfold sv_if; exact if_pos h
theorem sv_if_f {α : Type} {c : Prop} {a b : α} (h : ¬ c) : sv_if c a b = b := by unfold sv_if; exact if_neg h
theorem sv_if_some {α : Type} {c : Prop} {a b : Option α} {x : α} (h : sv_if c a b = some x) : (c ∧ a = some x) ∨ (¬ c ∧ b = some x) := by
  by_cases hc : c
  · rw [sv_if_t hc] at h; exact Or.inl ⟨hc, h⟩
  · rw [sv_if_f hc] at h; exact Or.inr ⟨hc, h⟩
theorem sv_g_some {α : Type} {c : Prop} {a : Option α} {x : α} (h : sv_g c a = some x) : c ∧ a = some x := by
  unfold sv_g at h
  rcases sv_if_some h with h | h
  · exact h
  · exact absurd h.2 (by simp)
theorem sv_g_t {α : Type} {c : Prop} {a : Option α} (h : c) : sv_g c a = a := sv_if_t h
/-! a store's places -/
theorem sv_up_self (σ : sv_S) (r i k : Nat) (n : Int32) : sv_up σ r i k n r i k = n := by simp [sv_up]
theorem sv_up_k {σ : sv_S} {r i k j : Nat} {n : Int32} (h : j ≠ k) : sv_up σ r i k n r i j = σ r i j := by simp [sv_up, h]
theorem sv_up_o {σ : sv_S} {r i k r' i' : Nat} {n : Int32} (h : ¬ (r' = r ∧ i' = i)) : sv_up σ r i k n r' i' = σ r' i' := by
  funext j
  simp only [sv_up]
  rw [if_neg]
  rintro ⟨h1, h2, -⟩
  exact h ⟨h1, h2⟩
theorem sv_ct_up {σ : sv_S} {r i k : Nat} {n : Int32} (h : r ≠ 22) : sv_ct (sv_up σ r i k n) = sv_ct σ := by
  unfold sv_ct
  rw [sv_up_o (fun q => h q.1.symm)]
theorem sv_ln_up {σ : sv_S} {r i k r' i' : Nat} {n : Int32} (h : r ≠ 18) : sv_ln r' i' (sv_up σ r i k n) = sv_ln r' i' σ := by
  have e : ∀ j, sv_up σ r i k n 18 j = σ 18 j := fun j => sv_up_o (fun q => h q.1.symm)
  unfold sv_ln
  split <;> first | rfl | rw [e]
/-- a value that isn't a long -/
def sv_1 (v : sv_V) : Prop := match v with
  | .inr (.inl _) => False
  | _ => True
theorem sv_1_cat {ad : Nat → Nat → Nat} {v : sv_V} (h : sv_1 v) : (sv_c ad v).category = 1 := by
  rcases v with n | n | _ | ⟨r, i⟩
  · rfl
  · exact absurd h (fun q => q)
  · rfl
  · rfl
/-! locals -/
theorem sv_ga_se : ∀ (lo : sv_Lo) (i j : Nat) (v : sv_V), i < lo.length → sv_ga (sv_se lo i v) j = if j = i then some v else sv_ga lo j
  | [], i, j, v, h => absurd h (Nat.not_lt_zero _)
  | a :: lo, 0, 0, v, _ => rfl
  | a :: lo, 0, j + 1, v, _ => rfl
  | a :: lo, i + 1, 0, v, _ => rfl
  | a :: lo, i + 1, j + 1, v, h => by
    show sv_ga (sv_se lo i v) j = _
    rw [sv_ga_se lo i j v (Nat.lt_of_succ_lt_succ h)]
    by_cases hj : j = i
    · rw [if_pos hj, if_pos (by rw [hj])]
    · rw [if_neg hj, if_neg (fun q => hj (Nat.succ.inj q))]; rfl
theorem sv_se_len : ∀ (lo : sv_Lo) (i : Nat) (v : sv_V), (sv_se lo i v).length = lo.length
  | [], _, _ => rfl
  | _ :: _, 0, _ => rfl
  | _ :: lo, i + 1, v => by
    show (sv_se lo i v).length + 1 = lo.length + 1
    rw [sv_se_len lo i v]
theorem sv_ga_lt : ∀ (lo : sv_Lo) (i : Nat) (v : sv_V), sv_ga lo i = some v → i < lo.length
  | [], i, v, h => by cases i <;> cases h
  | _ :: _, 0, _, _ => Nat.zero_lt_succ _
  | _ :: lo, i + 1, v, h => Nat.succ_lt_succ (sv_ga_lt lo i v h)
def sv_ll (ad : Nat → Nat → Nat) : Nat → sv_Lo → List (Nat × Value)
  | _, [] => []
  | k, some v :: l => (k, sv_c ad v) :: sv_ll ad (k + 1) l
  | k, none :: l => sv_ll ad (k + 1) l
theorem sv_ll_in {ad : Nat → Nat → Nat} : ∀ (lo : sv_Lo) (k i : Nat) (v : sv_V), sv_ga lo i = some v → (k + i, sv_c ad v) ∈ sv_ll ad k lo
  | [], k, i, v, h => by cases i <;> cases h
  | a :: lo, k, 0, v, h => by
    have h : a = some v := h
    subst h
    exact List.mem_cons_self
  | a :: lo, k, i + 1, v, h => by
    have ih := sv_ll_in (ad := ad) lo (k + 1) i v h
    rw [Nat.add_assoc, Nat.add_comm 1 i] at ih
    cases a with
    | none => exact ih
    | some w => exact List.mem_cons_of_mem _ ih
theorem sv_ll_of {ad : Nat → Nat → Nat} : ∀ (lo : sv_Lo) (k : Nat) (q : Nat × Value), q ∈ sv_ll ad k lo → ∃ i v, q = (k + i, sv_c ad v) ∧ sv_ga lo i = some v
  | [], k, q, h => by cases h
  | none :: lo, k, q, h => by
    obtain ⟨i, v, h1, h2⟩ := sv_ll_of lo (k + 1) q h
    exact ⟨i + 1, v, by rw [h1, Nat.add_assoc, Nat.add_comm 1 i], h2⟩
  | some w :: lo, k, q, h => by
    rcases List.mem_cons.mp h with h | h
    · exact ⟨0, w, h, rfl⟩
    · obtain ⟨i, v, h1, h2⟩ := sv_ll_of lo (k + 1) q h
      exact ⟨i + 1, v, by rw [h1, Nat.add_assoc, Nat.add_comm 1 i], h2⟩
/-- the machine's locals hold what the list says -/
def sv_lh (ad : Nat → Nat → Nat) (ls : Array Slot) (nL : Nat) (lo : sv_Lo) : Prop := lo.length = nL ∧ lv_has ls nL (sv_ll ad 0 lo)
theorem sv_lh.at {ad : Nat → Nat → Nat} {ls : Array Slot} {nL : Nat} {lo : sv_Lo} (h : sv_lh ad ls nL lo) {i : Nat} {v : sv_V} (hi : sv_ga lo i = some v) : ls[i]? = some (.val (sv_c ad v)) := by
  have h1 := h.2.2.2 _ (sv_ll_in (ad := ad) lo 0 i v hi)
  simpa using h1
theorem sv_lh.put {ad : Nat → Nat → Nat} {ls' : Array Slot} {nL i : Nat} {lo : sv_Lo} {v : sv_V} (hl : lo.length = nL) (hi : i < nL) (h1 : ∀ j w, sv_ga lo j = some w → sv_1 w)
    (h : lv_has ls' nL ((i, sv_c ad v) :: (sv_ll ad 0 lo).filter (fun q => !(q.1 == i) && !(q.1 + 1 == i && q.2.category == 2)))) : sv_lh ad ls' nL (sv_se lo i v) := by
  refine ⟨by rw [sv_se_len]; exact hl, h.1, h.2.1, fun q hq => ?_⟩
  obtain ⟨j, w, rfl, hj⟩ := sv_ll_of _ 0 q hq
  rw [sv_ga_se lo i j v (by rw [hl]; exact hi)] at hj
  by_cases hji : j = i
  · rw [if_pos hji] at hj
    have hw : v = w := Option.some.inj hj
    subst hw
    subst hji
    have := h.2.2 (j, sv_c ad v) List.mem_cons_self
    simpa using this
  · rw [if_neg hji] at hj
    have hm : (0 + j, sv_c ad w) ∈ (sv_ll ad 0 lo).filter (fun q => !(q.1 == i) && !(q.1 + 1 == i && q.2.category == 2)) := by
      refine List.mem_filter.mpr ⟨sv_ll_in lo 0 j w hj, ?_⟩
      have hc := sv_1_cat (ad := ad) (h1 j w hj)
      simp [hji, hc]
    exact h.2.2 _ (List.mem_cons_of_mem _ hm)
/-! cells -/
def sv_my (r : Nat) : Prop := r ≠ 21 ∧ r ≠ 23 ∧ r ≠ 24 ∧ r ≠ 25
def sv_cell (ad : Nat → Nat → Nat) (dC : Nat → ClassId) (dI : Nat → Nat → Nat) (cA : Nat → ClassId) (σ : sv_S) (r i : Nat) (H : Heap) : Prop := match sv_kd r i with
  | .inl k => t_OB (ad r i) (dC k) (sv_nf k) (dI k) H (fun j => sv_c ad (sv_df k i j (σ r i j)))
  | .inr t => H[ad r i]? = some (arrV (cA t) (sv_ln r i σ) (fun j => sv_c ad (sv_de t i j (σ r i j))))
def sv_rep (base : Nat) (ad : Nat → Nat → Nat) (dC : Nat → ClassId) (dI : Nat → Nat → Nat) (cA : Nat → ClassId) (σ : sv_S) (H : Heap) : Prop :=
  (∀ r i, sv_lv (sv_ct σ) r i → sv_my r → base ≤ ad r i ∧ sv_cell ad dC dI cA σ r i H) ∧
  ∀ r i r' i', sv_lv (sv_ct σ) r i → sv_lv (sv_ct σ) r' i' → sv_my r → sv_my r' → ad r i = ad r' i' → r = r' ∧ i = i'
theorem sv_cell.ob {ad : Nat → Nat → Nat} {dC : Nat → ClassId} {dI : Nat → Nat → Nat} {cA : Nat → ClassId} {σ : sv_S} {r i k : Nat} {H : Heap} (h : sv_cell ad dC dI cA σ r i H) (hk : sv_kd r i = .inl k) : t_OB (ad r i) (dC k) (sv_nf k) (dI k) H (fun j => sv_c ad (sv_df k i j (σ r i j))) := by
  unfold sv_cell at h
  rw [hk] at h
  exact h
theorem sv_cell.ar {ad : Nat → Nat → Nat} {dC : Nat → ClassId} {dI : Nat → Nat → Nat} {cA : Nat → ClassId} {σ : sv_S} {r i t : Nat} {H : Heap} (h : sv_cell ad dC dI cA σ r i H) (hk : sv_kd r i = .inr t) : H[ad r i]? = some (arrV (cA t) (sv_ln r i σ) (fun j => sv_c ad (sv_de t i j (σ r i j)))) := by
  unfold sv_cell at h
  rw [hk] at h
  exact h
theorem sv_cell.kept {ad : Nat → Nat → Nat} {dC : Nat → ClassId} {dI : Nat → Nat → Nat} {cA : Nat → ClassId} {σ σ' : sv_S} {r i : Nat} {H H1 : Heap} (h : sv_cell ad dC dI cA σ r i H) (hs : σ' r i = σ r i) (hn : sv_ln r i σ' = sv_ln r i σ) (hq : H1[ad r i]? = H[ad r i]?) : sv_cell ad dC dI cA σ' r i H1 := by
  unfold sv_cell at h ⊢
  rw [hs, hn]
  split
  · rename_i k hk
    rw [hk] at h
    exact t_OB.kept h hq
  · rename_i t ht
    rw [ht] at h
    exact hq.trans h
/-- a write to one place -/
theorem sv_rep.up {base : Nat} {ad : Nat → Nat → Nat} {dC : Nat → ClassId} {dI : Nat → Nat → Nat} {cA : Nat → ClassId} {σ : sv_S} {H H1 : Heap} {r i k : Nat} {n : Int32} (h : sv_rep base ad dC dI cA σ H) (hl : sv_lv (sv_ct σ) r i) (hm : sv_my r) (h18 : r ≠ 18) (h22 : r ≠ 22)
    (hc : sv_cell ad dC dI cA (sv_up σ r i k n) r i H1) (hq : ∀ q : Nat, q ≠ ad r i → H1[q]? = H[q]?) : sv_rep base ad dC dI cA (sv_up σ r i k n) H1 := by
  unfold sv_rep
  rw [sv_ct_up h22]
  refine ⟨fun r' i' hl' hm' => ?_, h.2⟩
  by_cases he : r' = r ∧ i' = i
  · obtain ⟨rfl, rfl⟩ := he
    exact ⟨(h.1 r' i' hl' hm').1, hc⟩
  · refine ⟨(h.1 r' i' hl' hm').1, (h.1 r' i' hl' hm').2.kept (sv_up_o he) (sv_ln_up h18) (hq _ (fun q => he (h.2 _ _ _ _ hl' hl hm' hm q)))⟩
end
section
/-! ===== the interpreter is right: what is known of the tables, one instruction, a run ===== -/
def sv_tys (cA : Nat → ClassId) : List (ClassId × FieldType) := [(cA 0, .int), (cA 1, .byte), (cA 2, .object "OneStroke$Drummer"), (cA 3, .object "OneStroke$Text"), (cA 4, .object "OneStroke$Kind"), (cA 5, .object "OneStroke$Sheet")]
def sv_tx6 : List String := ["hear", "start", "fine", "lrn", "snb", "mb"]
def sv_nest : Cond := .methodLinkNest "OneStroke$Line" 102 ⟨"OneStroke", "withinStarts", "(I)I"⟩ "OneStroke"
/-- what is known of a state, and stays: classes, the static row, text constants -/
def sv_kn (base : Nat) (ad : Nat → Nat → Nat) (dC : Nat → ClassId) (dI : Nat → Nat → Nat) (cA : Nat → ClassId) (U : State) : Prop :=
  va_K (dC, dI) vwCl (sv_tys cA) U ∧ va_Z "OneStroke" "ABOVE" "[I" (.ref (ad 21 0)) (fun q => base ≤ q) U U.heap ∧ va_T .int (ad 21 0) 6 (fun j => .int (sv_ab j)) (fun q => base ≤ q) U U.heap ∧ va_Nw sv_nest U ∧
  (∀ i, i < 6 → vk_R "OneStroke$Text" (25 + 2 * i) (sv_tx6.getD i "") (ad 23 i) U) ∧ vk_S 6 sv_tl sv_tb (ad 23) (ad 25) (fun q => base ≤ q) U U.heap ∧ va_Z "java/lang/String" "COMPACT_STRINGS" "Z" (.int 1) (fun q => base ≤ q) U U.heap
theorem sv_kn.go {base : Nat} {ad : Nat → Nat → Nat} {dC : Nat → ClassId} {dI : Nat → Nat → Nat} {cA : Nat → ClassId} {s U : State} (h : sv_kn base ad dC dI cA s) (hW : s.WarmedH U.vm) (hq : ∀ a : Nat, a < s.heap.size → ¬ base ≤ a → U.heap[a]? = s.heap[a]?) : sv_kn base ad dC dI cA U := by
  obtain ⟨h1, h2, h3, h4, h5, h6, h7⟩ := h
  exact ⟨va_K.moved hW.alike h1, (va_Z.moved hW.alike h2).kept hq, (va_T.moved hW.alike h3).kept hq, va_Nw.warmM hW h4, fun i hi => vk_R.warm hW (h5 i hi), (vk_S.moved hW.alike h6).kept hq, (va_Z.moved hW.alike h7).kept hq⟩
theorem sv_kn.same {base : Nat} {ad : Nat → Nat → Nat} {dC : Nat → ClassId} {dI : Nat → Nat → Nat} {cA : Nat → ClassId} {s U : State} (h : sv_kn base ad dC dI cA s) (hv : U.vm = s.vm) (hh : U.heap = s.heap) : sv_kn base ad dC dI cA U := by
  obtain ⟨h1, h2, h3, h4, h5, h6, h7⟩ := h
  have ha : s.vm.Alike U.vm := by rw [hv]; exact Vm.Alike.refl _
  rw [← hh] at h2 h3 h6 h7
  exact ⟨va_K.moved ha h1, va_Z.moved ha h2, va_T.moved ha h3, va_Nw.same rfl hv.symm h4, fun i hi => vk_R.same hv (h5 i hi), vk_S.moved ha h6, va_Z.moved ha h7⟩
/-- what the tables say of a class of ours -/
def sv_ck (ci : Nat) (q : vw_C) : Prop := q.2.2 = sv_nf ci ∧ (∀ w ∈ u_ws q.1 q.2.1 q.2.2, w ∈ gw_tbl) ∧ (∃ ty : Nat → FieldType, ∀ k, k < q.2.2 → parseFieldDescriptor (q.2.1 k).2.2.1 = some (ty k)) ∧ (∀ a, a < q.2.2 → ∀ b, b < q.2.2 → a ≠ b → (q.2.1 a).2.1 ≠ (q.2.1 b).2.1) ∧
  (∀ k, k < q.2.2 → sv_ft ci k = 0 → (q.2.1 k).2.2.2 = false ∧ parseFieldDescriptor (q.2.1 k).2.2.1 = some .int) ∧ (∀ k, k < q.2.2 → sv_ft ci k = 1 → (q.2.1 k).2.2.2 = false ∧ parseFieldDescriptor (q.2.1 k).2.2.1 = some .boolean)
/-- a field's link -/
def sv_fk (own : String) (idx ci k : Nat) : Prop := (∃ q : vw_C, vwCl[ci]? = some q ∧ k < q.2.2 ∧ Cond.fieldLink own idx (q.2.1 k).1 (q.2.1 k).2.1 (q.2.1 k).2.2.1 ∈ gw_tbl) ∨ (ci = 13 ∧ (k = 0 ∧ Cond.fieldLink own idx "java/lang/String" "value" "[B" ∈ gw_tbl ∨ k = 1 ∧ Cond.fieldLink own idx "java/lang/String" "coder" "B" ∈ gw_tbl))
def sv_1k (own : String) (idx : Nat) (v : sv_V) : Prop := match v with
  | .inl n => Cond.constant own idx n ∈ gw_tbl
  | .inr (.inl n) => Cond.constantLong own idx n ∈ gw_tbl
  | .inr (.inr (some (r, i))) => r = 23 ∧ i < 6 ∧ own = "OneStroke$Text" ∧ idx = 25 + 2 * i
  | _ => False
theorem sv_my_obj {r i k : Nat} (h : sv_kd r i = .inl k) (hk : k < 13) : sv_my r := by
  refine ⟨?_, ?_, ?_, ?_⟩ <;> (rintro rfl; simp [sv_kd] at h; try omega)
theorem sv_my_arr {r i t : Nat} (h : sv_kd r i = .inr t) (ht : t < 6) : sv_my r := by
  refine ⟨?_, ?_, ?_, ?_⟩ <;> (rintro rfl; simp [sv_kd] at h; try omega)
theorem sv_no18 {r i t : Nat} (h : sv_kd r i = .inr t) (ht : t < 6) : r ≠ 18 ∧ r ≠ 22 := by
  refine ⟨?_, ?_⟩ <;> (rintro rfl; simp [sv_kd] at h; try omega)
section SV
variable {p : Program} {l : Launch} {e : Env} {R : Room} {s : State} {m : MethodId} {args : Array Value} {below : List Frame} {meth : Method} {c : Code} {H : Heap} {locs : List Loc} {cells slots : Nat} {Q : State → Prop}
variable {cc : ByteArray} {pc : Nat} {ls : Array Slot} {rest : List Value} {base : Nat} {ad : Nat → Nat → Nat} {dC : Nat → ClassId} {dI : Nat → Nat → Nat} {cA : Nat → ClassId} {σ : sv_S} {own : String} {r i : Nat}
theorem sv_get (hx : p.tables.exec = Jvm.exec) (hb : c.code = cc) (hts : ∀ w ∈ gw_tbl, w.before args s = true) (hown : s.vm.findClass own = some m.cls) (hK : va_K (dC, dI) vwCl (sv_tys cA) s) (hR : sv_rep base ad dC dI cA σ H) (hl : sv_lv (sv_ct σ) r i) {ci k idx : Nat} (hk : sv_kd r i = .inl ci) (hck : ∀ q, vwCl[ci]? = some q → sv_ck ci q) (hf : ∃ q : vw_C, vwCl[ci]? = some q ∧ k < q.2.2 ∧ Cond.fieldLink own idx (q.2.1 k).1 (q.2.1 k).2.1 (q.2.1 k).2.2.1 ∈ gw_tbl) (hdg : decode cc pc = .ok (.getfield idx, 3))
    (kk : W p l e R s m args below meth c H locs cells slots Q (F0 m (pc + 3) ls (sv_c ad (sv_df ci i k (σ r i k)) :: rest))) : W p l e R s m args below meth c H locs cells slots Q (F0 m pc ls (.ref (ad r i) :: rest)) := by
  obtain ⟨q, hq, hkN, hlink⟩ := hf
  have hci : ci < 13 := (List.getElem?_eq_some_iff.mp hq).1
  obtain ⟨cell, q1, q2, q3, q4⟩ := (hR.1 r i hl (sv_my_obj hk hci)).2.ob hk
  obtain ⟨hN, hin, -⟩ := hck q hq
  obtain ⟨hS, hfc, kC, hkC, hkind⟩ := hK.1 ci _ hq
  obtain ⟨cf, kf, fi, f, hi, hsl⟩ := hS k hkN
  refine W.getf hx hb hown (hts _ hlink) hi (u_facts hfc hkC (u_lays hts hin hkN) hi).1 q1 (by rw [q3]; exact fun h => by cases h) (v := sv_c ad (sv_df ci i k (σ r i k))) ?_ rfl rfl hdg kk
  rw [hsl, q4 k (by rw [← hN]; exact hkN)]
theorem sv_put (hx : p.tables.exec = Jvm.exec) (hb : c.code = cc) (hts : ∀ w ∈ gw_tbl, w.before args s = true) (hown : s.vm.findClass own = some m.cls) (hK : va_K (dC, dI) vwCl (sv_tys cA) s) (hR : sv_rep base ad dC dI cA σ H) (hS0 : va_S (fun q => base ≤ q) s.heap H locs) (hl : sv_lv (sv_ct σ) r i) {ci k idx : Nat} {n : Int32} (hk : sv_kd r i = .inl ci) (hck : ∀ q, vwCl[ci]? = some q → sv_ck ci q) (hf : ∃ q : vw_C, vwCl[ci]? = some q ∧ k < q.2.2 ∧ Cond.fieldLink own idx (q.2.1 k).1 (q.2.1 k).2.1 (q.2.1 k).2.2.1 ∈ gw_tbl)
    (hfr : sv_fr ci i k = none) (h18 : r ≠ 18) (h22 : r ≠ 22) (hft : sv_ft ci k = 0 ∨ sv_ft ci k = 1 ∧ (n = 0 ∨ n = 1)) (hdg : decode cc pc = .ok (.putfield idx, 3))
    (kk : ∀ (H1 : Heap) (locs1 : List Loc), sv_rep base ad dC dI cA (sv_up σ r i k n) H1 → va_S (fun q => base ≤ q) s.heap H1 locs1 → W p l e R s m args below meth c H1 locs1 cells slots Q (F0 m (pc + 3) ls rest)) : W p l e R s m args below meth c H locs cells slots Q (F0 m pc ls (.int n :: .ref (ad r i) :: rest)) := by
  obtain ⟨q, hq, hkN, hlink⟩ := hf
  have hci : ci < 13 := (List.getElem?_eq_some_iff.mp hq).1
  obtain ⟨hA, hcell⟩ := hR.1 r i hl (sv_my_obj hk hci)
  obtain ⟨cell, q1, q2, q3, q4⟩ := hcell.ob hk
  obtain ⟨hN, hin, ⟨ty0, hty⟩, hnm, hf0, hf1⟩ := hck q hq
  obtain ⟨C, T, N⟩ := q
  have hap := va_apart (own := own) hts hin ty0 hty hnm hK hq
  obtain ⟨hS, hfc, kC, hkC, hkind⟩ := hK.1 ci _ hq
  obtain ⟨cf, kf, fi, f, hi, hsl⟩ := hS k hkN
  have hlay := hts _ (hin _ (u_in_lay hkN))
  have h3 : ∃ ty, (T k).2.2.2 = false ∧ parseFieldDescriptor (T k).2.2.1 = some ty ∧ narrow ty (.int n) = .int n ∧ fits ty (.int n) = true := by
    rcases hft with h | ⟨h, hn⟩
    · exact ⟨.int, (hf0 k hkN h).1, (hf0 k hkN h).2, rfl, rfl⟩
    · refine ⟨.boolean, (hf1 k hkN h).1, (hf1 k hkN h).2, ?_⟩
      rcases hn with rfl | rfl <;> exact ⟨by decide, by decide⟩
  obtain ⟨ty, hfin, hd, hn1, hn2⟩ := h3
  unfold u_lay at hlay
  rw [if_neg (by rw [hfin]; decide)] at hlay
  have hst := (u_facts hfc hkC (u_lays hts hin hkN) hi).1
  have h6 := u_store hfc hkC hkind hlay hi hd hn1 hn2
  have hkn : k < sv_nf ci := by rw [← hN]; exact hkN
  refine W.putK hx hb (f := f) ⟨hown, hts _ hlink, ⟨_, _, _, hi⟩, hst⟩ (by rw [q2]; exact h6) q1 q3 (by rw [hsl]; exact k2_hasslot (q4 k hkn)) rfl rfl hdg fun H' e1 e2 e3 => ?_
  rw [hsl] at e1 ⊢
  have hN : N = sv_nf ci := hN
  subst hN
  refine kk H' _ (hR.up hl (sv_my_obj hk hci) h18 h22 ?_ e3) (hS0.put e2 e3 hA)
  unfold sv_cell
  rw [hk]
  refine t_OB.to (V := updV (fun j => sv_c ad (sv_df ci i j (σ r i j))) k (.int n)) ⟨_, e1, q2, q3, t_set q4 hap hkN (.int n)⟩ (fun j hj => ?_)
  by_cases hjk : j = k
  · subst hjk
    simp only [updV, if_true, sv_up_self]
    show Value.int n = sv_c ad (sv_df ci i j n)
    unfold sv_df
    rw [hfr]
    rfl
  · simp only [updV, if_neg hjk]
    rw [sv_up_k hjk]
theorem sv_inv {x : Int32} {n : Nat} (h : sv_in x n) : ¬ (x < 0 ∨ n ≤ x.toNatClampNeg) := vp_in_iff.mpr h
theorem sv_int {x : Int32} {n : Nat} (h : sv_in x n) : x.toNatClampNeg < n := Nat.not_le.mp fun q => sv_inv h (Or.inr q)
theorem sv_iald (hx : p.tables.exec = Jvm.exec) (hb : c.code = cc) (hK : va_K (dC, dI) vwCl (sv_tys cA) s) (hR : sv_rep base ad dC dI cA σ H) (hl : sv_lv (sv_ct σ) r i) (hk : sv_kd r i = .inr 0) {x : Int32} (hin : sv_in x (sv_ln r i σ)) (hdg : decode cc pc = .ok (.iaload, 1))
    (kk : W p l e R s m args below meth c H locs cells slots Q (F0 m (pc + 1) ls (.int (σ r i x.toNatClampNeg) :: rest))) : W p l e R s m args below meth c H locs cells slots Q (F0 m pc ls (.int x :: .ref (ad r i) :: rest)) :=
  W.iald (v := .int (σ r i x.toNatClampNeg)) hx hb ((hR.1 r i hl (sv_my_arr hk (by decide))).2.ar hk) ((hK.2 0 _ rfl).1 _ _) (fun q => by cases q) (by rw [arrV_size]; exact sv_inv hin) (by rw [arrV_read _ _ (sv_int hin)]; rfl) rfl rfl hdg kk
theorem sv_bald (hx : p.tables.exec = Jvm.exec) (hb : c.code = cc) (hK : va_K (dC, dI) vwCl (sv_tys cA) s) (hR : sv_rep base ad dC dI cA σ H) (hl : sv_lv (sv_ct σ) r i) (hk : sv_kd r i = .inr 1) {x : Int32} (hin : sv_in x (sv_ln r i σ)) (hdg : decode cc pc = .ok (.baload, 1))
    (kk : W p l e R s m args below meth c H locs cells slots Q (F0 m (pc + 1) ls (.int (σ r i x.toNatClampNeg) :: rest))) : W p l e R s m args below meth c H locs cells slots Q (F0 m pc ls (.int x :: .ref (ad r i) :: rest)) :=
  W.bald (v := .int (σ r i x.toNatClampNeg)) hx hb ((hR.1 r i hl (sv_my_arr hk (by decide))).2.ar hk) ((hK.2 1 _ rfl).1 _ _) (fun q => by cases q) (by rw [arrV_size]; exact sv_inv hin) (by rw [arrV_read _ _ (sv_int hin)]; rfl) rfl rfl hdg kk
theorem sv_aald (hx : p.tables.exec = Jvm.exec) (hb : c.code = cc) (hK : va_K (dC, dI) vwCl (sv_tys cA) s) (hR : sv_rep base ad dC dI cA σ H) (hl : sv_lv (sv_ct σ) r i) {t : Nat} {C : String} (hk : sv_kd r i = .inr t) (ht : t < 6) (hty : (sv_tys cA)[t]? = some (cA t, .object C)) {x : Int32} (hin : sv_in x (sv_ln r i σ)) (hdg : decode cc pc = .ok (.aaload, 1))
    (kk : W p l e R s m args below meth c H locs cells slots Q (F0 m (pc + 1) ls (sv_c ad (sv_de t i x.toNatClampNeg (σ r i x.toNatClampNeg)) :: rest))) : W p l e R s m args below meth c H locs cells slots Q (F0 m pc ls (.int x :: .ref (ad r i) :: rest)) :=
  W.aald (v := sv_c ad (sv_de t i x.toNatClampNeg (σ r i x.toNatClampNeg))) (ty := .object C) hx hb ((hR.1 r i hl (sv_my_arr hk ht)).2.ar hk) ((hK.2 t _ hty).1 _ _) rfl (fun q => by cases q) (by rw [arrV_size]; exact sv_inv hin) (by rw [arrV_read _ _ (sv_int hin)]) rfl rfl hdg kk
theorem sv_alen (hx : p.tables.exec = Jvm.exec) (hb : c.code = cc) (hK : va_K (dC, dI) vwCl (sv_tys cA) s) (hR : sv_rep base ad dC dI cA σ H) (hl : sv_lv (sv_ct σ) r i) {t : Nat} {ty : FieldType} (hk : sv_kd r i = .inr t) (ht : t < 6) (hty : (sv_tys cA)[t]? = some (cA t, ty)) (hdg : decode cc pc = .ok (.arraylength, 1))
    (kk : W p l e R s m args below meth c H locs cells slots Q (F0 m (pc + 1) ls (.int (nI (sv_ln r i σ)) :: rest))) : W p l e R s m args below meth c H locs cells slots Q (F0 m pc ls (.ref (ad r i) :: rest)) :=
  W.alen hx hb ((hR.1 r i hl (sv_my_arr hk ht)).2.ar hk) ((hK.2 t _ hty).1 _ _) (by rw [arrV_size]; rfl) rfl rfl hdg kk
theorem sv_iast (hx : p.tables.exec = Jvm.exec) (hb : c.code = cc) (hK : va_K (dC, dI) vwCl (sv_tys cA) s) (hR : sv_rep base ad dC dI cA σ H) (hS0 : va_S (fun q => base ≤ q) s.heap H locs) (hl : sv_lv (sv_ct σ) r i) (hk : sv_kd r i = .inr 0) {x n : Int32} (hin : sv_in x (sv_ln r i σ)) (hdg : decode cc pc = .ok (.iastore, 1))
    (kk : ∀ (H1 : Heap) (locs1 : List Loc), sv_rep base ad dC dI cA (sv_up σ r i x.toNatClampNeg n) H1 → va_S (fun q => base ≤ q) s.heap H1 locs1 → W p l e R s m args below meth c H1 locs1 cells slots Q (F0 m (pc + 1) ls rest)) : W p l e R s m args below meth c H locs cells slots Q (F0 m pc ls (.int n :: .int x :: .ref (ad r i) :: rest)) := by
  obtain ⟨hA, hcell⟩ := hR.1 r i hl (sv_my_arr hk (by decide))
  obtain ⟨h18, h22⟩ := sv_no18 hk (by decide)
  refine W.iast hx hb (hcell.ar hk) ((hK.2 0 _ rfl).1 _ _) (fun q => by cases q) (by rw [arrV_size]; exact sv_inv hin) rfl rfl hdg fun H1 e1 e2 e3 => ?_
  refine kk H1 _ (hR.up hl (sv_my_arr hk (by decide)) h18 h22 ?_ e3) (hS0.put e2 e3 hA)
  unfold sv_cell
  rw [hk]
  show H1[ad r i]? = _
  rw [e1, arrV_store, sv_ln_up h18]
  congr 2
  funext j
  by_cases hj : j = x.toNatClampNeg
  · subst hj
    simp only [updV, if_true, sv_up_self]; rfl
  · simp only [updV, if_neg hj]; rw [sv_up_k hj]
theorem sv_bast (hx : p.tables.exec = Jvm.exec) (hb : c.code = cc) (hK : va_K (dC, dI) vwCl (sv_tys cA) s) (hR : sv_rep base ad dC dI cA σ H) (hS0 : va_S (fun q => base ≤ q) s.heap H locs) (hl : sv_lv (sv_ct σ) r i) (hk : sv_kd r i = .inr 1) {x n : Int32} (hin : sv_in x (sv_ln r i σ)) (hdg : decode cc pc = .ok (.bastore, 1))
    (kk : ∀ (H1 : Heap) (locs1 : List Loc), sv_rep base ad dC dI cA (sv_up σ r i x.toNatClampNeg n.toInt8.toInt32) H1 → va_S (fun q => base ≤ q) s.heap H1 locs1 → W p l e R s m args below meth c H1 locs1 cells slots Q (F0 m (pc + 1) ls rest)) : W p l e R s m args below meth c H locs cells slots Q (F0 m pc ls (.int n :: .int x :: .ref (ad r i) :: rest)) := by
  obtain ⟨hA, hcell⟩ := hR.1 r i hl (sv_my_arr hk (by decide))
  obtain ⟨h18, h22⟩ := sv_no18 hk (by decide)
  refine W.bast hx hb (hcell.ar hk) ((hK.2 1 _ rfl).1 _ _) (fun q => by cases q) (by rw [arrV_size]; exact sv_inv hin) rfl rfl hdg fun H1 e1 e2 e3 => ?_
  refine kk H1 _ (hR.up hl (sv_my_arr hk (by decide)) h18 h22 ?_ e3) (hS0.put e2 e3 hA)
  unfold sv_cell
  rw [hk]
  show H1[ad r i]? = _
  rw [e1, arrV_store, sv_ln_up h18]
  congr 2
  funext j
  by_cases hj : j = x.toNatClampNeg
  · subst hj
    simp only [updV, if_true, sv_up_self]; rfl
  · simp only [updV, if_neg hj]; rw [sv_up_k hj]
end SV
end
section
/-! ===== the interpreter is right: one instruction ===== -/
theorem sv_cl32 (x : Int32) : x.toNatClampNeg < 2 ^ 31 := by
  have h := Int32.toInt_lt x
  have e : x.toNatClampNeg = x.toInt.toNat := rfl
  rw [e]
  omega
theorem sv_tx_nI {α : Type} {t : Nat} (ht : t + 1 < 2 ^ 31) (k0 : α) (k1 : Nat → α) : sv_tx (nI (t + 1)) k0 k1 = k1 t := by
  unfold sv_tx
  rw [sv_if_f (nI_ne0 (Nat.succ_pos t) ht), nI_clamp ht]
  rfl
theorem sv_dk_spec {cc : ByteArray} {pc : Nat} {ins : Instr} {cv : sv_V} {nx tg : Nat} {sw : List (Int × Nat)} (h : sv_dk cc (pc, (ins, (cv, (nx, (tg, sw))))) = true) : ∃ len, decode cc pc = .ok (ins, len) ∧ (sv_il ins = 0 ∨ sv_il ins = len) ∧ nx = pc + sv_il ins ∧ sv_sk pc cv tg sw ins = true := by
  unfold sv_dk at h
  dsimp only at h
  split at h
  · rename_i i0 len hd
    simp only [Bool.and_eq_true, Bool.or_eq_true, decide_eq_true_eq] at h
    obtain ⟨rfl, h1, h2, h3⟩ := h
    refine ⟨len, hd, ?_, Nat.eq_of_beq_eq_true h2, h3⟩
    rcases h1 with h1 | h1
    · exact Or.inl (Nat.eq_of_beq_eq_true h1)
    · exact Or.inr (Nat.eq_of_beq_eq_true h1)
  · cases h
theorem sv_t1 {P : sv_V → Prop} {a : sv_V} {st : List sv_V} (h : ∀ v ∈ a :: st, P v) : ∀ v ∈ st, P v := fun v q => h v (List.mem_cons_of_mem _ q)
theorem sv_cs {P : sv_V → Prop} {a : sv_V} {st : List sv_V} (ha : P a) (h : ∀ v ∈ st, P v) : ∀ v ∈ a :: st, P v := List.forall_mem_cons.mpr ⟨ha, h⟩
def sv_Wt (p : Program) (l : Launch) (e : Env) (R : Room) (s : State) (m : MethodId) (args : Array Value) (below : List Frame) (meth : Method) (c : Code) (cells slots : Nat) (Q : State → Prop) (base : Nat) (ad : Nat → Nat → Nat) (dC : Nat → ClassId) (dI : Nat → Nat → Nat) (cA : Nat → ClassId) (nl : Bool) (nL n0 : Nat) (pc : Nat) (lo : sv_Lo) (st : List sv_V) (σ : sv_S) : Prop :=
  ∀ (H : Heap) (locs : List Loc) (ls : Array Slot), sv_rep base ad dC dI cA σ H → va_S (fun q => base ≤ q) s.heap H locs → sv_lh ad ls nL lo → sv_ct σ = n0 → (∀ v ∈ st, sv_ok n0 v) → (∀ i v, sv_ga lo i = some v → sv_ok n0 v ∧ (nl = true → sv_1 v)) → W p l e R s m args below meth c H locs cells slots Q (F0 m pc ls (st.map (sv_c ad)))
/-- field references of live cells are live -/
theorem sv_fr_ok {n r i ci k : Nat} (hkN : k < sv_nf ci) (hl : sv_lv n r i) (hk : sv_kd r i = .inl ci) {q : Nat × Nat} (h : sv_fr ci i k = some q) : sv_lv n q.1 q.2 := by
  obtain ⟨h1, h2⟩ := hl
  unfold sv_kd at hk
  split at hk <;> simp only [Sum.inl.injEq, reduceCtorEq] at hk <;> subst hk <;> simp only [sv_nb] at h1
  · simp only [sv_fr] at h
    split at h <;> simp only [Option.some.injEq, reduceCtorEq] at h <;> subst h <;> exact ⟨by simp [sv_nb], by simp⟩
  · simp only [sv_fr] at h
    split at h <;> simp only [Option.some.injEq, reduceCtorEq] at h <;> subst h <;> exact ⟨by simp [sv_nb]; try omega, by simp⟩
  · simp [sv_fr] at h
  · split at h <;> simp [sv_fr] at h
  · simp only [sv_fr] at h
    split at h <;> simp only [Option.some.injEq, reduceCtorEq] at h <;> subst h <;> exact ⟨by simp [sv_nb], by simp⟩
  · simp only [sv_fr] at h
    split at h <;> simp only [Option.some.injEq, reduceCtorEq] at h <;> subst h <;> exact ⟨by simp [sv_nb]; try omega, by simp⟩
  · simp only [sv_fr] at h
    split at h <;> simp only [Option.some.injEq, reduceCtorEq] at h <;> subst h <;> exact ⟨by simp [sv_nb]; try omega, by simp⟩
  · simp only [sv_fr] at h
    split at h <;> simp only [Option.some.injEq, reduceCtorEq] at h <;> subst h <;> exact ⟨by simp [sv_nb]; try omega, by simp⟩
  · simp only [sv_fr] at h
    cases hk : sv_ar k with
    | false => rw [hk] at h; simp at h
    | true =>
      rw [hk] at h
      simp only [cond_true, Option.some.injEq] at h
      subst h
      refine ⟨?_, fun _ => hk⟩
      exact hkN

theorem sv_ft_fr {c j k : Nat} (h : sv_ft c k = 0 ∨ sv_ft c k = 1) : sv_fr c j k = none := by
  unfold sv_ft at h
  split at h
  · split at h <;> first | rfl | omega
  · split at h
    all_goals first
      | omega
      | (simp only [sv_fr]; done)
      | rfl
  · rfl
  · split at h
    all_goals first
      | omega
      | (simp only [sv_fr]; done)
      | rfl
  · split at h
    all_goals first
      | omega
      | (simp only [sv_fr]; done)
      | rfl
  · split at h
    · rfl
    · cases hk : sv_ar k with
      | false => simp [sv_fr, hk]
      | true => rw [hk] at h; simp at h
  · omega
theorem sv_kd6 {r j : Nat} (h : sv_kd r j = .inr 6) : r = 21 := by
  unfold sv_kd at h
  split at h <;> first | rfl | (exfalso; simp at h; done)
theorem sv_kd8 {r j : Nat} (h : sv_kd r j = .inr 8) : r = 24 := by
  unfold sv_kd at h
  split at h <;> first | rfl | (exfalso; simp at h; done)
theorem sv_kd13 {r j : Nat} (h : sv_kd r j = .inl 13) : r = 23 := by
  unfold sv_kd at h
  split at h <;> first | rfl | (exfalso; simp at h; done) | (exfalso; simp at h; split at h <;> simp at h; done)
theorem sv_kd7b {r j : Nat} (h : sv_kd r j = .inr 7) : r = 25 := by
  unfold sv_kd at h
  split at h <;> first | rfl | (exfalso; simp at h; done)
theorem sv_tys_at (cA : Nat → ClassId) {t : Nat} (h : t < 6) : ∃ ty, (sv_tys cA)[t]? = some (cA t, ty) := by
  match t, h with
  | 0, _ => exact ⟨_, rfl⟩
  | 1, _ => exact ⟨_, rfl⟩
  | 2, _ => exact ⟨_, rfl⟩
  | 3, _ => exact ⟨_, rfl⟩
  | 4, _ => exact ⟨_, rfl⟩
  | 5, _ => exact ⟨_, rfl⟩
theorem sv_kd2 {r j : Nat} (h : sv_kd r j = .inr 2) : r = 3 := by
  unfold sv_kd at h
  split at h <;> first | rfl | (exfalso; simp at h; done)
theorem sv_kd4 {r j : Nat} (h : sv_kd r j = .inr 4) : r = 6 := by
  unfold sv_kd at h
  split at h <;> first | rfl | (exfalso; simp at h; done)
theorem sv_kd5 {r j : Nat} (h : sv_kd r j = .inr 5) : r = 11 := by
  unfold sv_kd at h
  split at h <;> first | rfl | (exfalso; simp at h; done)
theorem sv_ar_ok2 {n r j k : Nat} {σ : sv_S} (hl : sv_lv n r j) (hk : sv_kd r j = .inr 2) (h : k < sv_ln r j σ) : sv_lv n 2 (10 * j + k) := by
  obtain rfl := sv_kd2 hk
  have h1 : j < 4 := hl.1
  refine ⟨?_, by simp⟩
  show 10 * j + k < 35
  by_cases h3 : j = 3
  · subst h3
    have h : k < 5 := h
    omega
  · have h : k < 10 := by
      simp only [sv_ln] at h
      exact h
    omega
theorem sv_ar_ok4 {n r j k : Nat} {σ : sv_S} (hl : sv_lv n r j) (hk : sv_kd r j = .inr 4) (h : k < sv_ln r j σ) : sv_lv n 7 k := by
  obtain rfl := sv_kd4 hk
  exact ⟨h, by simp⟩
theorem sv_ar_ok5 {n r j k : Nat} {σ : sv_S} (hl : sv_lv n r j) (hk : sv_kd r j = .inr 5) (h : k < sv_ln r j σ) : sv_lv n 12 (4 * j + k) := by
  obtain rfl := sv_kd5 hk
  have h1 : j < 2 := hl.1
  refine ⟨?_, by simp⟩
  show 4 * j + k < 9
  simp only [sv_ln] at h
  split at h <;> omega
section SVA
variable {p : Program} {l : Launch} {e : Env} {R : Room} {s : State} {m : MethodId} {args : Array Value} {below : List Frame} {meth : Method} {c : Code} {H : Heap} {locs : List Loc} {cells slots : Nat} {Q : State → Prop}
variable {cc : ByteArray} {pc : Nat} {ls : Array Slot} {rest : List Value} {base : Nat} {ad : Nat → Nat → Nat} {dC : Nat → ClassId} {dI : Nat → Nat → Nat} {cA : Nat → ClassId} {σ : sv_S} {own : String} {r i : Nat}
theorem sv_aastN (hx : p.tables.exec = Jvm.exec) (hb : c.code = cc) (hK : va_K (dC, dI) vwCl (sv_tys cA) s) (hR : sv_rep base ad dC dI cA σ H) (hS0 : va_S (fun q => base ≤ q) s.heap H locs) (hl : sv_lv (sv_ct σ) r i) (hk : sv_kd r i = .inr 3) {x : Int32} (hin : sv_in x (sv_ln r i σ)) (hdg : decode cc pc = .ok (.aastore, 1))
    (kk : ∀ (H1 : Heap) (locs1 : List Loc), sv_rep base ad dC dI cA (sv_up σ r i x.toNatClampNeg 0) H1 → va_S (fun q => base ≤ q) s.heap H1 locs1 → W p l e R s m args below meth c H1 locs1 cells slots Q (F0 m (pc + 1) ls rest)) : W p l e R s m args below meth c H locs cells slots Q (F0 m pc ls (.null :: .int x :: .ref (ad r i) :: rest)) := by
  obtain ⟨hA, hcell⟩ := hR.1 r i hl (sv_my_arr hk (by decide))
  obtain ⟨h18, h22⟩ := sv_no18 hk (by decide)
  refine va_WaastN (C := "OneStroke$Text") hx hb (hcell.ar hk) ((hK.2 3 _ rfl).1 _ _) (fun q => by cases q) (by rw [arrV_size]; exact sv_inv hin) rfl rfl hdg fun H1 e1 e2 e3 => ?_
  refine kk H1 _ (hR.up hl (sv_my_arr hk (by decide)) h18 h22 ?_ e3) (hS0.put e2 e3 hA)
  unfold sv_cell
  rw [hk]
  show H1[ad r i]? = _
  rw [e1, arrV_store, sv_ln_up h18]
  congr 2
  funext j
  by_cases hj : j = x.toNatClampNeg
  · subst hj
    simp only [updV, if_true, sv_up_self]
    show Value.null = sv_c ad (sv_tx 0 sv_N (fun t => sv_R 18 t))
    unfold sv_tx
    rw [sv_if_t rfl]
    rfl
  · simp only [updV, if_neg hj]; rw [sv_up_k hj]
theorem sv_aastT (hx : p.tables.exec = Jvm.exec) (hb : c.code = cc) (hK : va_K (dC, dI) vwCl (sv_tys cA) s) (hR : sv_rep base ad dC dI cA σ H) (hS0 : va_S (fun q => base ≤ q) s.heap H locs) (hl : sv_lv (sv_ct σ) r i) (hk : sv_kd r i = .inr 3) {t : Nat} (ht : sv_lv (sv_ct σ) 18 t) {x : Int32} (hin : sv_in x (sv_ln r i σ)) (hdg : decode cc pc = .ok (.aastore, 1))
    (kk : ∀ (H1 : Heap) (locs1 : List Loc), sv_rep base ad dC dI cA (sv_up σ r i x.toNatClampNeg (nI (t + 1))) H1 → va_S (fun q => base ≤ q) s.heap H1 locs1 → W p l e R s m args below meth c H1 locs1 cells slots Q (F0 m (pc + 1) ls rest)) : W p l e R s m args below meth c H locs cells slots Q (F0 m pc ls (.ref (ad 18 t) :: .int x :: .ref (ad r i) :: rest)) := by
  obtain ⟨hA, hcell⟩ := hR.1 r i hl (sv_my_arr hk (by decide))
  obtain ⟨h18, h22⟩ := sv_no18 hk (by decide)
  obtain ⟨cellV, g1, g2, g3, -⟩ := (hR.1 18 t ht (sv_my_obj (i := t) (k := 9) rfl (by decide))).2.ob (k := 9) rfl
  have hcls := (hK.1 9 _ rfl).2
  obtain ⟨kA, comp, k1, k2, k3, -⟩ := (hK.2 3 _ rfl).2
  have hcomp : comp = dC 9 := Option.some.inj (k3.symm.trans hcls.1)
  subst hcomp
  have hass := va_assign hcls
  obtain ⟨kC, hkC, -⟩ := hcls.2
  have h0 : ¬ x < 0 := fun q => sv_inv hin (Or.inl q)
  refine W.aast hx hb (hcell.ar hk) (fun q h => by cases h) (fun h => by cases h) k1 k2 rfl hkC ⟨h0, by rw [arrV_size]; exact sv_int hin⟩ g1 (fun q h => by rw [g3] at h; cases h) (by rw [g2]; exact hkC) (by rw [g2]; exact hass) rfl rfl hdg fun H1 e1 e2 e3 => ?_
  refine kk H1 _ (hR.up hl (sv_my_arr hk (by decide)) h18 h22 ?_ e3) (hS0.put e2 e3 hA)
  unfold sv_cell
  rw [hk]
  show H1[ad r i]? = _
  rw [e1, arrV_store, sv_ln_up h18]
  congr 2
  funext j
  by_cases hj : j = x.toNatClampNeg
  · subst hj
    simp only [updV, if_true, sv_up_self]
    show Value.ref (ad 18 t) = sv_c ad (sv_tx (nI (t + 1)) sv_N (fun t => sv_R 18 t))
    have hb1 : t < sv_ct σ := ht.1
    have hb2 : sv_ct σ < 2 ^ 31 := sv_cl32 _
    rw [sv_tx_nI (by omega)]
    rfl
  · simp only [updV, if_neg hj]; rw [sv_up_k hj]
end SVA
theorem sv_b_some {α β : Type} {x : Option (α × sv_S)} {k : α → sv_S → Option β} {y : β} (h : sv_b x k = some y) : ∃ a σ, x = some (a, σ) ∧ k a σ = some y := by
  unfold sv_b at h
  split at h
  · exact ⟨_, _, rfl, h⟩
  · cases h
theorem sv_b0_some {β : Type} {x : Option sv_S} {k : sv_S → Option β} {y : β} (h : sv_b0 x k = some y) : ∃ σ, x = some σ ∧ k σ = some y := by
  unfold sv_b0 at h
  split at h
  · exact ⟨_, rfl, h⟩
  · cases h
theorem sv_bT_some {β : Type} {x : Option (Option Nat × sv_S)} {k0 : sv_S → Option β} {k1 : Nat → sv_S → Option β} {y : β} (h : sv_bT x k0 k1 = some y) : (∃ σ, x = some (none, σ) ∧ k0 σ = some y) ∨ ∃ t σ, x = some (some t, σ) ∧ k1 t σ = some y := by
  unfold sv_bT at h
  split at h
  · exact Or.inl ⟨_, rfl, h⟩
  · exact Or.inr ⟨_, _, rfl, h⟩
  · cases h

/-- what a call is said to do, and does -/
def sv_cok (p : Program) (l : Launch) (e : Env) (R : Room) (s : State) (m : MethodId) (args : Array Value) (below : List Frame) (meth : Method) (c : Code) (cells slots : Nat) (Q : State → Prop) (base : Nat) (ad : Nat → Nat → Nat) (dC : Nat → ClassId) (dI : Nat → Nat → Nat) (cA : Nat → ClassId) (nl : Bool) (nL n0 : Nat) (pc n : Nat) (f : sv_F) : Prop :=
  ∀ (as rest : List sv_V) (lo : sv_Lo) (σ : sv_S), as.length = n → sv_sm rest = true → match f with
    | .inl F => ∀ v σ', F as σ = some (v, σ') → sv_Wt p l e R s m args below meth c cells slots Q base ad dC dI cA nl nL n0 (pc + 3) lo (.inl v :: rest) σ' → sv_Wt p l e R s m args below meth c cells slots Q base ad dC dI cA nl nL n0 pc lo (as.reverse ++ rest) σ
    | .inr (.inl F) => ∀ σ', F as σ = some σ' → sv_Wt p l e R s m args below meth c cells slots Q base ad dC dI cA nl nL n0 (pc + 3) lo rest σ' → sv_Wt p l e R s m args below meth c cells slots Q base ad dC dI cA nl nL n0 pc lo (as.reverse ++ rest) σ
    | .inr (.inr (.inl F)) => ∀ i σ', F.2 as σ = some (i, σ') → sv_Wt p l e R s m args below meth c cells slots Q base ad dC dI cA nl nL n0 (pc + 3) lo (sv_R F.1 i :: rest) σ' → sv_Wt p l e R s m args below meth c cells slots Q base ad dC dI cA nl nL n0 pc lo (as.reverse ++ rest) σ
    | .inr (.inr (.inr F)) => (∀ σ', F as σ = some (none, σ') → sv_Wt p l e R s m args below meth c cells slots Q base ad dC dI cA nl nL n0 (pc + 3) lo (sv_N :: rest) σ' → sv_Wt p l e R s m args below meth c cells slots Q base ad dC dI cA nl nL n0 pc lo (as.reverse ++ rest) σ) ∧ (∀ t σ', F as σ = some (some t, σ') → sv_Wt p l e R s m args below meth c cells slots Q base ad dC dI cA nl nL n0 (pc + 3) lo (sv_R 18 t :: rest) σ' → sv_Wt p l e R s m args below meth c cells slots Q base ad dC dI cA nl nL n0 pc lo (as.reverse ++ rest) σ)
theorem sv_tk_spec : ∀ (n : Nat) (acc st : List sv_V) (as rest : List sv_V), sv_tk n acc st = some (as, rest) → ∃ t, t.length = n ∧ st = t ++ rest ∧ as = t.reverse ++ acc
  | 0, acc, st, as, rest, h => by
    simp only [sv_tk, Option.some.injEq, Prod.mk.injEq] at h
    obtain ⟨rfl, rfl⟩ := h
    exact ⟨[], rfl, rfl, rfl⟩
  | n + 1, acc, [], as, rest, h => by simp [sv_tk] at h
  | n + 1, acc, v :: st, as, rest, h => by
    obtain ⟨t, h1, h2, h3⟩ := sv_tk_spec n (v :: acc) st as rest h
    refine ⟨v :: t, by simp [h1], by simp [h2], by simp [h3]⟩
theorem sv_tk1_spec {pc : Nat} {x : Int} {d : Nat} {β : Type} {go : Nat → Option β} {res : β} : ∀ (offs : List Int) (l : Int) (sw : List (Int × Nat)), sv_tk1 pc l offs sw = true → sv_sw x d go sw = some res → (go d = some res ∧ (x < l ∨ l + offs.length ≤ x)) ∨ ∃ (o : Int) (t : Nat), l ≤ x ∧ offs[(x - l).toNat]? = some o ∧ (pc : Int) + o = (t : Int) ∧ x < l + offs.length ∧ go t = some res
  | [], l, [], _, h => by
    left
    refine ⟨h, ?_⟩
    by_cases hx : x < l
    · exact Or.inl hx
    · right; simp; omega
  | [], l, _ :: _, h, _ => by simp [sv_tk1] at h
  | _ :: _, l, [], h, _ => by simp [sv_tk1] at h
  | o :: offs, l, q :: sw, h, hs => by
    simp only [sv_tk1, Bool.and_eq_true, decide_eq_true_eq] at h
    obtain ⟨⟨h1, h2⟩, h3⟩ := h
    simp only [sv_sw] at hs
    rcases sv_if_some hs with ⟨hx, hg⟩ | ⟨hx, hg⟩
    · right
      refine ⟨o, q.2, by omega, ?_, h2, ?_, hg⟩
      · have : (x - l).toNat = 0 := by omega
        rw [this]; rfl
      · simp only [List.length_cons]; omega
    · rcases sv_tk1_spec offs (l + 1) sw h3 hg with ⟨g1, g2⟩ | ⟨o', t, g1, g2, g3, g4, g5⟩
      · left
        refine ⟨g1, ?_⟩
        simp only [List.length_cons]
        omega
      · right
        refine ⟨o', t, by omega, ?_, g3, by simp only [List.length_cons]; omega, g5⟩
        have : (x - l).toNat = (x - (l + 1)).toNat + 1 := by omega
        rw [this]
        simpa using g2
theorem sv_tk2_spec {pc : Nat} {x d0 : Int} {d : Nat} {β : Type} {go : Nat → Option β} {res : β} (hd : (pc : Int) + d0 = (d : Int)) : ∀ (ps : List (Int × Int)) (sw : List (Int × Nat)), sv_tk2 pc ps sw = true → sv_sw x d go sw = some res → ∃ t : Nat, (pc : Int) + Op.lookupswitch.offset ps d0 x = (t : Int) ∧ go t = some res
  | [], [], _, h => ⟨d, hd, h⟩
  | [], _ :: _, h, _ => by simp [sv_tk2] at h
  | _ :: _, [], h, _ => by simp [sv_tk2] at h
  | o :: ps, q :: sw, h, hs => by
    simp only [sv_tk2, Bool.and_eq_true, decide_eq_true_eq] at h
    obtain ⟨⟨h1, h2⟩, h3⟩ := h
    obtain ⟨a, b⟩ := o
    rw [Op.lookupswitch.offset_cons]
    simp only [sv_sw] at hs
    rcases sv_if_some hs with ⟨hx, hg⟩ | ⟨hx, hg⟩
    · rw [if_pos (by rw [hx, h1])]
      exact ⟨q.2, h2, hg⟩
    · rw [if_neg (fun k => hx (by rw [h1]; exact k.symm))]
      exact sv_tk2_spec hd ps sw h3 hg
section SVC
variable {p : Program} {l : Launch} {e : Env} {R : Room} {s : State} {m : MethodId} {args : Array Value} {below : List Frame} {meth : Method} {c : Code} {cells slots : Nat} {Q : State → Prop}
variable {base : Nat} {ad : Nat → Nat → Nat} {dC : Nat → ClassId} {dI : Nat → Nat → Nat} {cA : Nat → ClassId} {nL n0 : Nat}
theorem sv_cl_ok {E : sv_E} (hE4 : ∀ pc n f, E.2.2.2.2.1 pc = some (n, f) → sv_cok p l e R s m args below meth c cells slots Q base ad dC dI cA E.2.2.2.1 nL n0 pc n f) {β : Type} {res : β} {pc : Nat} {lo : sv_Lo} {st : List sv_V} {σ : sv_S} {go : Nat → sv_Lo → List sv_V → sv_S → Option β}
    (hgo : ∀ pc lo st σ, go pc lo st σ = some res → sv_Wt p l e R s m args below meth c cells slots Q base ad dC dI cA E.2.2.2.1 nL n0 pc lo st σ)
    (h : sv_cl E pc (pc + 3) lo st σ go = some res) : sv_Wt p l e R s m args below meth c cells slots Q base ad dC dI cA E.2.2.2.1 nL n0 pc lo st σ := by
  unfold sv_cl at h
  split at h
  · cases h
  rename_i n f hE
  split at h
  · cases h
  rename_i as rest htk
  obtain ⟨t, h1, h2, h3⟩ := sv_tk_spec _ _ _ _ _ htk
  have hst : st = as.reverse ++ rest := by rw [h3]; simp [h2]
  have hn : as.length = n := by rw [h3]; simp [h1]
  cases hsm : sv_sm rest with
  | false => rw [hsm] at h; cases h
  | true =>
    rw [hsm] at h
    simp only [cond_true] at h
    have hc := hE4 pc n f hE as rest lo σ hn hsm
    rw [hst]
    rcases f with F | F | F | F
    · obtain ⟨v, σ', e1, e2⟩ := sv_b_some h
      exact hc v σ' e1 (hgo _ _ _ _ e2)
    · obtain ⟨σ', e1, e2⟩ := sv_b0_some h
      exact hc σ' e1 (hgo _ _ _ _ e2)
    · obtain ⟨v, σ', e1, e2⟩ := sv_b_some h
      exact hc v σ' e1 (hgo _ _ _ _ e2)
    · rcases sv_bT_some h with ⟨σ', e1, e2⟩ | ⟨t, σ', e1, e2⟩
      · exact hc.1 σ' e1 (hgo _ _ _ _ e2)
      · exact hc.2 t σ' e1 (hgo _ _ _ _ e2)
end SVC
section SVI
variable {p : Program} {l : Launch} {e : Env} {R : Room} {s : State} {m : MethodId} {args : Array Value} {below : List Frame} {meth : Method} {c : Code} {cells slots : Nat} {Q : State → Prop}
variable {cc : ByteArray} {base : Nat} {ad : Nat → Nat → Nat} {dC : Nat → ClassId} {dI : Nat → Nat → Nat} {cA : Nat → ClassId} {own : String} {nL n0 : Nat}
set_option maxHeartbeats 4000000 in
theorem sv_i_ok (hx : p.tables.exec = Jvm.exec) (hb : c.code = cc) (hts : ∀ w ∈ gw_tbl, w.before args s = true) (hown : s.vm.findClass own = some m.cls) (hkn : sv_kn base ad dC dI cA s) (hck : ∀ ci q, vwCl[ci]? = some q → sv_ck ci q)
    {E : sv_E} (hE1 : ∀ idx q, E.1 idx = some q → sv_fk own idx q.1 q.2) (hE2 : ∀ idx v, E.2.1 idx = some v → sv_1k own idx v) (hE3 : ∀ idx, (E.2.2.1 idx = 1 → Cond.fieldLink own idx "OneStroke" "ABOVE" "[I" ∈ gw_tbl) ∧ (E.2.2.1 idx = 2 → Cond.fieldLink own idx "java/lang/String" "COMPACT_STRINGS" "Z" ∈ gw_tbl)) (hE4 : ∀ pc n f, E.2.2.2.2.1 pc = some (n, f) → sv_cok p l e R s m args below meth c cells slots Q base ad dC dI cA E.2.2.2.1 nL n0 pc n f) (hE5 : ∀ q, E.2.2.2.2.2 = some q → va_X (ad 24 0) q.1 q.2 s s.heap ∧ ad 24 0 < s.heap.size ∧ ¬ base ≤ ad 24 0)
    {β : Type} {rt : sv_V → sv_S → Option β} {res : β}
    (hrI : ∀ pc lo n σ, decode cc pc = .ok (.ireturn, 1) → rt (.inl n) σ = some res → sv_Wt p l e R s m args below meth c cells slots Q base ad dC dI cA E.2.2.2.1 nL n0 pc lo [.inl n] σ)
    (hrA : ∀ pc lo v σ, decode cc pc = .ok (.areturn, 1) → (v = sv_N ∨ ∃ r i, v = sv_R r i) → rt v σ = some res → sv_Wt p l e R s m args below meth c cells slots Q base ad dC dI cA E.2.2.2.1 nL n0 pc lo [v] σ)
    (hrV : ∀ pc lo σ, decode cc pc = .ok (.return_, 1) → rt (sv_L 0) σ = some res → sv_Wt p l e R s m args below meth c cells slots Q base ad dC dI cA E.2.2.2.1 nL n0 pc lo [] σ)
    {pc : Nat} {ins : Instr} {cv : sv_V} {nx tg : Nat} {sw : List (Int × Nat)} (hD : sv_dk cc (pc, (ins, (cv, (nx, (tg, sw))))) = true) {lo : sv_Lo} {st : List sv_V} {σ : sv_S} {go : Nat → sv_Lo → List sv_V → sv_S → Option β}
    (hgo : ∀ pc lo st σ, go pc lo st σ = some res → sv_Wt p l e R s m args below meth c cells slots Q base ad dC dI cA E.2.2.2.1 nL n0 pc lo st σ)
    (h : sv_i E rt pc cv nx tg sw lo st σ go ins = some res) : sv_Wt p l e R s m args below meth c cells slots Q base ad dC dI cA E.2.2.2.1 nL n0 pc lo st σ := by
  obtain ⟨len, hd, hlen, hnx, hsk⟩ := sv_dk_spec hD
  obtain ⟨hK, hZ, hT, hNw, hVR, hVS, hCS⟩ := id hkn
  cases ins

  case iconst v =>
    obtain rfl : 1 = len := hlen.resolve_left (fun q => absurd q (Nat.succ_ne_zero _))
    have hnx : nx = pc + 1 := hnx
    subst hnx
    simp only [sv_i] at h
    simp only [sv_sk, decide_eq_true_eq] at hsk
    subst hsk
    intro H locs ls hR hS hL hct hst hlo
    subst hct
    exact lv_iconst hx hb hd rfl (hgo _ _ _ _ h H locs ls hR hS hL rfl (sv_cs trivial hst) hlo)
  case bipush v =>
    obtain rfl : 2 = len := hlen.resolve_left (fun q => absurd q (Nat.succ_ne_zero _))
    have hnx : nx = pc + 2 := hnx
    subst hnx
    simp only [sv_i] at h
    simp only [sv_sk, decide_eq_true_eq] at hsk
    subst hsk
    intro H locs ls hR hS hL hct hst hlo
    subst hct
    exact lv_bipush hx hb hd rfl (hgo _ _ _ _ h H locs ls hR hS hL rfl (sv_cs trivial hst) hlo)
  case sipush v =>
    obtain rfl : 3 = len := hlen.resolve_left (fun q => absurd q (Nat.succ_ne_zero _))
    have hnx : nx = pc + 3 := hnx
    subst hnx
    simp only [sv_i] at h
    simp only [sv_sk, decide_eq_true_eq] at hsk
    subst hsk
    intro H locs ls hR hS hL hct hst hlo
    subst hct
    exact lv_sipush hx hb hd rfl (hgo _ _ _ _ h H locs ls hR hS hL rfl (sv_cs trivial hst) hlo)
  case lconst v =>
    obtain rfl : 1 = len := hlen.resolve_left (fun q => absurd q (Nat.succ_ne_zero _))
    have hnx : nx = pc + 1 := hnx
    subst hnx
    simp only [sv_i] at h
    simp only [sv_sk, decide_eq_true_eq] at hsk
    subst hsk
    intro H locs ls hR hS hL hct hst hlo
    subst hct
    exact lv_lconst hx hb hd rfl (hgo _ _ _ _ h H locs ls hR hS hL rfl (sv_cs trivial hst) hlo)
  case aconst_null =>
    obtain rfl : 1 = len := hlen.resolve_left (fun q => absurd q (Nat.succ_ne_zero _))
    have hnx : nx = pc + 1 := hnx
    subst hnx
    simp only [sv_i] at h
    intro H locs ls hR hS hL hct hst hlo
    subst hct
    exact lv_null hx hb hd (hgo _ _ _ _ h H locs ls hR hS hL rfl (sv_cs trivial hst) hlo)
  case ldc idx =>
    obtain rfl : 2 = len := hlen.resolve_left (fun q => absurd q (Nat.succ_ne_zero _))
    have hnx : nx = pc + 2 := hnx
    subst hnx
    simp only [sv_i] at h
    split at h
    · rename_i n hn
      intro H locs ls hR hS hL hct hst hlo
      subst hct
      exact lv_ldc hx hb hown (hts _ (hE2 _ _ hn)) hd (hgo _ _ _ _ h H locs ls hR hS hL rfl (sv_cs trivial hst) hlo)
    · rename_i r i hn
      obtain ⟨rfl, hi, rfl, rfl⟩ := hE2 _ _ hn
      intro H locs ls hR hS hL hct hst hlo
      subst hct
      exact va_ldcS hx hb hown (hVR i hi) hd (hgo _ _ _ _ h H locs ls hR hS hL rfl (sv_cs ⟨hi, by simp⟩ hst) hlo)
    · cases h
  case ldc_w idx =>
    obtain rfl : 3 = len := hlen.resolve_left (fun q => absurd q (Nat.succ_ne_zero _))
    have hnx : nx = pc + 3 := hnx
    subst hnx
    simp only [sv_i] at h
    split at h
    · rename_i n hn
      intro H locs ls hR hS hL hct hst hlo
      subst hct
      exact lv_ldcw hx hb hown (hts _ (hE2 _ _ hn)) hd (hgo _ _ _ _ h H locs ls hR hS hL rfl (sv_cs trivial hst) hlo)
    · cases h
  case ldc2_w idx =>
    obtain rfl : 3 = len := hlen.resolve_left (fun q => absurd q (Nat.succ_ne_zero _))
    have hnx : nx = pc + 3 := hnx
    subst hnx
    simp only [sv_i] at h
    split at h
    · rename_i n hn
      intro H locs ls hR hS hL hct hst hlo
      subst hct
      exact lv_ldc2 hx hb hown (hts _ (hE2 _ _ hn)) hd (hgo _ _ _ _ h H locs ls hR hS hL rfl (sv_cs trivial hst) hlo)
    · cases h
  case iload_n k =>
    obtain rfl : 1 = len := hlen.resolve_left (fun q => absurd q (Nat.succ_ne_zero _))
    have hnx : nx = pc + 1 := hnx
    subst hnx
    simp only [sv_i] at h
    split at h
    · rename_i hn
      intro H locs ls hR hS hL hct hst hlo
      subst hct
      exact lv_iload_n hx hb hd rfl (hL.at hn) (hgo _ _ _ _ h H locs ls hR hS hL rfl (sv_cs (hlo _ _ hn).1 hst) hlo)
    · cases h
  case iload k =>
    obtain rfl : 2 = len := hlen.resolve_left (fun q => absurd q (Nat.succ_ne_zero _))
    have hnx : nx = pc + 2 := hnx
    subst hnx
    simp only [sv_i] at h
    split at h
    · rename_i hn
      intro H locs ls hR hS hL hct hst hlo
      subst hct
      exact lv_iload hx hb hd (hL.at hn) (hgo _ _ _ _ h H locs ls hR hS hL rfl (sv_cs (hlo _ _ hn).1 hst) hlo)
    · cases h
  case lload_n k =>
    obtain rfl : 1 = len := hlen.resolve_left (fun q => absurd q (Nat.succ_ne_zero _))
    have hnx : nx = pc + 1 := hnx
    subst hnx
    simp only [sv_i] at h
    split at h
    · rename_i hn
      intro H locs ls hR hS hL hct hst hlo
      subst hct
      exact lv_lload_n hx hb hd rfl (hL.at hn) (hgo _ _ _ _ h H locs ls hR hS hL rfl (sv_cs (hlo _ _ hn).1 hst) hlo)
    · cases h
  case lload k =>
    obtain rfl : 2 = len := hlen.resolve_left (fun q => absurd q (Nat.succ_ne_zero _))
    have hnx : nx = pc + 2 := hnx
    subst hnx
    simp only [sv_i] at h
    split at h
    · rename_i hn
      intro H locs ls hR hS hL hct hst hlo
      subst hct
      exact lv_lload hx hb hd (hL.at hn) (hgo _ _ _ _ h H locs ls hR hS hL rfl (sv_cs (hlo _ _ hn).1 hst) hlo)
    · cases h
  case aload_n k =>
    obtain rfl : 1 = len := hlen.resolve_left (fun q => absurd q (Nat.succ_ne_zero _))
    have hnx : nx = pc + 1 := hnx
    subst hnx
    simp only [sv_i] at h
    split at h
    · rename_i hn
      intro H locs ls hR hS hL hct hst hlo
      subst hct
      exact lv_aload_n hx hb hd rfl (hL.at hn) (hgo _ _ _ _ h H locs ls hR hS hL rfl (sv_cs (hlo _ _ hn).1 hst) hlo)
    · cases h
  case aload k =>
    obtain rfl : 2 = len := hlen.resolve_left (fun q => absurd q (Nat.succ_ne_zero _))
    have hnx : nx = pc + 2 := hnx
    subst hnx
    simp only [sv_i] at h
    split at h
    · rename_i hn
      intro H locs ls hR hS hL hct hst hlo
      subst hct
      exact lv_aload hx hb hd (hL.at hn) (hgo _ _ _ _ h H locs ls hR hS hL rfl (sv_cs (hlo _ _ hn).1 hst) hlo)
    · cases h
  case istore_n k =>
    obtain rfl : 1 = len := hlen.resolve_left (fun q => absurd q (Nat.succ_ne_zero _))
    have hnx : nx = pc + 1 := hnx
    subst hnx
    simp only [sv_i] at h
    split at h
    · cases hnl : (E.2.2.2.1 && Nat.ble (k + 1) lo.length) with
      | false => rw [hnl] at h; cases h
      | true =>
        rw [hnl] at h
        simp only [cond_true] at h
        simp only [Bool.and_eq_true] at hnl
        obtain ⟨hnl, hk⟩ := hnl
        have hk := Nat.le_of_ble_eq_true hk
        intro H locs ls hR hS hL hct hst hlo
        subst hct
        have h1 : ∀ j w, sv_ga lo j = some w → sv_1 w := fun j w hj => (hlo j w hj).2 hnl
        have hk' : (k : Nat) < nL := by rw [← hL.1]; exact hk
        refine lv_istore_n hx hb hd rfl hL.2 hk' rfl (fun ls' hl' => ?_)
        have hL' := sv_lh.put (v := .inl _) hL.1 hk' h1 hl'
        refine hgo _ _ _ _ h H locs ls' hR hS hL' rfl (sv_t1 hst) (fun i v hi => ?_)
        rw [sv_ga_se lo _ i _ hk] at hi
        split at hi
        · cases hi; exact ⟨hst _ List.mem_cons_self, fun _ => trivial⟩
        · exact hlo i v hi
    · cases h
  case istore k =>
    obtain rfl : 2 = len := hlen.resolve_left (fun q => absurd q (Nat.succ_ne_zero _))
    have hnx : nx = pc + 2 := hnx
    subst hnx
    simp only [sv_i] at h
    split at h
    · cases hnl : (E.2.2.2.1 && Nat.ble (k + 1) lo.length) with
      | false => rw [hnl] at h; cases h
      | true =>
        rw [hnl] at h
        simp only [cond_true] at h
        simp only [Bool.and_eq_true] at hnl
        obtain ⟨hnl, hk⟩ := hnl
        have hk := Nat.le_of_ble_eq_true hk
        intro H locs ls hR hS hL hct hst hlo
        subst hct
        have h1 : ∀ j w, sv_ga lo j = some w → sv_1 w := fun j w hj => (hlo j w hj).2 hnl
        have hk' : (k : Nat) < nL := by rw [← hL.1]; exact hk
        refine lv_istore hx hb hd hL.2 hk' rfl (fun ls' hl' => ?_)
        have hL' := sv_lh.put (v := .inl _) hL.1 hk' h1 hl'
        refine hgo _ _ _ _ h H locs ls' hR hS hL' rfl (sv_t1 hst) (fun i v hi => ?_)
        rw [sv_ga_se lo _ i _ hk] at hi
        split at hi
        · cases hi; exact ⟨hst _ List.mem_cons_self, fun _ => trivial⟩
        · exact hlo i v hi
    · cases h
  case astore_n k =>
    obtain rfl : 1 = len := hlen.resolve_left (fun q => absurd q (Nat.succ_ne_zero _))
    have hnx : nx = pc + 1 := hnx
    subst hnx
    simp only [sv_i] at h
    split at h
    · cases hnl : (E.2.2.2.1 && Nat.ble (k + 1) lo.length) with
      | false => rw [hnl] at h; cases h
      | true =>
        rw [hnl] at h
        simp only [cond_true] at h
        simp only [Bool.and_eq_true] at hnl
        obtain ⟨hnl, hk⟩ := hnl
        have hk := Nat.le_of_ble_eq_true hk
        intro H locs ls hR hS hL hct hst hlo
        subst hct
        have h1 : ∀ j w, sv_ga lo j = some w → sv_1 w := fun j w hj => (hlo j w hj).2 hnl
        have hk' : (k : Nat) < nL := by rw [← hL.1]; exact hk
        refine lv_astore_n hx hb hd rfl hL.2 hk' rfl (fun ls' hl' => ?_)
        have hL' := sv_lh.put (v := sv_R _ _) hL.1 hk' h1 hl'
        refine hgo _ _ _ _ h H locs ls' hR hS hL' rfl (sv_t1 hst) (fun i v hi => ?_)
        rw [sv_ga_se lo _ i _ hk] at hi
        split at hi
        · cases hi; exact ⟨hst _ List.mem_cons_self, fun _ => trivial⟩
        · exact hlo i v hi
    · cases h
  case astore k =>
    obtain rfl : 2 = len := hlen.resolve_left (fun q => absurd q (Nat.succ_ne_zero _))
    have hnx : nx = pc + 2 := hnx
    subst hnx
    simp only [sv_i] at h
    split at h
    · cases hnl : (E.2.2.2.1 && Nat.ble (k + 1) lo.length) with
      | false => rw [hnl] at h; cases h
      | true =>
        rw [hnl] at h
        simp only [cond_true] at h
        simp only [Bool.and_eq_true] at hnl
        obtain ⟨hnl, hk⟩ := hnl
        have hk := Nat.le_of_ble_eq_true hk
        intro H locs ls hR hS hL hct hst hlo
        subst hct
        have h1 : ∀ j w, sv_ga lo j = some w → sv_1 w := fun j w hj => (hlo j w hj).2 hnl
        have hk' : (k : Nat) < nL := by rw [← hL.1]; exact hk
        refine lv_astore hx hb hd hL.2 hk' rfl (fun ls' hl' => ?_)
        have hL' := sv_lh.put (v := sv_R _ _) hL.1 hk' h1 hl'
        refine hgo _ _ _ _ h H locs ls' hR hS hL' rfl (sv_t1 hst) (fun i v hi => ?_)
        rw [sv_ga_se lo _ i _ hk] at hi
        split at hi
        · cases hi; exact ⟨hst _ List.mem_cons_self, fun _ => trivial⟩
        · exact hlo i v hi
    · cases h
  case iinc k d =>
    obtain rfl : 3 = len := hlen.resolve_left (fun q => absurd q (Nat.succ_ne_zero _))
    have hnx : nx = pc + 3 := hnx
    subst hnx
    simp only [sv_i] at h
    simp only [sv_sk, decide_eq_true_eq] at hsk
    subst hsk
    split at h
    · rename_i n d' hn hd'
      cases hd'
      by_cases hnl : E.2.2.2.1 = true
      · rw [hnl] at h
        simp only [cond_true] at h
        intro H locs ls hR hS hL hct hst hlo
        subst hct
        have h1 : ∀ j w, sv_ga lo j = some w → sv_1 w := fun j w hj => (hlo j w hj).2 hnl
        have hk : k < nL := by rw [← hL.1]; exact sv_ga_lt _ _ _ hn
        obtain ⟨kk, hkk⟩ := List.getElem?_of_mem (sv_ll_in (ad := ad) lo 0 k _ hn)
        rw [Nat.zero_add] at hkk
        refine lv_iinc hx hb hd hL.2 hkk rfl hk rfl (fun ls' hl' => ?_)
        have hL' := sv_lh.put (v := .inl _) hL.1 hk h1 hl'
        refine hgo _ _ _ _ h H locs ls' hR hS hL' rfl hst (fun i v hi => ?_)
        rw [sv_ga_se lo _ i _ (by rw [hL.1]; exact hk)] at hi
        split at hi
        · cases hi; exact ⟨trivial, fun _ => trivial⟩
        · exact hlo i v hi
      · rw [Bool.not_eq_true] at hnl
        rw [hnl] at h
        cases h
    · cases h
  case iadd =>
    obtain rfl : 1 = len := hlen.resolve_left (fun q => absurd q (Nat.succ_ne_zero _))
    have hnx : nx = pc + 1 := hnx
    subst hnx
    simp only [sv_i] at h
    split at h
    · intro H locs ls hR hS hL hct hst hlo
      subst hct
      exact lv_iadd hx hb hd (hgo _ _ _ _ h H locs ls hR hS hL rfl (sv_cs trivial (sv_t1 (sv_t1 hst))) hlo)
    · cases h
  case isub =>
    obtain rfl : 1 = len := hlen.resolve_left (fun q => absurd q (Nat.succ_ne_zero _))
    have hnx : nx = pc + 1 := hnx
    subst hnx
    simp only [sv_i] at h
    split at h
    · intro H locs ls hR hS hL hct hst hlo
      subst hct
      exact lv_isub hx hb hd (hgo _ _ _ _ h H locs ls hR hS hL rfl (sv_cs trivial (sv_t1 (sv_t1 hst))) hlo)
    · cases h
  case imul =>
    obtain rfl : 1 = len := hlen.resolve_left (fun q => absurd q (Nat.succ_ne_zero _))
    have hnx : nx = pc + 1 := hnx
    subst hnx
    simp only [sv_i] at h
    split at h
    · intro H locs ls hR hS hL hct hst hlo
      subst hct
      exact lv_imul hx hb hd (hgo _ _ _ _ h H locs ls hR hS hL rfl (sv_cs trivial (sv_t1 (sv_t1 hst))) hlo)
    · cases h
  case iand =>
    obtain rfl : 1 = len := hlen.resolve_left (fun q => absurd q (Nat.succ_ne_zero _))
    have hnx : nx = pc + 1 := hnx
    subst hnx
    simp only [sv_i] at h
    split at h
    · intro H locs ls hR hS hL hct hst hlo
      subst hct
      exact lv_iand hx hb hd (hgo _ _ _ _ h H locs ls hR hS hL rfl (sv_cs trivial (sv_t1 (sv_t1 hst))) hlo)
    · cases h
  case ior =>
    obtain rfl : 1 = len := hlen.resolve_left (fun q => absurd q (Nat.succ_ne_zero _))
    have hnx : nx = pc + 1 := hnx
    subst hnx
    simp only [sv_i] at h
    split at h
    · intro H locs ls hR hS hL hct hst hlo
      subst hct
      exact lv_ior hx hb hd (hgo _ _ _ _ h H locs ls hR hS hL rfl (sv_cs trivial (sv_t1 (sv_t1 hst))) hlo)
    · cases h
  case ishl =>
    obtain rfl : 1 = len := hlen.resolve_left (fun q => absurd q (Nat.succ_ne_zero _))
    have hnx : nx = pc + 1 := hnx
    subst hnx
    simp only [sv_i] at h
    split at h
    · intro H locs ls hR hS hL hct hst hlo
      subst hct
      exact lv_ishl hx hb hd (hgo _ _ _ _ h H locs ls hR hS hL rfl (sv_cs trivial (sv_t1 (sv_t1 hst))) hlo)
    · cases h
  case ishr =>
    obtain rfl : 1 = len := hlen.resolve_left (fun q => absurd q (Nat.succ_ne_zero _))
    have hnx : nx = pc + 1 := hnx
    subst hnx
    simp only [sv_i] at h
    split at h
    · intro H locs ls hR hS hL hct hst hlo
      subst hct
      exact lv_ishr hx hb hd (hgo _ _ _ _ h H locs ls hR hS hL rfl (sv_cs trivial (sv_t1 (sv_t1 hst))) hlo)
    · cases h
  case ladd =>
    obtain rfl : 1 = len := hlen.resolve_left (fun q => absurd q (Nat.succ_ne_zero _))
    have hnx : nx = pc + 1 := hnx
    subst hnx
    simp only [sv_i] at h
    split at h
    · intro H locs ls hR hS hL hct hst hlo
      subst hct
      exact lv_ladd hx hb hd (hgo _ _ _ _ h H locs ls hR hS hL rfl (sv_cs trivial (sv_t1 (sv_t1 hst))) hlo)
    · cases h
  case iushr =>
    obtain rfl : 1 = len := hlen.resolve_left (fun q => absurd q (Nat.succ_ne_zero _))
    have hnx : nx = pc + 1 := hnx
    subst hnx
    simp only [sv_i] at h
    split at h
    · intro H locs ls hR hS hL hct hst hlo
      subst hct
      exact lv_iushr hx hb hd rfl (hgo _ _ _ _ h H locs ls hR hS hL rfl (sv_cs trivial (sv_t1 (sv_t1 hst))) hlo)
    · cases h
  case lcmp =>
    obtain rfl : 1 = len := hlen.resolve_left (fun q => absurd q (Nat.succ_ne_zero _))
    have hnx : nx = pc + 1 := hnx
    subst hnx
    simp only [sv_i] at h
    split at h
    · intro H locs ls hR hS hL hct hst hlo
      subst hct
      exact W.lcmp hx hb hd (hgo _ _ _ _ h H locs ls hR hS hL rfl (sv_cs trivial (sv_t1 (sv_t1 hst))) hlo)
    · cases h
  case ineg =>
    obtain rfl : 1 = len := hlen.resolve_left (fun q => absurd q (Nat.succ_ne_zero _))
    have hnx : nx = pc + 1 := hnx
    subst hnx
    simp only [sv_i] at h
    split at h
    · intro H locs ls hR hS hL hct hst hlo
      subst hct
      exact lv_ineg hx hb hd (hgo _ _ _ _ h H locs ls hR hS hL rfl (sv_cs trivial (sv_t1 hst)) hlo)
    · cases h
  case i2l =>
    obtain rfl : 1 = len := hlen.resolve_left (fun q => absurd q (Nat.succ_ne_zero _))
    have hnx : nx = pc + 1 := hnx
    subst hnx
    simp only [sv_i] at h
    split at h
    · intro H locs ls hR hS hL hct hst hlo
      subst hct
      exact lv_i2l hx hb hd rfl (hgo _ _ _ _ h H locs ls hR hS hL rfl (sv_cs trivial (sv_t1 hst)) hlo)
    · cases h
  case i2b =>
    obtain rfl : 1 = len := hlen.resolve_left (fun q => absurd q (Nat.succ_ne_zero _))
    have hnx : nx = pc + 1 := hnx
    subst hnx
    simp only [sv_i] at h
    split at h
    · intro H locs ls hR hS hL hct hst hlo
      subst hct
      exact lv_i2b hx hb hd rfl (hgo _ _ _ _ h H locs ls hR hS hL rfl (sv_cs trivial (sv_t1 hst)) hlo)
    · cases h
  case i2s =>
    obtain rfl : 1 = len := hlen.resolve_left (fun q => absurd q (Nat.succ_ne_zero _))
    have hnx : nx = pc + 1 := hnx
    subst hnx
    simp only [sv_i] at h
    split at h
    · intro H locs ls hR hS hL hct hst hlo
      subst hct
      exact lv_i2s hx hb hd rfl (hgo _ _ _ _ h H locs ls hR hS hL rfl (sv_cs trivial (sv_t1 hst)) hlo)
    · cases h
  case i2c =>
    obtain rfl : 1 = len := hlen.resolve_left (fun q => absurd q (Nat.succ_ne_zero _))
    have hnx : nx = pc + 1 := hnx
    subst hnx
    simp only [sv_i] at h
    split at h
    · intro H locs ls hR hS hL hct hst hlo
      subst hct
      exact lv_i2c hx hb hd rfl (hgo _ _ _ _ h H locs ls hR hS hL rfl (sv_cs trivial (sv_t1 hst)) hlo)
    · cases h
  case idiv =>
    obtain rfl : 1 = len := hlen.resolve_left (fun q => absurd q (Nat.succ_ne_zero _))
    have hnx : nx = pc + 1 := hnx
    subst hnx
    simp only [sv_i] at h
    split at h
    · obtain ⟨hne, h⟩ := sv_g_some h
      intro H locs ls hR hS hL hct hst hlo
      subst hct
      exact lv_idiv hx hb hd hne (hgo _ _ _ _ h H locs ls hR hS hL rfl (sv_cs trivial (sv_t1 (sv_t1 hst))) hlo)
    · cases h
  case irem =>
    obtain rfl : 1 = len := hlen.resolve_left (fun q => absurd q (Nat.succ_ne_zero _))
    have hnx : nx = pc + 1 := hnx
    subst hnx
    simp only [sv_i] at h
    split at h
    · obtain ⟨hne, h⟩ := sv_g_some h
      intro H locs ls hR hS hL hct hst hlo
      subst hct
      exact lv_irem hx hb hd hne (hgo _ _ _ _ h H locs ls hR hS hL rfl (sv_cs trivial (sv_t1 (sv_t1 hst))) hlo)
    · cases h
  case dup =>
    obtain rfl : 1 = len := hlen.resolve_left (fun q => absurd q (Nat.succ_ne_zero _))
    have hnx : nx = pc + 1 := hnx
    subst hnx
    simp only [sv_i] at h
    split at h
    · intro H locs ls hR hS hL hct hst hlo
      subst hct
      exact lv_dup hx hb hd rfl (hgo _ _ _ _ h H locs ls hR hS hL rfl (sv_cs trivial hst) hlo)
    · intro H locs ls hR hS hL hct hst hlo
      subst hct
      exact lv_dup hx hb hd rfl (hgo _ _ _ _ h H locs ls hR hS hL rfl (sv_cs (hst _ List.mem_cons_self) hst) hlo)
    · cases h
  case dup2 =>
    obtain rfl : 1 = len := hlen.resolve_left (fun q => absurd q (Nat.succ_ne_zero _))
    have hnx : nx = pc + 1 := hnx
    subst hnx
    simp only [sv_i] at h
    split at h
    · intro H locs ls hR hS hL hct hst hlo
      subst hct
      exact lv_dup2_11 hx hb hd rfl rfl (hgo _ _ _ _ h H locs ls hR hS hL rfl (sv_cs trivial (sv_cs (hst _ (List.mem_cons_of_mem _ List.mem_cons_self)) hst)) hlo)
    · cases h
  case pop =>
    obtain rfl : 1 = len := hlen.resolve_left (fun q => absurd q (Nat.succ_ne_zero _))
    have hnx : nx = pc + 1 := hnx
    subst hnx
    simp only [sv_i] at h
    split at h
    · intro H locs ls hR hS hL hct hst hlo
      subst hct
      exact lv_pop hx hb hd rfl (hgo _ _ _ _ h H locs ls hR hS hL rfl (sv_t1 hst) hlo)
    · cases h
  case goto o =>
    obtain rfl : 3 = len := hlen.resolve_left (fun q => absurd q (Nat.succ_ne_zero _))
    have hnx : nx = pc + 3 := hnx
    subst hnx
    simp only [sv_i] at h
    simp only [sv_sk, decide_eq_true_eq] at hsk
    intro H locs ls hR hS hL hct hst hlo
    subst hct
    exact lv_goto hx hb hd hsk (hgo _ _ _ _ h H locs ls hR hS hL rfl hst hlo)
  case ifCond cnd o =>
    obtain rfl : 3 = len := hlen.resolve_left (fun q => absurd q (Nat.succ_ne_zero _))
    have hnx : nx = pc + 3 := hnx
    subst hnx
    simp only [sv_i] at h
    simp only [sv_sk, decide_eq_true_eq] at hsk
    split at h
    · intro H locs ls hR hS hL hct hst hlo
      subst hct
      have hst' := (sv_t1 hst)
      cases cnd <;> simp only [sv_br] at h
      · rcases sv_if_some h with ⟨hc, h⟩ | ⟨hc, h⟩
        · exact lv_if_eq hx hb hd hsk (fun _ => hgo _ _ _ _ h H locs ls hR hS hL rfl hst' hlo) (fun q => absurd hc q)
        · exact lv_if_eq hx hb hd hsk (fun q => absurd q hc) (fun _ => hgo _ _ _ _ h H locs ls hR hS hL rfl hst' hlo)
      · rcases sv_if_some h with ⟨hc, h⟩ | ⟨hc, h⟩
        · exact lv_if_ne hx hb hd hsk (fun q => absurd hc q) (fun _ => hgo _ _ _ _ h H locs ls hR hS hL rfl hst' hlo)
        · exact lv_if_ne hx hb hd hsk (fun _ => hgo _ _ _ _ h H locs ls hR hS hL rfl hst' hlo) (fun q => absurd q hc)
      · rcases sv_if_some h with ⟨hc, h⟩ | ⟨hc, h⟩
        · exact lv_if_lt hx hb hd hsk (fun _ => hgo _ _ _ _ h H locs ls hR hS hL rfl hst' hlo) (fun q => absurd hc q)
        · exact lv_if_lt hx hb hd hsk (fun q => absurd q hc) (fun _ => hgo _ _ _ _ h H locs ls hR hS hL rfl hst' hlo)
      · rcases sv_if_some h with ⟨hc, h⟩ | ⟨hc, h⟩
        · exact lv_if_ge hx hb hd hsk (fun _ => hgo _ _ _ _ h H locs ls hR hS hL rfl hst' hlo) (fun q => absurd hc q)
        · exact lv_if_ge hx hb hd hsk (fun q => absurd q hc) (fun _ => hgo _ _ _ _ h H locs ls hR hS hL rfl hst' hlo)
      · rcases sv_if_some h with ⟨hc, h⟩ | ⟨hc, h⟩
        · exact lv_if_gt hx hb hd hsk (fun _ => hgo _ _ _ _ h H locs ls hR hS hL rfl hst' hlo) (fun q => absurd hc q)
        · exact lv_if_gt hx hb hd hsk (fun q => absurd q hc) (fun _ => hgo _ _ _ _ h H locs ls hR hS hL rfl hst' hlo)
      · rcases sv_if_some h with ⟨hc, h⟩ | ⟨hc, h⟩
        · exact lv_if_le hx hb hd hsk (fun _ => hgo _ _ _ _ h H locs ls hR hS hL rfl hst' hlo) (fun q => absurd hc q)
        · exact lv_if_le hx hb hd hsk (fun q => absurd q hc) (fun _ => hgo _ _ _ _ h H locs ls hR hS hL rfl hst' hlo)
    · cases h
  case if_icmp cnd o =>
    obtain rfl : 3 = len := hlen.resolve_left (fun q => absurd q (Nat.succ_ne_zero _))
    have hnx : nx = pc + 3 := hnx
    subst hnx
    simp only [sv_i] at h
    simp only [sv_sk, decide_eq_true_eq] at hsk
    split at h
    · intro H locs ls hR hS hL hct hst hlo
      subst hct
      have hst' := (sv_t1 (sv_t1 hst))
      cases cnd <;> simp only [sv_br] at h
      · rcases sv_if_some h with ⟨hc, h⟩ | ⟨hc, h⟩
        · exact lv_icmp_eq hx hb hd hsk (fun _ => hgo _ _ _ _ h H locs ls hR hS hL rfl hst' hlo) (fun q => absurd hc q)
        · exact lv_icmp_eq hx hb hd hsk (fun q => absurd q hc) (fun _ => hgo _ _ _ _ h H locs ls hR hS hL rfl hst' hlo)
      · rcases sv_if_some h with ⟨hc, h⟩ | ⟨hc, h⟩
        · exact lv_icmp_ne hx hb hd hsk (fun q => absurd hc q) (fun _ => hgo _ _ _ _ h H locs ls hR hS hL rfl hst' hlo)
        · exact lv_icmp_ne hx hb hd hsk (fun _ => hgo _ _ _ _ h H locs ls hR hS hL rfl hst' hlo) (fun q => absurd q hc)
      · rcases sv_if_some h with ⟨hc, h⟩ | ⟨hc, h⟩
        · exact lv_icmp_lt hx hb hd hsk (fun _ => hgo _ _ _ _ h H locs ls hR hS hL rfl hst' hlo) (fun q => absurd hc q)
        · exact lv_icmp_lt hx hb hd hsk (fun q => absurd q hc) (fun _ => hgo _ _ _ _ h H locs ls hR hS hL rfl hst' hlo)
      · rcases sv_if_some h with ⟨hc, h⟩ | ⟨hc, h⟩
        · exact lv_icmp_ge hx hb hd hsk (fun _ => hgo _ _ _ _ h H locs ls hR hS hL rfl hst' hlo) (fun q => absurd hc q)
        · exact lv_icmp_ge hx hb hd hsk (fun q => absurd q hc) (fun _ => hgo _ _ _ _ h H locs ls hR hS hL rfl hst' hlo)
      · rcases sv_if_some h with ⟨hc, h⟩ | ⟨hc, h⟩
        · exact lv_icmp_gt hx hb hd hsk (fun _ => hgo _ _ _ _ h H locs ls hR hS hL rfl hst' hlo) (fun q => absurd hc q)
        · exact lv_icmp_gt hx hb hd hsk (fun q => absurd q hc) (fun _ => hgo _ _ _ _ h H locs ls hR hS hL rfl hst' hlo)
      · rcases sv_if_some h with ⟨hc, h⟩ | ⟨hc, h⟩
        · exact lv_icmp_le hx hb hd hsk (fun _ => hgo _ _ _ _ h H locs ls hR hS hL rfl hst' hlo) (fun q => absurd hc q)
        · exact lv_icmp_le hx hb hd hsk (fun q => absurd q hc) (fun _ => hgo _ _ _ _ h H locs ls hR hS hL rfl hst' hlo)
    · cases h
  case ifnull o =>
    obtain rfl : 3 = len := hlen.resolve_left (fun q => absurd q (Nat.succ_ne_zero _))
    have hnx : nx = pc + 3 := hnx
    subst hnx
    simp only [sv_i] at h
    simp only [sv_sk, decide_eq_true_eq] at hsk
    split at h
    · intro H locs ls hR hS hL hct hst hlo
      subst hct
      exact lv_ifnullN hx hb hd hsk (hgo _ _ _ _ h H locs ls hR hS hL rfl (sv_t1 hst) hlo)
    · intro H locs ls hR hS hL hct hst hlo
      subst hct
      exact lv_ifnull hx hb hd (hgo _ _ _ _ h H locs ls hR hS hL rfl (sv_t1 hst) hlo)
    · cases h
  case ifnonnull o =>
    obtain rfl : 3 = len := hlen.resolve_left (fun q => absurd q (Nat.succ_ne_zero _))
    have hnx : nx = pc + 3 := hnx
    subst hnx
    simp only [sv_i] at h
    simp only [sv_sk, decide_eq_true_eq] at hsk
    split at h
    · intro H locs ls hR hS hL hct hst hlo
      subst hct
      exact lv_ifnonnullN hx hb hd (hgo _ _ _ _ h H locs ls hR hS hL rfl (sv_t1 hst) hlo)
    · intro H locs ls hR hS hL hct hst hlo
      subst hct
      exact lv_ifnonnull hx hb hd hsk (hgo _ _ _ _ h H locs ls hR hS hL rfl (sv_t1 hst) hlo)
    · cases h
  case tableswitch d lw hg offs =>
    simp only [sv_i] at h
    simp only [sv_sk, Bool.and_eq_true, decide_eq_true_eq] at hsk
    obtain ⟨⟨hq1, hq2⟩, hq3⟩ := hsk
    split at h
    · intro H locs ls hR hS hL hct hst hlo
      subst hct
      rcases sv_tk1_spec _ _ _ hq3 h with ⟨g1, g2⟩ | ⟨o, t, g1, g2, g3, g4, g5⟩
      · exact lv_tableOut hx hb hd (by omega) hq2 (hgo _ _ _ _ g1 H locs ls hR hS hL rfl (sv_t1 hst) hlo)
      · refine lv_tableIn hx hb hd (by omega) (by omega) ?_ g3 (hgo _ _ _ _ g5 H locs ls hR hS hL rfl (sv_t1 hst) hlo)
        rw [← Array.getElem?_toList]; exact g2
    · cases h
  case lookupswitch d ps =>
    simp only [sv_i] at h
    simp only [sv_sk, Bool.and_eq_true, decide_eq_true_eq] at hsk
    obtain ⟨⟨hq1, hq2⟩, hq3⟩ := hsk
    split at h
    · intro H locs ls hR hS hL hct hst hlo
      subst hct
      obtain ⟨t, g1, g2⟩ := sv_tk2_spec hq2 _ _ hq3 h
      exact lv_lookup hx hb hd hq1 rfl g1 (hgo _ _ _ _ g2 H locs ls hR hS hL rfl (sv_t1 hst) hlo)
    · cases h
  case getfield idx =>
    obtain rfl : 3 = len := hlen.resolve_left (fun q => absurd q (Nat.succ_ne_zero _))
    have hnx : nx = pc + 3 := hnx
    subst hnx
    simp only [sv_i] at h
    split at h
    · rename_i c0 k0 r j st' hE
      split at h
      · rename_i c' hkd
        cases hbeq : Nat.beq c' c0 with
        | false => rw [hbeq] at h; cases h
        | true =>
          rw [hbeq] at h
          simp only [cond_true] at h
          have hc' := Nat.eq_of_beq_eq_true hbeq
          subst hc'
          intro H locs ls hR hS hL hct hst hlo
          subst hct
          have hlv : sv_lv (sv_ct σ) r j := hst _ List.mem_cons_self
          rcases hE1 _ _ hE with hf | ⟨h13, hf⟩
          · have hkN : k0 < sv_nf c' := by
              obtain ⟨q, hq, hk, -⟩ := hf
              rw [← (hck _ _ hq).1]; exact hk
            have hn13 : Nat.beq c' 13 = false := by
              obtain ⟨q, hq, -⟩ := hf
              have hci : c' < 13 := (List.getElem?_eq_some_iff.mp hq).1
              cases hb13 : Nat.beq c' 13 with
              | false => rfl
              | true => have := Nat.eq_of_beq_eq_true hb13; omega
            refine sv_get hx hb hts hown hK hR hlv hkd (hck c') hf hd ?_
            split at h
            · rename_i r' j' hfr
              have e : sv_df c' j k0 (σ r j k0) = sv_R r' j' := by unfold sv_df; rw [hfr]
              rw [e]
              exact hgo _ _ _ _ h H locs ls hR hS hL rfl (sv_cs (sv_fr_ok hkN hlv hkd hfr) (sv_t1 hst)) hlo
            · rename_i hfr
              rw [hn13] at h
              have e : sv_df c' j k0 (σ r j k0) = .inl (σ r j k0) := by unfold sv_df; rw [hfr]
              rw [e]
              exact hgo _ _ _ _ h H locs ls hR hS hL rfl (sv_cs trivial (sv_t1 hst)) hlo
          · have h13 : c' = 13 := h13
            subst h13
            have hr : r = 23 := sv_kd13 hkd
            subst hr
            have hj : j < 6 := hlv.1
            obtain ⟨hO, hC, hV, hB⟩ := hVS.1 j hj
            rcases hf with ⟨hk, hl⟩ | ⟨hk, hl⟩
            · have hk : k0 = 0 := hk
              subst hk
              exact vk_getf hx hb hV hS hown (hts _ hl) (fun _ h9 => h9) hd (hgo _ _ _ _ h H locs ls hR hS hL rfl (sv_cs ⟨hj, by simp⟩ (sv_t1 hst)) hlo)
            · have hk : k0 = 1 := hk
              subst hk
              exact vk_getf hx hb hC hS hown (hts _ hl) (fun _ h9 => h9) hd (hgo _ _ _ _ h H locs ls hR hS hL rfl (sv_cs trivial (sv_t1 hst)) hlo)
      · cases h
    · cases h
  case putfield idx =>
    obtain rfl : 3 = len := hlen.resolve_left (fun q => absurd q (Nat.succ_ne_zero _))
    have hnx : nx = pc + 3 := hnx
    subst hnx
    simp only [sv_i] at h
    split at h
    · rename_i c0 k0 n r j st' hE
      split at h
      · rename_i c' hkd
        cases hbeq : Nat.beq c' c0 with
        | false => rw [hbeq] at h; cases h
        | true =>
          rw [hbeq] at h
          simp only [cond_true] at h
          have hc' := Nat.eq_of_beq_eq_true hbeq
          subst hc'
          intro H locs ls hR hS hL hct hst hlo
          subst hct
          have hst1 := sv_t1 hst
          have hlv : sv_lv (sv_ct σ) r j := hst1 _ List.mem_cons_self
          have hft : (sv_ft c' k0 = 0 ∨ sv_ft c' k0 = 1 ∧ (n = 0 ∨ n = 1)) ∧ go (pc + 3) lo st' (sv_up σ r j k0 n) = some res := by
            split at h
            · rename_i q; exact ⟨Or.inl q, h⟩
            · rename_i q; obtain ⟨h1, h2⟩ := sv_g_some h; exact ⟨Or.inr ⟨q, h1⟩, h2⟩
            · cases h
          obtain ⟨hft, h⟩ := hft
          have h9 : c' ≠ 9 := by rintro rfl; simp [sv_ft] at hft
          have h13 : c' ≠ 13 := by rintro rfl; simp [sv_ft] at hft
          have hf : ∃ q : vw_C, vwCl[c']? = some q ∧ k0 < q.2.2 ∧ Cond.fieldLink own idx (q.2.1 k0).1 (q.2.1 k0).2.1 (q.2.1 k0).2.2.1 ∈ gw_tbl := by
            rcases hE1 _ _ hE with hf | ⟨q, -⟩
            · exact hf
            · exact absurd q h13
          have h18 : r ≠ 18 := by rintro rfl; simp [sv_kd] at hkd; exact h9 hkd.symm
          have h22 : r ≠ 22 := by rintro rfl; simp [sv_kd] at hkd
          have hfr : sv_fr c' j k0 = none := sv_ft_fr (by rcases hft with h | h; exact Or.inl h; exact Or.inr h.1)
          refine sv_put hx hb hts hown hK hR hS hlv hkd (hck c') hf hfr h18 h22 hft hd (fun H1 locs1 hR1 hS1 => ?_)
          have hct : sv_ct (sv_up σ r j k0 n) = sv_ct σ := sv_ct_up h22
          exact hgo _ _ _ _ h H1 locs1 ls hR1 hS1 hL hct (sv_t1 hst1) hlo
      · cases h
    · cases h
  case getstatic idx =>
    obtain rfl : 3 = len := hlen.resolve_left (fun q => absurd q (Nat.succ_ne_zero _))
    have hnx : nx = pc + 3 := hnx
    subst hnx
    simp only [sv_i] at h
    split at h
    · rename_i hg
      intro H locs ls hR hS hL hct hst hlo
      subst hct
      exact va_gets hx hb hZ hS hown (hts _ ((hE3 _).1 hg)) (fun _ h9 => h9) hd (hgo _ _ _ _ h H locs ls hR hS hL rfl (sv_cs ⟨Nat.zero_lt_one, by simp⟩ hst) hlo)
    · rename_i hg
      intro H locs ls hR hS hL hct hst hlo
      subst hct
      exact va_gets hx hb hCS hS hown (hts _ ((hE3 _).2 hg)) (fun _ h9 => h9) hd (hgo _ _ _ _ h H locs ls hR hS hL rfl (sv_cs trivial hst) hlo)
    · cases h
  case arraylength =>
    obtain rfl : 1 = len := hlen.resolve_left (fun q => absurd q (Nat.succ_ne_zero _))
    have hnx : nx = pc + 1 := hnx
    subst hnx
    simp only [sv_i] at h
    split at h
    · rename_i r j st'
      split at h
      · rename_i hkd
        split at h
        · rename_i q hq
          obtain ⟨hX, hbl, hbA⟩ := hE5 q hq
          intro H locs ls hR hS hL hct hst hlo
          subst hct
          have hlv : sv_lv (sv_ct σ) r j := hst _ List.mem_cons_self
          have hr : r = 24 := sv_kd8 hkd
          subst hr
          have hj : j = 0 := by have := hlv.1; simp [sv_nb] at this; exact this
          subst hj
          exact va_slen hx hb hX hbl hbA hS hd (hgo _ _ _ _ h H locs ls hR hS hL rfl (sv_cs trivial (sv_t1 hst)) hlo)
        · cases h
      · rename_i hkd
        intro H locs ls hR hS hL hct hst hlo
        subst hct
        have hlv : sv_lv (sv_ct σ) r j := hst _ List.mem_cons_self
        have hr : r = 25 := sv_kd7b hkd
        subst hr
        have hj : j < 6 := hlv.1
        obtain ⟨cell, c1, c2, c3, c4, c5, c6, c7⟩ := (hVS.1 j hj).2.2.2
        exact W.alen (ty := .byte) hx hb (by rw [hS.2.1 _ (Array.getElem?_eq_some_iff.mp c1).1 c7]; exact c1) c2 c5 rfl rfl hd (hgo _ _ _ _ h H locs ls hR hS hL rfl (sv_cs trivial (sv_t1 hst)) hlo)
      · rename_i t hne hne7 hkd
        cases hble : Nat.ble t 6 with
        | false => rw [hble] at h; cases h
        | true =>
          rw [hble] at h
          simp only [cond_true] at h
          have ht := Nat.le_of_ble_eq_true hble
          intro H locs ls hR hS hL hct hst hlo
          subst hct
          have hlv : sv_lv (sv_ct σ) r j := hst _ List.mem_cons_self
          have hgo' := hgo _ _ _ _ h H locs ls hR hS hL rfl (sv_cs trivial (sv_t1 hst)) hlo
          by_cases ht6 : t = 6
          · subst ht6
            have hr : r = 21 := sv_kd6 hkd
            subst hr
            have hj : j = 0 := by have := hlv.1; simp [sv_nb] at this; exact this
            subst hj
            obtain ⟨cell, c1, c2, c3, c4, c5, c6, c7⟩ := hT
            exact W.alen (ty := .int) hx hb (by rw [hS.2.1 _ (Array.getElem?_eq_some_iff.mp c1).1 c7]; exact c1) c2 c5 rfl rfl hd hgo'
          · have ht5 : t < 6 := by omega
            obtain ⟨ty, hty⟩ := sv_tys_at cA ht5
            exact sv_alen hx hb hK hR hlv hkd ht5 hty hd hgo'
      · cases h
    · cases h
  case iaload =>
    obtain rfl : 1 = len := hlen.resolve_left (fun q => absurd q (Nat.succ_ne_zero _))
    have hnx : nx = pc + 1 := hnx
    subst hnx
    simp only [sv_i] at h
    split at h
    · rename_i x r j st'
      split at h
      · rename_i hkd
        obtain ⟨hin, h⟩ := sv_g_some h
        intro H locs ls hR hS hL hct hst hlo
        subst hct
        exact sv_iald hx hb hK hR (sv_t1 hst _ List.mem_cons_self) hkd hin hd (hgo _ _ _ _ h H locs ls hR hS hL rfl (sv_cs trivial (sv_t1 (sv_t1 hst))) hlo)
      · rename_i hkd
        obtain ⟨hin, h⟩ := sv_g_some h
        intro H locs ls hR hS hL hct hst hlo
        subst hct
        have hlv : sv_lv (sv_ct σ) r j := sv_t1 hst _ List.mem_cons_self
        have hr : r = 21 := sv_kd6 hkd
        subst hr
        have hj : j = 0 := by have := hlv.1; simp [sv_nb] at this; exact this
        subst hj
        obtain ⟨cell, c1, c2, c3, c4, c5, c6, c7⟩ := hT
        refine W.iald (v := .int (sv_ab x.toNatClampNeg)) hx hb (by rw [hS.2.1 _ (Array.getElem?_eq_some_iff.mp c1).1 c7]; exact c1) c2 c3 ?_ (c6 _ (sv_int hin)) rfl rfl hd (hgo _ _ _ _ h H locs ls hR hS hL rfl (sv_cs trivial (sv_t1 (sv_t1 hst))) hlo)
        have h3 := sv_inv hin
        have h4 := sv_int hin
        intro h5
        rcases h5 with h5 | h5
        · exact h3 (Or.inl h5)
        · omega
      · rename_i hkd
        split at h
        · rename_i q hq
          obtain ⟨hin, h⟩ := sv_g_some h
          obtain ⟨hX, hbl, hbA⟩ := hE5 q hq
          intro H locs ls hR hS hL hct hst hlo
          subst hct
          have hlv : sv_lv (sv_ct σ) r j := sv_t1 hst _ List.mem_cons_self
          have hr : r = 24 := sv_kd8 hkd
          subst hr
          have hj : j = 0 := by have := hlv.1; simp [sv_nb] at this; exact this
          subst hj
          exact va_sld hx hb hX hbl hbA hS (vp_in_iff.mpr hin) hd (hgo _ _ _ _ h H locs ls hR hS hL rfl (sv_cs trivial (sv_t1 (sv_t1 hst))) hlo)
        · cases h
      · cases h
    · cases h
  case iastore =>
    obtain rfl : 1 = len := hlen.resolve_left (fun q => absurd q (Nat.succ_ne_zero _))
    have hnx : nx = pc + 1 := hnx
    subst hnx
    simp only [sv_i] at h
    split at h
    · rename_i n x r j st'
      split at h
      · rename_i hkd
        obtain ⟨hin, h⟩ := sv_g_some h
        intro H locs ls hR hS hL hct hst hlo
        subst hct
        have hst2 := sv_t1 (sv_t1 hst)
        refine sv_iast hx hb hK hR hS (hst2 _ List.mem_cons_self) hkd hin hd (fun H1 locs1 hR1 hS1 => ?_)
        have hct : sv_ct (sv_up σ r j x.toNatClampNeg n) = sv_ct σ := sv_ct_up (sv_no18 hkd (by decide)).2
        exact hgo _ _ _ _ h H1 locs1 ls hR1 hS1 hL hct (sv_t1 hst2) hlo
      · cases h
    · cases h
  case baload =>
    obtain rfl : 1 = len := hlen.resolve_left (fun q => absurd q (Nat.succ_ne_zero _))
    have hnx : nx = pc + 1 := hnx
    subst hnx
    simp only [sv_i] at h
    split at h
    · rename_i x r j st'
      split at h
      · rename_i hkd
        obtain ⟨hin, h⟩ := sv_g_some h
        intro H locs ls hR hS hL hct hst hlo
        subst hct
        exact sv_bald hx hb hK hR (sv_t1 hst _ List.mem_cons_self) hkd hin hd (hgo _ _ _ _ h H locs ls hR hS hL rfl (sv_cs trivial (sv_t1 (sv_t1 hst))) hlo)
      · rename_i hkd
        obtain ⟨hin, h⟩ := sv_g_some h
        intro H locs ls hR hS hL hct hst hlo
        subst hct
        have hlv : sv_lv (sv_ct σ) r j := sv_t1 hst _ List.mem_cons_self
        have hr : r = 25 := sv_kd7b hkd
        subst hr
        have hj : j < 6 := hlv.1
        obtain ⟨cell, c1, c2, c3, c4, c5, c6, c7⟩ := (hVS.1 j hj).2.2.2
        refine W.bald (v := .int ((sv_tb.getD j []).getD x.toNatClampNeg 0)) hx hb (by rw [hS.2.1 _ (Array.getElem?_eq_some_iff.mp c1).1 c7]; exact c1) c2 c3 ?_ (c6 _ (sv_int hin)) rfl rfl hd (hgo _ _ _ _ h H locs ls hR hS hL rfl (sv_cs trivial (sv_t1 (sv_t1 hst))) hlo)
        have h3 := sv_inv hin
        have h4 := sv_int hin
        intro h5
        rcases h5 with h5 | h5
        · exact h3 (Or.inl h5)
        · omega
      · cases h
    · cases h
  case bastore =>
    obtain rfl : 1 = len := hlen.resolve_left (fun q => absurd q (Nat.succ_ne_zero _))
    have hnx : nx = pc + 1 := hnx
    subst hnx
    simp only [sv_i] at h
    split at h
    · rename_i n x r j st'
      split at h
      · rename_i hkd
        obtain ⟨hin, h⟩ := sv_g_some h
        intro H locs ls hR hS hL hct hst hlo
        subst hct
        have hst2 := sv_t1 (sv_t1 hst)
        refine sv_bast hx hb hK hR hS (hst2 _ List.mem_cons_self) hkd hin hd (fun H1 locs1 hR1 hS1 => ?_)
        have hct : sv_ct (sv_up σ r j x.toNatClampNeg n.toInt8.toInt32) = sv_ct σ := sv_ct_up (sv_no18 hkd (by decide)).2
        exact hgo _ _ _ _ h H1 locs1 ls hR1 hS1 hL hct (sv_t1 hst2) hlo
      · cases h
    · cases h
  case aaload =>
    obtain rfl : 1 = len := hlen.resolve_left (fun q => absurd q (Nat.succ_ne_zero _))
    have hnx : nx = pc + 1 := hnx
    subst hnx
    simp only [sv_i] at h
    split at h
    · rename_i x r j st'
      split at h
      · rename_i hkd
        obtain ⟨hin, h⟩ := sv_g_some h
        intro H locs ls hR hS hL hct hst hlo
        subst hct
        have hlv : sv_lv (sv_ct σ) r j := sv_t1 hst _ List.mem_cons_self
        exact sv_aald hx hb hK hR hlv hkd (by decide) rfl hin hd (hgo _ _ _ _ h H locs ls hR hS hL rfl (sv_cs (sv_ar_ok2 hlv hkd (sv_int hin)) (sv_t1 (sv_t1 hst))) hlo)
      · rename_i hkd
        obtain ⟨hin, h⟩ := sv_g_some h
        intro H locs ls hR hS hL hct hst hlo
        subst hct
        have hlv : sv_lv (sv_ct σ) r j := sv_t1 hst _ List.mem_cons_self
        refine sv_aald hx hb hK hR hlv hkd (by decide) rfl hin hd ?_
        show W p l e R s m args below meth c H locs cells slots Q (F0 m (pc + 1) ls (sv_c ad (sv_tx (σ r j x.toNatClampNeg) sv_N (fun t => sv_R 18 t)) :: List.map (sv_c ad) st'))
        unfold sv_tx at h ⊢
        rcases sv_if_some h with ⟨h0, h⟩ | ⟨h0, h⟩
        · rw [sv_if_t h0]
          exact hgo _ _ _ _ h H locs ls hR hS hL rfl (sv_cs trivial (sv_t1 (sv_t1 hst))) hlo
        · rw [sv_if_f h0]
          obtain ⟨hlt, h⟩ := sv_g_some h
          exact hgo _ _ _ _ h H locs ls hR hS hL rfl (sv_cs ⟨hlt, by simp⟩ (sv_t1 (sv_t1 hst))) hlo
      · rename_i hkd
        obtain ⟨hin, h⟩ := sv_g_some h
        intro H locs ls hR hS hL hct hst hlo
        subst hct
        have hlv : sv_lv (sv_ct σ) r j := sv_t1 hst _ List.mem_cons_self
        exact sv_aald hx hb hK hR hlv hkd (by decide) rfl hin hd (hgo _ _ _ _ h H locs ls hR hS hL rfl (sv_cs (sv_ar_ok4 hlv hkd (sv_int hin)) (sv_t1 (sv_t1 hst))) hlo)
      · rename_i hkd
        obtain ⟨hin, h⟩ := sv_g_some h
        intro H locs ls hR hS hL hct hst hlo
        subst hct
        have hlv : sv_lv (sv_ct σ) r j := sv_t1 hst _ List.mem_cons_self
        exact sv_aald hx hb hK hR hlv hkd (by decide) rfl hin hd (hgo _ _ _ _ h H locs ls hR hS hL rfl (sv_cs (sv_ar_ok5 hlv hkd (sv_int hin)) (sv_t1 (sv_t1 hst))) hlo)
      · cases h
    · cases h
  case aastore =>
    obtain rfl : 1 = len := hlen.resolve_left (fun q => absurd q (Nat.succ_ne_zero _))
    have hnx : nx = pc + 1 := hnx
    subst hnx
    simp only [sv_i] at h
    split at h
    · rename_i x r j st'
      split at h
      · rename_i hkd
        obtain ⟨hin, h⟩ := sv_g_some h
        intro H locs ls hR hS hL hct hst hlo
        subst hct
        have hst2 := sv_t1 (sv_t1 hst)
        refine sv_aastN hx hb hK hR hS (hst2 _ List.mem_cons_self) hkd hin hd (fun H1 locs1 hR1 hS1 => ?_)
        have hct : sv_ct (sv_up σ r j x.toNatClampNeg 0) = sv_ct σ := sv_ct_up (sv_no18 hkd (by decide)).2
        exact hgo _ _ _ _ h H1 locs1 ls hR1 hS1 hL hct (sv_t1 hst2) hlo
      · cases h
    · rename_i t x r j st'
      split at h
      · rename_i hkd
        obtain ⟨hin, h⟩ := sv_g_some h
        intro H locs ls hR hS hL hct hst hlo
        subst hct
        have hst2 := sv_t1 (sv_t1 hst)
        refine sv_aastT hx hb hK hR hS (hst2 _ List.mem_cons_self) hkd (hst _ List.mem_cons_self) hin hd (fun H1 locs1 hR1 hS1 => ?_)
        have hct : sv_ct (sv_up σ r j x.toNatClampNeg (nI (t + 1))) = sv_ct σ := sv_ct_up (sv_no18 hkd (by decide)).2
        exact hgo _ _ _ _ h H1 locs1 ls hR1 hS1 hL hct (sv_t1 hst2) hlo
      · cases h
    · cases h
  case invokevirtual idx =>
    obtain rfl : 3 = len := hlen.resolve_left (fun q => absurd q (Nat.succ_ne_zero _))
    have hnx : nx = pc + 3 := hnx
    subst hnx
    simp only [sv_i] at h
    exact sv_cl_ok hE4 hgo h
  case invokestatic idx =>
    obtain rfl : 3 = len := hlen.resolve_left (fun q => absurd q (Nat.succ_ne_zero _))
    have hnx : nx = pc + 3 := hnx
    subst hnx
    simp only [sv_i] at h
    exact sv_cl_ok hE4 hgo h
  case invokespecial idx =>
    obtain rfl : 3 = len := hlen.resolve_left (fun q => absurd q (Nat.succ_ne_zero _))
    have hnx : nx = pc + 3 := hnx
    subst hnx
    simp only [sv_i] at h
    exact sv_cl_ok hE4 hgo h
  case ireturn =>
    obtain rfl : 1 = len := hlen.resolve_left (fun q => absurd q (Nat.succ_ne_zero _))
    have hnx : nx = pc + 1 := hnx
    subst hnx
    simp only [sv_i] at h
    split at h
    · exact hrI _ _ _ _ hd h
    · cases h
  case areturn =>
    obtain rfl : 1 = len := hlen.resolve_left (fun q => absurd q (Nat.succ_ne_zero _))
    have hnx : nx = pc + 1 := hnx
    subst hnx
    simp only [sv_i] at h
    split at h
    · exact hrA _ _ _ _ hd (Or.inl rfl) h
    · exact hrA _ _ _ _ hd (Or.inr ⟨_, _, rfl⟩) h
    · cases h
  case return_ =>
    obtain rfl : 1 = len := hlen.resolve_left (fun q => absurd q (Nat.succ_ne_zero _))
    have hnx : nx = pc + 1 := hnx
    subst hnx
    simp only [sv_i] at h
    split at h
    · exact hrV _ _ _ hd h
    · cases h
  all_goals (simp only [sv_i] at h; cases h)
/-- a run -/
theorem sv_ex_ok (hx : p.tables.exec = Jvm.exec) (hb : c.code = cc) (hts : ∀ w ∈ gw_tbl, w.before args s = true) (hown : s.vm.findClass own = some m.cls) (hkn : sv_kn base ad dC dI cA s) (hck : ∀ ci q, vwCl[ci]? = some q → sv_ck ci q)
    {E : sv_E} (hE1 : ∀ idx q, E.1 idx = some q → sv_fk own idx q.1 q.2) (hE2 : ∀ idx v, E.2.1 idx = some v → sv_1k own idx v) (hE3 : ∀ idx, (E.2.2.1 idx = 1 → Cond.fieldLink own idx "OneStroke" "ABOVE" "[I" ∈ gw_tbl) ∧ (E.2.2.1 idx = 2 → Cond.fieldLink own idx "java/lang/String" "COMPACT_STRINGS" "Z" ∈ gw_tbl)) (hE4 : ∀ pc n f, E.2.2.2.2.1 pc = some (n, f) → sv_cok p l e R s m args below meth c cells slots Q base ad dC dI cA E.2.2.2.1 nL n0 pc n f) (hE5 : ∀ q, E.2.2.2.2.2 = some q → va_X (ad 24 0) q.1 q.2 s s.heap ∧ ad 24 0 < s.heap.size ∧ ¬ base ≤ ad 24 0)
    {β : Type} {rt : sv_V → sv_S → Option β} {res : β}
    (hrI : ∀ pc lo n σ, decode cc pc = .ok (.ireturn, 1) → rt (.inl n) σ = some res → sv_Wt p l e R s m args below meth c cells slots Q base ad dC dI cA E.2.2.2.1 nL n0 pc lo [.inl n] σ)
    (hrA : ∀ pc lo v σ, decode cc pc = .ok (.areturn, 1) → (v = sv_N ∨ ∃ r i, v = sv_R r i) → rt v σ = some res → sv_Wt p l e R s m args below meth c cells slots Q base ad dC dI cA E.2.2.2.1 nL n0 pc lo [v] σ)
    (hrV : ∀ pc lo σ, decode cc pc = .ok (.return_, 1) → rt (sv_L 0) σ = some res → sv_Wt p l e R s m args below meth c cells slots Q base ad dC dI cA E.2.2.2.1 nL n0 pc lo [] σ)
    {cd : sv_C} (hD : cd.all (sv_dk cc) = true) {K : sv_K β} (hK : ∀ pc k, K pc = some k → ∀ lo st σ, k lo st σ = some res → sv_Wt p l e R s m args below meth c cells slots Q base ad dC dI cA E.2.2.2.1 nL n0 pc lo st σ) :
    ∀ (n pc : Nat) (lo : sv_Lo) (st : List sv_V) (σ : sv_S), sv_ex E rt K cd n pc lo st σ = some res → sv_Wt p l e R s m args below meth c cells slots Q base ad dC dI cA E.2.2.2.1 nL n0 pc lo st σ := by
  have hat : ∀ (cd : sv_C) (pc : Nat) (w : sv_W), sv_at pc cd = some w → (pc, w) ∈ cd := by
    intro cd
    induction cd with
    | nil => intro pc w h; cases h
    | cons q cd ih =>
      intro pc w h
      simp only [sv_at] at h
      cases hq : Nat.beq pc q.1 with
      | true =>
        rw [hq] at h
        simp only [cond_true, Option.some.injEq] at h
        have := Nat.eq_of_beq_eq_true hq
        subst this
        subst h
        exact List.mem_cons_self
      | false =>
        rw [hq] at h
        exact List.mem_cons_of_mem _ (ih pc w h)
  intro n
  induction n with
  | zero => intro pc lo st σ h; cases h
  | succ n ih =>
    intro pc lo st σ h
    simp only [sv_ex] at h
    split at h
    · cases h
    · rename_i ins cv nx tg sw hw
      have hd := List.all_eq_true.mp hD _ (hat _ _ _ hw)
      refine sv_i_ok hx hb hts hown hkn hck hE1 hE2 hE3 hE4 hE5 hrI hrA hrV hd (fun pc lo st σ h => ?_) h
      split at h
      · rename_i k hk
        exact hK _ _ hk _ _ _ h
      · exact ih _ _ _ _ h
end SVI
end
section
/-! ===== contracts of methods by their functions; calls ===== -/
def sv_ws (y : MethodName) (b : ByteArray) (n : Nat) (ret : Option FieldType) : List Cond := .code y b n ret :: gw_tbl
def sv_rm (h : Nat) : Room := { frames := h, cells := 0, slots := 0, locals := 64 * h }
def sv_Pc (base : Nat) (ad : Nat → Nat → Nat) (dC : Nat → ClassId) (dI : Nat → Nat → Nat) (cA : Nat → ClassId) (as : List sv_V) (σ : sv_S) : Array Value → State → Prop := fun v U => v = (as.map (sv_c ad)).toArray ∧ sv_kn base ad dC dI cA U ∧ sv_rep base ad dC dI cA σ U.heap
def sv_Qc (base : Nat) (ad : Nat → Nat → Nat) (dC : Nat → ClassId) (dI : Nat → Nat → Nat) (cA : Nat → ClassId) (n0 : Nat) (r : Option sv_V) (σ' : sv_S) : Array Value → State → Outcome → State → Prop := fun _ st oc t => oc = .returned (r.map (sv_c ad)) ∧ sv_rep base ad dC dI cA σ' t.heap ∧ va_F (fun q => base ≤ q) st t ∧ (∀ v, r = some v → sv_ok n0 v) ∧ sv_ct σ' = n0
abbrev sv_D : Type := List sv_V → sv_S → Option (Option sv_V × sv_S)
/-- the contract of a method whose function is G, at height h -/
def sv_M (l : Launch) (y : MethodName) (b : ByteArray) (n : Nat) (ret : Option FieldType) (G : sv_D) (h : Nat) : Prop :=
  ∀ (base : Nat) (ad : Nat → Nat → Nat) (dC : Nat → ClassId) (dI : Nat → Nat → Nat) (cA : Nat → ClassId) (as : List sv_V) (σ : sv_S) (r : Option sv_V) (σ' : sv_S), G as σ = some (r, σ') → (∀ v ∈ as, sv_ok (sv_ct σ) v) →
    Met l y (sv_ws y b n ret) (sv_rm h) (sv_Pc base ad dC dI cA as σ) (sv_Qc base ad dC dI cA (sv_ct σ) r σ') 0 0 (fun q => base ≤ q)
noncomputable def sv_gI (F : List sv_V → sv_S → Option (Int32 × sv_S)) : sv_D := fun as σ => sv_b (F as σ) (fun v σ => some (some (.inl v), σ))
noncomputable def sv_gV (F : List sv_V → sv_S → Option sv_S) : sv_D := fun as σ => sv_b0 (F as σ) (fun σ => some (none, σ))
noncomputable def sv_gR (q : Nat) (F : List sv_V → sv_S → Option (Nat × sv_S)) : sv_D := fun as σ => sv_b (F as σ) (fun i σ => some (some (sv_R q i), σ))
noncomputable def sv_gT (F : List sv_V → sv_S → Option (Option Nat × sv_S)) : sv_D := fun as σ => sv_bT (F as σ) (fun σ => some (some sv_N, σ)) (fun t σ => some (some (sv_R 18 t), σ))
theorem sv_blind {base : Nat} {ad : Nat → Nat → Nat} {dC : Nat → ClassId} {dI : Nat → Nat → Nat} {cA : Nat → ClassId} {as : List sv_V} {σ : sv_S} : FrameBlind (sv_Pc base ad dC dI cA as σ) :=
  fun _ _ _ _ h => ⟨h.1, h.2.1.same rfl rfl, h.2.2⟩
theorem gw_goodIn {ws : List Cond} (h : ∀ w ∈ ws, w ∈ gw_tbl) : GoodIn gw_tbl ws := fun w hw => ⟨h w hw, gw_good w (h w hw)⟩
theorem sv_ws_in {y : MethodName} {b : ByteArray} {n : Nat} {ret : Option FieldType} (h : Cond.code y b n ret ∈ gw_tbl) : ∀ w ∈ sv_ws y b n ret, w ∈ gw_tbl := List.forall_mem_cons.mpr ⟨h, fun _ q => q⟩
theorem sv_cat2 (v : Value) : v.category ≤ 2 := by rcases lv_cat v with h | h <;> omega
theorem sv_sm8 {ad : Nat → Nat → Nat} {rest : List sv_V} (h : sv_sm rest = true) : ((rest.map (sv_c ad)).map fun v => v.category).sum ≤ 8 := by
  match rest, h with
  | [], _ => simp
  | [a], _ => have := sv_cat2 (sv_c ad a); simp; omega
  | [a, b], _ => have := sv_cat2 (sv_c ad a); have := sv_cat2 (sv_c ad b); simp; omega
  | [a, b, c], _ => have := sv_cat2 (sv_c ad a); have := sv_cat2 (sv_c ad b); have := sv_cat2 (sv_c ad c); simp; omega
  | [a, b, c, d], _ => have := sv_cat2 (sv_c ad a); have := sv_cat2 (sv_c ad b); have := sv_cat2 (sv_c ad c); have := sv_cat2 (sv_c ad d); simp; omega
section SVK
variable {p : Program} {l : Launch} {e : Env} {R : Room} {s : State} {m : MethodId} {args : Array Value} {below : List Frame} {meth : Method} {c : Code} {cells slots : Nat} {Q : State → Prop}
variable {cc : ByteArray} {base : Nat} {ad : Nat → Nat → Nat} {dC : Nat → ClassId} {dI : Nat → Nat → Nat} {cA : Nat → ClassId} {own : String} {nL n0 : Nat} {nl : Bool}
def sv_cg (p : Program) (l : Launch) (e : Env) (R : Room) (s : State) (m : MethodId) (args : Array Value) (below : List Frame) (meth : Method) (c : Code) (cells slots : Nat) (Q : State → Prop) (base : Nat) (ad : Nat → Nat → Nat) (dC : Nat → ClassId) (dI : Nat → Nat → Nat) (cA : Nat → ClassId) (nl : Bool) (nL n0 : Nat) (pc n : Nat) (G : sv_D) : Prop :=
  ∀ (as rest : List sv_V) (lo : sv_Lo) (σ : sv_S) (r : Option sv_V) (σ' : sv_S), as.length = n → sv_sm rest = true → G as σ = some (r, σ') → sv_Wt p l e R s m args below meth c cells slots Q base ad dC dI cA nl nL n0 (pc + 3) lo (r.toList ++ rest) σ' → sv_Wt p l e R s m args below meth c cells slots Q base ad dC dI cA nl nL n0 pc lo (as.reverse ++ rest) σ
theorem sv_cg.I {pc n : Nat} {F : List sv_V → sv_S → Option (Int32 × sv_S)} (h : sv_cg p l e R s m args below meth c cells slots Q base ad dC dI cA nl nL n0 pc n (sv_gI F)) : sv_cok p l e R s m args below meth c cells slots Q base ad dC dI cA nl nL n0 pc n (.inl F) :=
  fun as rest lo σ hn hs v σ' hF hW => h as rest lo σ (some (.inl v)) σ' hn hs (by unfold sv_gI; rw [hF]; rfl) hW
theorem sv_cg.V {pc n : Nat} {F : List sv_V → sv_S → Option sv_S} (h : sv_cg p l e R s m args below meth c cells slots Q base ad dC dI cA nl nL n0 pc n (sv_gV F)) : sv_cok p l e R s m args below meth c cells slots Q base ad dC dI cA nl nL n0 pc n (.inr (.inl F)) :=
  fun as rest lo σ hn hs σ' hF hW => h as rest lo σ none σ' hn hs (by unfold sv_gV; rw [hF]; rfl) hW
theorem sv_cg.Rf {pc n q : Nat} {F : List sv_V → sv_S → Option (Nat × sv_S)} (h : sv_cg p l e R s m args below meth c cells slots Q base ad dC dI cA nl nL n0 pc n (sv_gR q F)) : sv_cok p l e R s m args below meth c cells slots Q base ad dC dI cA nl nL n0 pc n (.inr (.inr (.inl (q, F)))) :=
  fun as rest lo σ hn hs i σ' hF hW => h as rest lo σ (some (sv_R q i)) σ' hn hs (by unfold sv_gR; rw [show F as σ = some (i, σ') from hF]; rfl) hW
theorem sv_cg.T {pc n : Nat} {F : List sv_V → sv_S → Option (Option Nat × sv_S)} (h : sv_cg p l e R s m args below meth c cells slots Q base ad dC dI cA nl nL n0 pc n (sv_gT F)) : sv_cok p l e R s m args below meth c cells slots Q base ad dC dI cA nl nL n0 pc n (.inr (.inr (.inr F))) :=
  fun as rest lo σ hn hs => ⟨fun σ' hF hW => h as rest lo σ (some sv_N) σ' hn hs (by unfold sv_gT; rw [hF]; rfl) hW, fun t σ' hF hW => h as rest lo σ (some (sv_R 18 t)) σ' hn hs (by unfold sv_gT; rw [hF]; rfl) hW⟩
theorem sv_after {H : Heap} {locs : List Loc} {pc : Nat} {ls : Array Slot} {st0 rest : List Value} {a : Array Value} {r : Option sv_V} {σ' : sv_S} (hr : va_Run p l e R s m args below meth c H locs cells slots 0 0 (F0 m pc ls st0) rest (sv_Qc base ad dC dI cA n0 r σ' a) (fun q => base ≤ q)) (hS : va_S (fun q => base ≤ q) s.heap H locs)
    (kk : ∀ (H1 : Heap) (locs1 : List Loc), sv_rep base ad dC dI cA σ' H1 → va_S (fun q => base ≤ q) s.heap H1 locs1 → (∀ v, r = some v → sv_ok n0 v) → sv_ct σ' = n0 → W p l e R s m args below meth c H1 locs1 cells slots Q (F0 m (pc + 3) ls ((r.map (sv_c ad)).toList ++ rest))) : W p l e R s m args below meth c H locs cells slots Q (F0 m pc ls st0) := by
  intro T hT X
  obtain ⟨v, st₀, t, T', L, h0, X', hL, e1, e2, ⟨hv, hrep, ⟨hz, hk⟩, hok, hct⟩, st⟩ := hr T hT X
  cases hv
  rw [h0] at hz hk
  obtain ⟨t2, a1, b1⟩ := kk T'.heap (locs ++ L) (by rw [e1]; exact hrep)
    ⟨Nat.le_trans hS.1 (by rw [e1]; exact hz), fun q h1 h2 => by rw [e1, hk q (Nat.lt_of_lt_of_le h1 hS.1) h2]; exact hS.2.1 q h1 h2, fun q hq => by
      rcases List.mem_append.mp hq with h | h
      · exact hS.2.2 q h
      · exact hL q h⟩ hok hct T' rfl X'
  exact ⟨t2, st t2 a1, b1⟩
/-- behind a call: the rest of the frame is as it was -/
theorem sv_goOn {H : Heap} {locs : List Loc} {pc : Nat} {ls : Array Slot} {lo : sv_Lo} {as rest : List sv_V} {a : Array Value} {st0 : List Value} {r : Option sv_V} {σ' : sv_S} (hr : va_Run p l e R s m args below meth c H locs cells slots 0 0 (F0 m pc ls st0) (rest.map (sv_c ad)) (sv_Qc base ad dC dI cA n0 r σ' a) (fun q => base ≤ q)) (hS : va_S (fun q => base ≤ q) s.heap H locs) (hL : sv_lh ad ls nL lo) (hst : ∀ v ∈ as.reverse ++ rest, sv_ok n0 v) (hlo : ∀ i v, sv_ga lo i = some v → sv_ok n0 v ∧ (nl = true → sv_1 v))
    (hW : sv_Wt p l e R s m args below meth c cells slots Q base ad dC dI cA nl nL n0 (pc + 3) lo (r.toList ++ rest) σ') : W p l e R s m args below meth c H locs cells slots Q (F0 m pc ls st0) := by
  refine sv_after hr hS (fun H1 locs1 hR1 hS1 hok hct => ?_)
  have h := hW H1 locs1 ls hR1 hS1 hL hct (fun v hv => ?_) hlo
  · rw [List.map_append] at h
    have e : List.map (sv_c ad) r.toList = (r.map (sv_c ad)).toList := by cases r <;> rfl
    rw [e] at h
    exact h
  · rcases List.mem_append.mp hv with q | q
    · cases r with
      | none => cases q
      | some w => rw [List.mem_singleton.mp q]; exact hok w rfl
    · exact hst v (List.mem_append_right _ q)
theorem sv_pre {H : Heap} {locs : List Loc} {σ : sv_S} {as : List sv_V} (hkn : sv_kn base ad dC dI cA s) (hR : sv_rep base ad dC dI cA σ H) (hS : va_S (fun q => base ≤ q) s.heap H locs) {As : List Value} (hA : As = as.map (sv_c ad)) : ∀ U : State, U.heap = H → s.WarmedH U.vm → sv_Pc base ad dC dI cA as σ As.toArray U :=
  fun U hU hW => ⟨by rw [hA], hkn.go hW (fun a h1 h2 => by rw [hU]; exact hS.2.1 a h1 h2), by rw [hU]; exact hR⟩
/-- a static method -/
theorem sv_cS (S : CallFix p m c cc nL s args gw_tbl own) (hkn : sv_kn base ad dC dI cA s) {y : MethodName} {b : ByteArray} {mL h n idx pc : Nat} {ret : Option FieldType} {G : sv_D} (hM : sv_M l y b mL ret G h) (hR : h + 1 ≤ R.frames ∧ 64 * (h + 1) ≤ R.locals) (hmL : mL ≤ 45) (hf : cells ≤ R.cells ∧ slots ≤ R.slots)
    (hw : ∀ w ∈ [Cond.methodLink own idx y, Cond.static y, Cond.initialized y.cls, Cond.code y b mL ret], w ∈ gw_tbl) (hd : y.cls ≠ "java/lang/invoke/MethodHandle" ∧ y.cls ≠ "java/lang/invoke/VarHandle" ∧ (parseMethodDescriptor y.desc).map (fun d => d.parameters.length) = some n) (hdg : decode cc pc = .ok (.invokestatic idx, 3)) :
    sv_cg p l e R s m args below meth c cells slots Q base ad dC dI cA nl nL n0 pc n G := by
  intro as rest lo σ r σ' hn hsm hG hWt H locs ls hRp hS hL hct hst hlo
  subst hct
  have has : ∀ v ∈ as, sv_ok (sv_ct σ) v := fun v hv => hst v (List.mem_append_left _ (List.mem_reverse.mpr hv))
  have hgood : GoodIn gw_tbl (va_wsS own idx y (sv_ws y b mL ret)) := gw_goodIn (fun w h => by
    unfold va_wsS at h
    rcases List.mem_append.mp h with h | h
    · exact hw w (by simp only [List.mem_cons, List.not_mem_nil, or_false] at h ⊢; rcases h with h | h | h <;> simp [h])
    · exact sv_ws_in (hw _ (by simp)) w h)
  refine sv_goOn (rest := rest) (va_runS (As := as.map (sv_c ad)) S (hM base ad dC dI cA as σ r σ' hG has) (va_cwS n S.2.2.2.2 hgood rfl rfl rfl hd ⟨hR.1, ?_⟩) ⟨sv_blind, sv_pre hkn hRp hS rfl⟩ rfl (by rw [List.length_map]; exact hn) hL.2.1 (by simp [List.map_append, List.map_reverse]) (lv_room (sv_sm8 hsm)) hdg hf) hS hL hst hlo hWt
  show 8 + (mL + 11) + 64 * h ≤ R.locals
  omega
/-- the receiver -/
theorem sv_recv {H : Heap} {σ : sv_S} {r i ci : Nat} {q : vw_C} (hkn : sv_kn base ad dC dI cA s) (hR : sv_rep base ad dC dI cA σ H) (hl : sv_lv (sv_ct σ) r i) (hk : sv_kd r i = .inl ci) (hq : vwCl[ci]? = some q) : ∃ cellB : Cell, H[ad r i]? = some cellB ∧ cellB.vm.isStatics = false ∧ s.vm.findClass q.1 = some cellB.cls := by
  obtain ⟨cell, q1, q2, q3, -⟩ := (hR.1 r i hl (sv_my_obj hk (List.getElem?_eq_some_iff.mp hq).1)).2.ob hk
  exact ⟨cell, q1, by rw [q3]; rfl, by rw [q2]; exact (hkn.1.1 ci q hq).2.1⟩
/-- a method of the receiver's class -/
theorem sv_cV (S : CallFix p m c cc nL s args gw_tbl own) (hkn : sv_kn base ad dC dI cA s) {y : MethodName} {b : ByteArray} {mL h n idx pc ci : Nat} {q : vw_C} {ret : Option FieldType} {G : sv_D} (hM : sv_M l y b mL ret G h) (hR : h + 1 ≤ R.frames ∧ 64 * (h + 1) ≤ R.locals) (hmL : mL ≤ 45) (hf : cells ≤ R.cells ∧ slots ≤ R.slots)
    (hq : vwCl[ci]? = some q) (hG : ∀ as σ x, G as σ = some x → ∃ r i as', as = sv_R r i :: as' ∧ sv_kd r i = .inl ci) (hw : ∀ w ∈ [Cond.methodLink own idx y, Cond.instanceMethod y, Cond.selects q.1 y y, Cond.initialized q.1, Cond.code y b mL ret], w ∈ gw_tbl)
    (hd : y.cls = q.1 ∧ y.cls ≠ "java/lang/invoke/MethodHandle" ∧ y.cls ≠ "java/lang/invoke/VarHandle" ∧ (parseMethodDescriptor y.desc).map (fun d => d.parameters.length) = some n) (hdg : decode cc pc = .ok (.invokevirtual idx, 3)) :
    sv_cg p l e R s m args below meth c cells slots Q base ad dC dI cA nl nL n0 pc (n + 1) G := by
  intro as rest lo σ r σ' hn hsm hGs hWt H locs ls hRp hS hL hct hst hlo
  subst hct
  have has : ∀ v ∈ as, sv_ok (sv_ct σ) v := fun v hv => hst v (List.mem_append_left _ (List.mem_reverse.mpr hv))
  obtain ⟨r0, i0, as', rfl, hkd⟩ := hG as σ _ hGs
  have hlv : sv_lv (sv_ct σ) r0 i0 := has _ List.mem_cons_self
  have hgood : GoodIn gw_tbl (wsV own idx q.1 y (sv_ws y b mL ret)) := gw_goodIn (fun w h => by
    unfold wsV at h
    rcases List.mem_append.mp h with h | h
    · exact hw w (by simp only [List.mem_cons, List.not_mem_nil, or_false] at h ⊢; rcases h with h | h | h | h <;> simp [h])
    · exact sv_ws_in (hw _ (by simp)) w h)
  have hn' : as'.length = n := by simpa using hn
  refine sv_goOn (rest := rest) (as := sv_R r0 i0 :: as') (va_runV (As := as'.map (sv_c ad)) (b := ad r0 i0) S (hM base ad dC dI cA (sv_R r0 i0 :: as') σ r σ' hGs has) (cwV n S.2.2.2.2 hgood rfl rfl rfl hd ⟨hR.1, ?_⟩) ⟨sv_blind, sv_recv hkn hRp hlv hkd hq, sv_pre (as := sv_R r0 i0 :: as') hkn hRp hS rfl⟩ rfl (by rw [List.length_map]; exact hn') hL.2.1 ?_ (lv_room (sv_sm8 hsm)) hdg hf) hS hL hst hlo hWt
  · show 8 + (mL + 11) + 64 * h ≤ R.locals
    omega
  · simp [List.map_append, List.map_reverse, List.append_assoc]
    rfl
/-- a static method of a nest mate that is private -/
theorem sv_cN (S : CallFix p m c cc nL s args gw_tbl own) (hkn : sv_kn base ad dC dI cA s) {y : MethodName} {b : ByteArray} {mL h n idx pc : Nat} {ret : Option FieldType} {G : sv_D} {host : String} (hM : sv_M l y b mL ret G h) (hR : h + 1 ≤ R.frames ∧ 64 * (h + 1) ≤ R.locals) (hmL : mL ≤ 45) (hf : cells ≤ R.cells ∧ slots ≤ R.slots)
    (hl : va_Nw (.methodLinkNest own idx y host) s) (hw : ∀ w ∈ [Cond.static y, Cond.initialized y.cls, Cond.code y b mL ret], w ∈ gw_tbl) (hd : y.cls ≠ "java/lang/invoke/MethodHandle" ∧ y.cls ≠ "java/lang/invoke/VarHandle" ∧ (parseMethodDescriptor y.desc).map (fun d => d.parameters.length) = some n) (hdg : decode cc pc = .ok (.invokestatic idx, 3)) :
    sv_cg p l e R s m args below meth c cells slots Q base ad dC dI cA nl nL n0 pc n G := by
  intro as rest lo σ r σ' hn hsm hG hWt H locs ls hRp hS hL hct hst hlo
  subst hct
  have has : ∀ v ∈ as, sv_ok (sv_ct σ) v := fun v hv => hst v (List.mem_append_left _ (List.mem_reverse.mpr hv))
  have hgood : GoodIn gw_tbl (sv_ws y b mL ret) := gw_goodIn (sv_ws_in (hw _ (by simp)))
  have hts := S.2.2.2.2
  refine sv_goOn (rest := rest) (va_runSN (As := as.map (sv_c ad)) S (hM base ad dC dI cA as σ r σ' hG has) ⟨va_cnB n hts hgood rfl rfl rfl hl (hts _ (hw _ (by simp))) hd ⟨hR.1, ?_⟩, hts _ (hw _ (by simp)), trivial⟩ ⟨sv_blind, sv_pre hkn hRp hS rfl⟩ rfl (by rw [List.length_map]; exact hn) hL.2.1 (by simp [List.map_append, List.map_reverse]) (lv_room (sv_sm8 hsm)) hdg hf) hS hL hst hlo hWt
  show 8 + (mL + 11) + 64 * h ≤ R.locals
  omega
/-- super.method(..) -/
theorem sv_cU (S : CallFix p m c cc nL s args gw_tbl own) (hkn : sv_kn base ad dC dI cA s) {y : MethodName} {b : ByteArray} {mL h n idx pc : Nat} {ret : Option FieldType} {G : sv_D} (hM : sv_M l y b mL ret G h) (hR : h + 1 ≤ R.frames ∧ 64 * (h + 1) ≤ R.locals) (hmL : mL ≤ 45) (hf : cells ≤ R.cells ∧ slots ≤ R.slots)
    (hG : ∀ as σ x, G as σ = some x → ∃ r i as' ci q, as = sv_R r i :: as' ∧ sv_kd r i = .inl ci ∧ vwCl[ci]? = some q) (hw : ∀ w ∈ [Cond.methodLink own idx y, Cond.sameMethod y.cls y.cls y.name y.desc, Cond.superclass own y.cls, Cond.instanceMethod y, Cond.initialized y.cls, Cond.code y b mL ret], w ∈ gw_tbl)
    (hd : y.name ≠ "<init>" ∧ (parseMethodDescriptor y.desc).map (fun d => d.parameters.length) = some n) (hdg : decode cc pc = .ok (.invokespecial idx, 3)) :
    sv_cg p l e R s m args below meth c cells slots Q base ad dC dI cA nl nL n0 pc (n + 1) G := by
  intro as rest lo σ r σ' hn hsm hGs hWt H locs ls hRp hS hL hct hst hlo
  subst hct
  have has : ∀ v ∈ as, sv_ok (sv_ct σ) v := fun v hv => hst v (List.mem_append_left _ (List.mem_reverse.mpr hv))
  obtain ⟨r0, i0, as', ci, q, rfl, hkd, hq⟩ := hG as σ _ hGs
  have hlv : sv_lv (sv_ct σ) r0 i0 := has _ List.mem_cons_self
  have hgood : GoodIn gw_tbl (va_wsSU own idx y (sv_ws y b mL ret)) := gw_goodIn (fun w h => by
    unfold va_wsSU at h
    rcases List.mem_append.mp h with h | h
    · exact hw w (by simp only [List.mem_cons, List.not_mem_nil, or_false] at h ⊢; rcases h with h | h | h | h | h <;> simp [h])
    · exact sv_ws_in (hw _ (by simp)) w h)
  have hn' : as'.length = n := by simpa using hn
  refine sv_goOn (rest := rest) (as := sv_R r0 i0 :: as') (va_runSU (As := as'.map (sv_c ad)) (b := ad r0 i0) (hkn.1.1 ci q hq).2 S (hM base ad dC dI cA (sv_R r0 i0 :: as') σ r σ' hGs has) (va_cwSU n S.2.2.2.2 hgood rfl rfl rfl hd ⟨hR.1, ?_⟩) ⟨sv_blind, sv_recv hkn hRp hlv hkd hq, sv_pre (as := sv_R r0 i0 :: as') hkn hRp hS rfl⟩ rfl (by rw [List.length_map]; exact hn') hL.2.1 ?_ (lv_room (sv_sm8 hsm)) hdg hf) hS hL hst hlo hWt
  · show 8 + (mL + 11) + 64 * h ≤ R.locals
    omega
  · simp [List.map_append, List.map_reverse, List.append_assoc]
    rfl
/-- a method that the receiver's class inherits or overrides -/
theorem sv_cD (S : CallFix p m c cc nL s args gw_tbl own) (hkn : sv_kn base ad dC dI cA s) {x y : MethodName} {b : ByteArray} {mL h n idx pc ci : Nat} {q : vw_C} {owner : String} {ret : Option FieldType} {G : sv_D} (hM : sv_M l y b mL ret G h) (hf : cells ≤ R.cells ∧ slots ≤ R.slots)
    (hq : vwCl[ci]? = some q) (hG : ∀ as σ x, G as σ = some x → ∃ r i as', as = sv_R r i :: as' ∧ sv_kd r i = .inl ci) (cw : va_CU R s args own q.1 owner idx x y b mL ret (sv_ws y b mL ret) (sv_rm h) 0 0 n) (hdg : decode cc pc = .ok (.invokevirtual idx, 3)) :
    sv_cg p l e R s m args below meth c cells slots Q base ad dC dI cA nl nL n0 pc (n + 1) G := by
  intro as rest lo σ r σ' hn hsm hGs hWt H locs ls hRp hS hL hct hst hlo
  subst hct
  have has : ∀ v ∈ as, sv_ok (sv_ct σ) v := fun v hv => hst v (List.mem_append_left _ (List.mem_reverse.mpr hv))
  obtain ⟨r0, i0, as', rfl, hkd⟩ := hG as σ _ hGs
  have hlv : sv_lv (sv_ct σ) r0 i0 := has _ List.mem_cons_self
  have hn' : as'.length = n := by simpa using hn
  refine sv_goOn (rest := rest) (as := sv_R r0 i0 :: as') (va_runU (As := as'.map (sv_c ad)) (b := ad r0 i0) S (hM base ad dC dI cA (sv_R r0 i0 :: as') σ r σ' hGs has) cw ⟨sv_blind, sv_recv hkn hRp hlv hkd hq, sv_pre (as := sv_R r0 i0 :: as') hkn hRp hS rfl⟩ rfl (by rw [List.length_map]; exact hn') hL.2.1 ?_ (lv_room (sv_sm8 hsm)) hdg hf) hS hL hst hlo hWt
  simp [List.map_append, List.map_reverse, List.append_assoc]
  rfl
theorem sv_cwI (S : CallFix p m c cc nL s args gw_tbl own) {x y : MethodName} {b : ByteArray} {mL h n idx : Nat} {C owner : String} {ret : Option FieldType} (hR : h + 1 ≤ R.frames ∧ 64 * (h + 1) ≤ R.locals) (hmL : mL ≤ 45) (hyx : y = ⟨owner, x.name, x.desc⟩)
    (hw : ∀ w ∈ [Cond.methodLink own idx x, Cond.sameMethod x.cls owner x.name x.desc, Cond.selects C x y, Cond.instanceMethod y, Cond.initialized y.cls, Cond.code y b mL ret], w ∈ gw_tbl) (hd : owner ≠ "java/lang/invoke/MethodHandle" ∧ owner ≠ "java/lang/invoke/VarHandle" ∧ (parseMethodDescriptor x.desc).map (fun d => d.parameters.length) = some n) :
    va_CU R s args own C owner idx x y b mL ret (sv_ws y b mL ret) (sv_rm h) 0 0 n := by
  have hgood : GoodIn gw_tbl (va_wsU own idx C owner x y (sv_ws y b mL ret)) := gw_goodIn (fun w h => by
    unfold va_wsU at h
    rcases List.mem_append.mp h with h | h
    · exact hw w (by simp only [List.mem_cons, List.not_mem_nil, or_false] at h ⊢; rcases h with h | h | h | h | h <;> simp [h])
    · exact sv_ws_in (hw _ (by simp)) w h)
  exact va_cwU n S.2.2.2.2 hgood rfl rfl rfl hyx hd ⟨hR.1, by show 8 + (mL + 11) + 64 * h ≤ R.locals; omega⟩
theorem sv_cwO (S : CallFix p m c cc nL s args gw_tbl own) {x y : MethodName} {b b0 : ByteArray} {mL m0 h n idx : Nat} {C owner : String} {ret r0 : Option FieldType} (hR : h + 1 ≤ R.frames ∧ 64 * (h + 1) ≤ R.locals) (hmL : mL ≤ 45)
    (hw : ∀ w ∈ [Cond.methodLink own idx x, Cond.sameMethod x.cls owner x.name x.desc, Cond.instanceMethod ⟨owner, x.name, x.desc⟩, Cond.selects C x y, Cond.instanceMethod y, Cond.initialized y.cls, Cond.code y b mL ret], w ∈ gw_tbl) (h0 : Cond.code ⟨owner, x.name, x.desc⟩ b0 m0 r0 ∈ gw_tbl) (hd : owner ≠ "java/lang/invoke/MethodHandle" ∧ owner ≠ "java/lang/invoke/VarHandle" ∧ (parseMethodDescriptor x.desc).map (fun d => d.parameters.length) = some n) :
    va_CU R s args own C owner idx x y b mL ret (sv_ws y b mL ret) (sv_rm h) 0 0 n := by
  have hgood : GoodIn gw_tbl (va_wsO own idx C owner x y (sv_ws y b mL ret)) := gw_goodIn (fun w h => by
    unfold va_wsO at h
    rcases List.mem_append.mp h with h | h
    · exact hw w (by simp only [List.mem_cons, List.not_mem_nil, or_false] at h ⊢; rcases h with h | h | h | h | h | h <;> simp [h])
    · exact sv_ws_in (hw _ (by simp)) w h)
  exact va_cwO n S.2.2.2.2 hgood rfl rfl rfl h0 hd ⟨hR.1, by show 8 + (mL + 11) + 64 * h ≤ R.locals; omega⟩
theorem sv_cg.of {pc n : Nat} {G : sv_D} (h : ∀ as σ x, G as σ = some x → ∃ G', G' as σ = some x ∧ sv_cg p l e R s m args below meth c cells slots Q base ad dC dI cA nl nL n0 pc n G') : sv_cg p l e R s m args below meth c cells slots Q base ad dC dI cA nl nL n0 pc n G := by
  intro as rest lo σ r σ' hn hsm hG hWt
  obtain ⟨G', h1, h2⟩ := h as σ _ hG
  exact h2 as rest lo σ r σ' hn hsm h1 hWt
end SVK
end
section
/-! ===== a method's contract out of its function ===== -/
abbrev sv_Ga : Type := Program × (Launch × (Env × (Room × (State × (MethodId × (Array Value × (List Frame × (Method × (Code × (Nat × (Nat × ((State → Prop) × (Nat × ((Nat → Nat → Nat) × ((Nat → ClassId) × ((Nat → Nat → Nat) × ((Nat → ClassId) × (Bool × (Nat × Nat)))))))))))))))))))
def sv_T (Γ : sv_Ga) (pc : Nat) (lo : sv_Lo) (st : List sv_V) (σ : sv_S) : Prop := match Γ with
  | (p, (l, (e, (R, (s, (m, (args, (below, (meth, (c, (cells, (slots, (Q, (base, (ad, (dC, (dI, (cA, (nl, (nL, n0)))))))))))))))))))) => sv_Wt p l e R s m args below meth c cells slots Q base ad dC dI cA nl nL n0 pc lo st σ
/-- links of a class's methods -/
def sv_lnk (own : String) (E : sv_E) : Prop := (∀ idx q, E.1 idx = some q → sv_fk own idx q.1 q.2) ∧ (∀ idx v, E.2.1 idx = some v → sv_1k own idx v) ∧ (∀ idx, (E.2.2.1 idx = 1 → Cond.fieldLink own idx "OneStroke" "ABOVE" "[I" ∈ gw_tbl) ∧ (E.2.2.1 idx = 2 → Cond.fieldLink own idx "java/lang/String" "COMPACT_STRINGS" "Z" ∈ gw_tbl))
def sv_Ok {β : Type} (Γ : sv_Ga) (E : sv_E) (cc : ByteArray) (rt : sv_V → sv_S → Option β) (res : β) : Prop := match Γ with
  | (p, (l, (e, (R, (s, (m, (args, (below, (meth, (c, (cells, (slots, (Q, (base, (ad, (dC, (dI, (cA, (nl, (nL, n0)))))))))))))))))))) => nl = E.2.2.2.1 ∧ p.tables.exec = Jvm.exec ∧ c.code = cc ∧ (∀ w ∈ gw_tbl, w.before args s = true) ∧ (∃ own, s.vm.findClass own = some m.cls ∧ sv_lnk own E) ∧ sv_kn base ad dC dI cA s ∧
    (∀ pc n f, E.2.2.2.2.1 pc = some (n, f) → sv_cok p l e R s m args below meth c cells slots Q base ad dC dI cA nl nL n0 pc n f) ∧ (∀ q, E.2.2.2.2.2 = some q → va_X (ad 24 0) q.1 q.2 s s.heap ∧ ad 24 0 < s.heap.size ∧ ¬ base ≤ ad 24 0) ∧
    (∀ pc lo n σ, decode cc pc = .ok (.ireturn, 1) → rt (.inl n) σ = some res → sv_Wt p l e R s m args below meth c cells slots Q base ad dC dI cA nl nL n0 pc lo [.inl n] σ) ∧
    (∀ pc lo v σ, decode cc pc = .ok (.areturn, 1) → (v = sv_N ∨ ∃ r i, v = sv_R r i) → rt v σ = some res → sv_Wt p l e R s m args below meth c cells slots Q base ad dC dI cA nl nL n0 pc lo [v] σ) ∧
    (∀ pc lo σ, decode cc pc = .ok (.return_, 1) → rt (sv_L 0) σ = some res → sv_Wt p l e R s m args below meth c cells slots Q base ad dC dI cA nl nL n0 pc lo [] σ)
theorem gw_u {C : String} {T : u_T} {N : Nat} (is : List Nat) (h : (List.range N).map (fun k => some (u_lay C T k)) = is.map (fun i => lw_tbl[i]?)) (hg : ∀ k, k < N → goodWord (u_lay C T k) = true) : ∀ w ∈ u_ws C T N, w ∈ gw_tbl := by
  intro w hw
  obtain ⟨k, hk, rfl⟩ := List.mem_map.mp hw
  have hk := List.mem_range.mp hk
  have h1 : ((List.range N).map (fun k => some (u_lay C T k)))[k]? = some (some (u_lay C T k)) := by simp [hk]
  rw [h, List.getElem?_map] at h1
  cases hi : is[k]? with
  | none => rw [hi] at h1; cases h1
  | some i => rw [hi] at h1; exact gw_at i (Option.some.inj h1) (hg k hk)
theorem sv_lk_all {α : Type} {P : Nat → α → Prop} : ∀ {L : List (Nat × α)}, (∀ q ∈ L, P q.1 q.2) → ∀ i x, sv_lk i L = some x → P i x
  | [], _, i, x, h => by cases h
  | q :: L, hq, i, x, h => by
    simp only [sv_lk] at h
    cases hb : Nat.beq i q.1 with
    | true =>
      rw [hb] at h
      simp only [cond_true, Option.some.injEq] at h
      have e := Nat.eq_of_beq_eq_true hb
      subst e
      subst h
      exact hq q List.mem_cons_self
    | false =>
      rw [hb] at h
      exact sv_lk_all (fun r hr => hq r (List.mem_cons_of_mem _ hr)) i x h
theorem sv_dc3 {cc : ByteArray} {cd : sv_C} (hD : cd.all (sv_dk cc) = true) {pc len : Nat} {ins : Instr} {w : sv_V × (Nat × (Nat × List (Int × Nat)))} (h : sv_at pc cd = some (ins, w)) (hl : sv_il ins = len + 1) : decode cc pc = .ok (ins, len + 1) := by
  have hm : (pc, (ins, w)) ∈ cd := by
    clear hD
    induction cd with
    | nil => cases h
    | cons q cd ih =>
      simp only [sv_at] at h
      cases hq : Nat.beq pc q.1 with
      | true =>
        rw [hq] at h
        simp only [cond_true, Option.some.injEq] at h
        have := Nat.eq_of_beq_eq_true hq
        subst this
        rw [← h]
        exact List.mem_cons_self
      | false =>
        rw [hq] at h
        exact List.mem_cons_of_mem _ (ih h)
  obtain ⟨cv, nx, tg, sw⟩ := w
  obtain ⟨len', hd, hlen, -⟩ := sv_dk_spec (List.all_eq_true.mp hD _ hm)
  rcases hlen with h0 | h0
  · rw [hl] at h0; cases h0
  · rw [hd, ← h0, hl]
theorem sv_w3 {a b c : Cond} (h1 : a ∈ gw_tbl) (h2 : b ∈ gw_tbl) (h3 : c ∈ gw_tbl) : ∀ w ∈ [a, b, c], w ∈ gw_tbl := by
  intro w h; simp only [List.mem_cons, List.not_mem_nil, or_false] at h; rcases h with rfl | rfl | rfl <;> assumption
theorem sv_w4 {a b c d : Cond} (h1 : a ∈ gw_tbl) (h2 : b ∈ gw_tbl) (h3 : c ∈ gw_tbl) (h4 : d ∈ gw_tbl) : ∀ w ∈ [a, b, c, d], w ∈ gw_tbl := by
  intro w h; simp only [List.mem_cons, List.not_mem_nil, or_false] at h; rcases h with rfl | rfl | rfl | rfl <;> assumption
theorem sv_w5 {a b c d e : Cond} (h1 : a ∈ gw_tbl) (h2 : b ∈ gw_tbl) (h3 : c ∈ gw_tbl) (h4 : d ∈ gw_tbl) (h5 : e ∈ gw_tbl) : ∀ w ∈ [a, b, c, d, e], w ∈ gw_tbl := by
  intro w h; simp only [List.mem_cons, List.not_mem_nil, or_false] at h; rcases h with rfl | rfl | rfl | rfl | rfl <;> assumption
theorem sv_w6 {a b c d e f : Cond} (h1 : a ∈ gw_tbl) (h2 : b ∈ gw_tbl) (h3 : c ∈ gw_tbl) (h4 : d ∈ gw_tbl) (h5 : e ∈ gw_tbl) (h6 : f ∈ gw_tbl) : ∀ w ∈ [a, b, c, d, e, f], w ∈ gw_tbl := by
  intro w h; simp only [List.mem_cons, List.not_mem_nil, or_false] at h; rcases h with rfl | rfl | rfl | rfl | rfl | rfl <;> assumption
theorem sv_w7 {a b c d e f g : Cond} (h1 : a ∈ gw_tbl) (h2 : b ∈ gw_tbl) (h3 : c ∈ gw_tbl) (h4 : d ∈ gw_tbl) (h5 : e ∈ gw_tbl) (h6 : f ∈ gw_tbl) (h7 : g ∈ gw_tbl) : ∀ w ∈ [a, b, c, d, e, f, g], w ∈ gw_tbl := by
  intro w h; simp only [List.mem_cons, List.not_mem_nil, or_false] at h; rcases h with rfl | rfl | rfl | rfl | rfl | rfl | rfl <;> assumption
/-! the locals at a method's entry -/
def sv_l0 : List sv_V → sv_Lo
  | [] => []
  | .inr (.inl n) :: l => some (sv_L n) :: none :: sv_l0 l
  | .inl n :: l => some (.inl n) :: sv_l0 l
  | .inr (.inr q) :: l => some (.inr (.inr q)) :: sv_l0 l
def sv_e0 (nL : Nat) (as : List sv_V) : sv_Lo := sv_l0 as ++ List.replicate (nL - (sv_l0 as).length) none
theorem sv_ll_rep (ad : Nat → Nat → Nat) : ∀ (n k : Nat), sv_ll ad k (List.replicate n none) = []
  | 0, _ => rfl
  | n + 1, k => by
    rw [List.replicate_succ]
    exact sv_ll_rep ad n (k + 1)
theorem sv_ll_l0 (ad : Nat → Nat → Nat) : ∀ (as : List sv_V) (k n : Nat), sv_ll ad k (sv_l0 as ++ List.replicate n none) = lv_args k (as.map (sv_c ad))
  | [], k, n => sv_ll_rep ad n k
  | .inr (.inl v) :: l, k, n => by
    show (k, Value.long v) :: sv_ll ad (k + 1 + 1) (sv_l0 l ++ List.replicate n none) = (k, Value.long v) :: lv_args (k + 2) (l.map (sv_c ad))
    rw [sv_ll_l0 ad l (k + 1 + 1) n]
  | .inl v :: l, k, n => by
    show (k, Value.int v) :: sv_ll ad (k + 1) (sv_l0 l ++ List.replicate n none) = (k, Value.int v) :: lv_args (k + 1) (l.map (sv_c ad))
    rw [sv_ll_l0 ad l (k + 1) n]
  | .inr (.inr none) :: l, k, n => by
    show (k, Value.null) :: sv_ll ad (k + 1) (sv_l0 l ++ List.replicate n none) = (k, Value.null) :: lv_args (k + 1) (l.map (sv_c ad))
    rw [sv_ll_l0 ad l (k + 1) n]
  | .inr (.inr (some (r, i))) :: l, k, n => by
    show (k, Value.ref (ad r i)) :: sv_ll ad (k + 1) (sv_l0 l ++ List.replicate n none) = (k, Value.ref (ad r i)) :: lv_args (k + 1) (l.map (sv_c ad))
    rw [sv_ll_l0 ad l (k + 1) n]
theorem sv_l0_len (ad : Nat → Nat → Nat) : ∀ (as : List sv_V), (sv_l0 as).length = (lg_sl (as.map (sv_c ad))).length
  | [] => rfl
  | .inr (.inl v) :: l => by
    have := sv_l0_len ad l
    simp_all [sv_l0, lg_sl, sv_c, Value.category]
  | .inl v :: l => by
    have := sv_l0_len ad l
    simp_all [sv_l0, lg_sl, sv_c, Value.category]
  | .inr (.inr none) :: l => by
    have := sv_l0_len ad l
    simp_all [sv_l0, lg_sl, sv_c, Value.category]
  | .inr (.inr (some (r, i))) :: l => by
    have := sv_l0_len ad l
    simp_all [sv_l0, lg_sl, sv_c, Value.category]
theorem sv_ga_l0 : ∀ (as : List sv_V) (n i : Nat) (v : sv_V), sv_ga (sv_l0 as ++ List.replicate n none) i = some v → v ∈ as
  | [], 0, i, v, h => by cases i <;> cases h
  | [], n + 1, 0, v, h => by cases h
  | [], n + 1, i + 1, v, h => sv_ga_l0 [] n i v h
  | .inr (.inl w) :: l, n, 0, v, h => by cases h; exact List.mem_cons_self
  | .inr (.inl w) :: l, n, 1, v, h => by cases h
  | .inr (.inl w) :: l, n, i + 2, v, h => List.mem_cons_of_mem _ (sv_ga_l0 l n i v h)
  | .inl w :: l, n, 0, v, h => by cases h; exact List.mem_cons_self
  | .inl w :: l, n, i + 1, v, h => List.mem_cons_of_mem _ (sv_ga_l0 l n i v h)
  | .inr (.inr q) :: l, n, 0, v, h => by cases h; exact List.mem_cons_self
  | .inr (.inr q) :: l, n, i + 1, v, h => List.mem_cons_of_mem _ (sv_ga_l0 l n i v h)
end
section
/-! ===== the classes by the tables; links ===== -/
theorem ck_u_0 : ∀ w ∈ u_ws RX0 TX0 0, w ∈ gw_tbl := gw_u [] (by decide +kernel) (by decide +kernel)
theorem ck_0 : sv_ck 0 (RX0, TX0, 0) := ⟨rfl, ck_u_0, ⟨tyX0, tyX0_ok⟩, nmX0, by decide +kernel, by decide +kernel⟩
theorem ck_u_1 : ∀ w ∈ u_ws RX1 TX1 8, w ∈ gw_tbl := gw_u [160, 162, 164, 166, 168, 170, 172, 174] (by decide +kernel) (by decide +kernel)
theorem ck_1 : sv_ck 1 (RX1, TX1, 8) := ⟨rfl, ck_u_1, ⟨tyX1, tyX1_ok⟩, nmX1, by decide +kernel, by decide +kernel⟩
theorem ck_u_2 : ∀ w ∈ u_ws RX2 TX2 0, w ∈ gw_tbl := gw_u [] (by decide +kernel) (by decide +kernel)
theorem ck_2 : sv_ck 2 (RX2, TX2, 0) := ⟨rfl, ck_u_2, ⟨tyX2, tyX2_ok⟩, nmX2, by decide +kernel, by decide +kernel⟩
theorem ck_u_3 : ∀ w ∈ u_ws RX3 TX3 0, w ∈ gw_tbl := gw_u [] (by decide +kernel) (by decide +kernel)
theorem ck_3 : sv_ck 3 (RX3, TX3, 0) := ⟨rfl, ck_u_3, ⟨tyX3, tyX3_ok⟩, nmX3, by decide +kernel, by decide +kernel⟩
theorem ck_u_4 : ∀ w ∈ u_ws RX4 TX4 0, w ∈ gw_tbl := gw_u [] (by decide +kernel) (by decide +kernel)
theorem ck_4 : sv_ck 4 (RX4, TX4, 0) := ⟨rfl, ck_u_4, ⟨tyX4, tyX4_ok⟩, nmX4, by decide +kernel, by decide +kernel⟩
theorem ck_u_5 : ∀ w ∈ u_ws RX5 TX5 9, w ∈ gw_tbl := gw_u [199, 201, 203, 205, 207, 209, 211, 213, 215] (by decide +kernel) (by decide +kernel)
theorem ck_5 : sv_ck 5 (RX5, TX5, 9) := ⟨rfl, ck_u_5, ⟨tyX5, tyX5_ok⟩, nmX5, by decide +kernel, by decide +kernel⟩
theorem ck_u_6 : ∀ w ∈ u_ws RX6 TX6 3, w ∈ gw_tbl := gw_u [269, 271, 273] (by decide +kernel) (by decide +kernel)
theorem ck_6 : sv_ck 6 (RX6, TX6, 3) := ⟨rfl, ck_u_6, ⟨tyX6, tyX6_ok⟩, nmX6, by decide +kernel, by decide +kernel⟩
theorem ck_u_7 : ∀ w ∈ u_ws RX7 TX7 0, w ∈ gw_tbl := gw_u [] (by decide +kernel) (by decide +kernel)
theorem ck_7 : sv_ck 7 (RX7, TX7, 0) := ⟨rfl, ck_u_7, ⟨tyX7, tyX7_ok⟩, nmX7, by decide +kernel, by decide +kernel⟩
theorem ck_u_8 : ∀ w ∈ u_ws RX8 TX8 9, w ∈ gw_tbl := gw_u [236, 238, 240, 242, 244, 246, 248, 250, 252] (by decide +kernel) (by decide +kernel)
theorem ck_8 : sv_ck 8 (RX8, TX8, 9) := ⟨rfl, ck_u_8, ⟨tyX8, tyX8_ok⟩, nmX8, by decide +kernel, by decide +kernel⟩
theorem ck_u_9 : ∀ w ∈ u_ws RX9 TX9 4, w ∈ gw_tbl := gw_u [878, 880, 882, 884] (by decide +kernel) (by decide +kernel)
theorem ck_9 : sv_ck 9 (RX9, TX9, 4) := ⟨rfl, ck_u_9, ⟨tyX9, tyX9_ok⟩, nmX9, by decide +kernel, by decide +kernel⟩
theorem ck_u_10 : ∀ w ∈ u_ws RX10 TX10 0, w ∈ gw_tbl := gw_u [] (by decide +kernel) (by decide +kernel)
theorem ck_10 : sv_ck 10 (RX10, TX10, 0) := ⟨rfl, ck_u_10, ⟨tyX10, tyX10_ok⟩, nmX10, by decide +kernel, by decide +kernel⟩
theorem ck_u_11 : ∀ w ∈ u_ws RX11 TX11 13, w ∈ gw_tbl := gw_u [291, 293, 295, 297, 299, 301, 303, 305, 307, 309, 311, 313, 315] (by decide +kernel) (by decide +kernel)
theorem ck_11 : sv_ck 11 (RX11, TX11, 13) := ⟨rfl, ck_u_11, ⟨tyX11, tyX11_ok⟩, nmX11, by decide +kernel, by decide +kernel⟩
theorem ck_u_12 : ∀ w ∈ u_ws RX12 TX12 34, w ∈ gw_tbl := gw_u [1024, 1026, 1028, 1030, 1032, 1034, 1036, 1038, 1040, 1042, 1044, 1046, 1048, 1050, 1052, 1054, 1056, 1058, 1060, 1062, 1064, 1066, 1068, 1070, 1072, 1074, 1076, 1078, 1080, 1082, 1084, 1086, 1088, 1090] (by decide +kernel) (by decide +kernel)
theorem ck_12 : sv_ck 12 (RX12, TX12, 34) := ⟨rfl, ck_u_12, ⟨tyX12, tyX12_ok⟩, nmX12, by decide +kernel, by decide +kernel⟩
theorem ck_all : ∀ ci q, vwCl[ci]? = some q → sv_ck ci q := by
  intro ci q h
  match ci, h with
  | 0, h => exact (Option.some.inj h) ▸ ck_0
  | 1, h => exact (Option.some.inj h) ▸ ck_1
  | 2, h => exact (Option.some.inj h) ▸ ck_2
  | 3, h => exact (Option.some.inj h) ▸ ck_3
  | 4, h => exact (Option.some.inj h) ▸ ck_4
  | 5, h => exact (Option.some.inj h) ▸ ck_5
  | 6, h => exact (Option.some.inj h) ▸ ck_6
  | 7, h => exact (Option.some.inj h) ▸ ck_7
  | 8, h => exact (Option.some.inj h) ▸ ck_8
  | 9, h => exact (Option.some.inj h) ▸ ck_9
  | 10, h => exact (Option.some.inj h) ▸ ck_10
  | 11, h => exact (Option.some.inj h) ▸ ck_11
  | 12, h => exact (Option.some.inj h) ▸ ck_12
  | n + 13, h => simp [vwCl] at h
def fl_0 : List (Nat × (Nat × Nat)) := []
def kc_0 : List (Nat × sv_V) := []
def fl_1 : List (Nat × (Nat × Nat)) := [(9, (1, 0)), (15, (1, 1)), (18, (1, 5)), (21, (1, 7)), (24, (1, 6)), (30, (1, 2)), (33, (1, 3)), (36, (1, 4))]
def kc_1 : List (Nat × sv_V) := []
def fl_2 : List (Nat × (Nat × Nat)) := []
def kc_2 : List (Nat × sv_V) := []
def fl_3 : List (Nat × (Nat × Nat)) := []
def kc_3 : List (Nat × sv_V) := []
def fl_4 : List (Nat × (Nat × Nat)) := []
def kc_4 : List (Nat × sv_V) := []
def fl_5 : List (Nat × (Nat × Nat)) := [(9, (5, 0)), (17, (5, 1)), (24, (5, 2)), (28, (5, 3)), (38, (5, 7)), (42, (5, 4)), (45, (5, 5)), (48, (5, 6)), (51, (5, 8)), (68, (1, 0)), (71, (9, 0)), (81, (1, 6)), (99, (1, 1)), (117, (1, 2)), (149, (1, 7)), (152, (1, 5))]
def kc_5 : List (Nat × sv_V) := [(74, .inl (1103515245 : Int32)), (142, .inl (-1000000005 : Int32))]
def fl_6 : List (Nat × (Nat × Nat)) := [(9, (6, 0)), (15, (6, 2)), (19, (6, 1))]
def kc_6 : List (Nat × sv_V) := [(38, .inl (-1000000005 : Int32))]
def fl_7 : List (Nat × (Nat × Nat)) := []
def kc_7 : List (Nat × sv_V) := []
def fl_8 : List (Nat × (Nat × Nat)) := [(9, (8, 0)), (15, (8, 8)), (19, (8, 1)), (25, (8, 5)), (28, (8, 6)), (31, (8, 7)), (43, (8, 3)), (46, (8, 4)), (68, (8, 2))]
def kc_8 : List (Nat × sv_V) := []
def fl_9 : List (Nat × (Nat × Nat)) := [(9, (9, 0)), (15, (9, 1)), (18, (9, 2)), (22, (9, 3))]
def kc_9 : List (Nat × sv_V) := [(25, sv_R 23 0), (27, sv_R 23 1), (29, sv_R 23 2), (31, sv_R 23 3), (33, sv_R 23 4), (35, sv_R 23 5)]
def fl_10 : List (Nat × (Nat × Nat)) := []
def kc_10 : List (Nat × sv_V) := []
def fl_11 : List (Nat × (Nat × Nat)) := [(30, (11, 0)), (36, (11, 1)), (39, (11, 2)), (45, (11, 4)), (51, (11, 5)), (56, (11, 6)), (60, (11, 7)), (65, (11, 8)), (69, (11, 9)), (73, (11, 10)), (76, (11, 12)), (88, (5, 4)), (100, (5, 1)), (103, (1, 0)), (106, (1, 1)), (109, (1, 2)), (112, (1, 3)), (115, (1, 4)), (118, (1, 5)), (121, (1, 7)), (125, (1, 6)), (140, (5, 5)), (154, (5, 6)), (169, (5, 7)), (232, (8, 1)), (241, (8, 2)), (244, (5, 8)), (255, (5, 2)), (259, (9, 0)), (262, (9, 1)), (265, (5, 3)), (277, (6, 0)), (280, (6, 2)), (291, (6, 1)), (312, (11, 11)), (315, (11, 3))]
def kc_11 : List (Nat × sv_V) := [(87, .inl (-1000000001 : Int32)), (92, .inl (-1000000003 : Int32)), (124, .inl (-1000000005 : Int32)), (153, .inl (-1000000012 : Int32)), (172, .inl (-1000000002 : Int32)), (214, .inl (-1000000011 : Int32)), (268, .inl (-1000000014 : Int32)), (276, .inl (-1000000013 : Int32)), (283, .inl (-99999 : Int32)), (284, .inl (99999 : Int32))]
def fl_12 : List (Nat × (Nat × Nat)) := [(7, (12, 0)), (13, (12, 1)), (16, (12, 2)), (19, (12, 4)), (22, (12, 5)), (25, (12, 6)), (28, (12, 7)), (31, (12, 8)), (34, (12, 9)), (37, (12, 10)), (40, (12, 11)), (43, (12, 12)), (46, (12, 13)), (49, (12, 14)), (52, (12, 16)), (55, (12, 28)), (58, (12, 29)), (61, (12, 30)), (64, (12, 31)), (67, (12, 33)), (174, (12, 15)), (197, (12, 17)), (208, (12, 19)), (211, (12, 20)), (214, (12, 18)), (220, (12, 22)), (226, (12, 21)), (237, (12, 26)), (240, (12, 25)), (267, (12, 27)), (273, (12, 24)), (276, (12, 23)), (317, (12, 32)), (320, (12, 3))]
def kc_12 : List (Nat × sv_V) := [(70, .inl (-1000000005 : Int32)), (75, .inl (1103515245 : Int32)), (80, .inr (.inl (5 : Int64))), (82, .inr (.inl (9 : Int64))), (84, .inl (-1000000001 : Int32)), (85, .inl (-1000000003 : Int32)), (133, .inl (-1000000012 : Int32)), (137, .inr (.inl (3 : Int64))), (139, .inr (.inl (100 : Int64))), (141, .inr (.inl (10 : Int64))), (153, .inl (-1000000002 : Int32)), (160, .inr (.inl (2 : Int64))), (185, .inr (.inl (60 : Int64))), (187, .inr (.inl (40 : Int64))), (192, .inr (.inl (30 : Int64))), (200, .inr (.inl (97 : Int64))), (202, .inr (.inl (122 : Int64))), (204, .inr (.inl (48 : Int64))), (206, .inr (.inl (57 : Int64))), (300, .inr (.inl (-1 : Int64))), (302, .inl (-1000000014 : Int32)), (303, .inl (-1000000011 : Int32)), (304, .inl (-1000000013 : Int32)), (305, .inr (.inl (-99999 : Int64))), (307, .inr (.inl (99999 : Int64))), (312, .inr (.inl (4 : Int64)))]
def fl_21 : List (Nat × (Nat × Nat)) := []
def kc_21 : List (Nat × sv_V) := []
theorem fk_0 : ∀ q ∈ fl_0, sv_fk RX0 q.1 q.2.1 q.2.2 := fun _ h => absurd h List.not_mem_nil
theorem kk_0 : ∀ q ∈ kc_0, sv_1k RX0 q.1 q.2 := fun _ h => absurd h List.not_mem_nil
theorem fk_1 : ∀ q ∈ fl_1, sv_fk RX1 q.1 q.2.1 q.2.2 := List.forall_mem_cons.mpr ⟨Or.inl ⟨_, rfl, by decide, gw_at 138 (by decide +kernel) rfl⟩, List.forall_mem_cons.mpr ⟨Or.inl ⟨_, rfl, by decide, gw_at 141 (by decide +kernel) rfl⟩, List.forall_mem_cons.mpr ⟨Or.inl ⟨_, rfl, by decide, gw_at 151 (by decide +kernel) rfl⟩, List.forall_mem_cons.mpr ⟨Or.inl ⟨_, rfl, by decide, gw_at 157 (by decide +kernel) rfl⟩, List.forall_mem_cons.mpr ⟨Or.inl ⟨_, rfl, by decide, gw_at 154 (by decide +kernel) rfl⟩, List.forall_mem_cons.mpr ⟨Or.inl ⟨_, rfl, by decide, gw_at 144 (by decide +kernel) rfl⟩, List.forall_mem_cons.mpr ⟨Or.inl ⟨_, rfl, by decide, gw_at 147 (by decide +kernel) rfl⟩, List.forall_mem_cons.mpr ⟨Or.inl ⟨_, rfl, by decide, gw_at 149 (by decide +kernel) rfl⟩, fun _ h => absurd h List.not_mem_nil⟩⟩⟩⟩⟩⟩⟩⟩
theorem kk_1 : ∀ q ∈ kc_1, sv_1k RX1 q.1 q.2 := fun _ h => absurd h List.not_mem_nil
theorem fk_2 : ∀ q ∈ fl_2, sv_fk RX2 q.1 q.2.1 q.2.2 := fun _ h => absurd h List.not_mem_nil
theorem kk_2 : ∀ q ∈ kc_2, sv_1k RX2 q.1 q.2 := fun _ h => absurd h List.not_mem_nil
theorem fk_3 : ∀ q ∈ fl_3, sv_fk RX3 q.1 q.2.1 q.2.2 := fun _ h => absurd h List.not_mem_nil
theorem kk_3 : ∀ q ∈ kc_3, sv_1k RX3 q.1 q.2 := fun _ h => absurd h List.not_mem_nil
theorem fk_4 : ∀ q ∈ fl_4, sv_fk RX4 q.1 q.2.1 q.2.2 := fun _ h => absurd h List.not_mem_nil
theorem kk_4 : ∀ q ∈ kc_4, sv_1k RX4 q.1 q.2 := fun _ h => absurd h List.not_mem_nil
theorem fk_5 : ∀ q ∈ fl_5, sv_fk RX5 q.1 q.2.1 q.2.2 := List.forall_mem_cons.mpr ⟨Or.inl ⟨_, rfl, by decide, gw_at 182 (by decide +kernel) rfl⟩, List.forall_mem_cons.mpr ⟨Or.inl ⟨_, rfl, by decide, gw_at 183 (by decide +kernel) rfl⟩, List.forall_mem_cons.mpr ⟨Or.inl ⟨_, rfl, by decide, gw_at 185 (by decide +kernel) rfl⟩, List.forall_mem_cons.mpr ⟨Or.inl ⟨_, rfl, by decide, gw_at 187 (by decide +kernel) rfl⟩, List.forall_mem_cons.mpr ⟨Or.inl ⟨_, rfl, by decide, gw_at 195 (by decide +kernel) rfl⟩, List.forall_mem_cons.mpr ⟨Or.inl ⟨_, rfl, by decide, gw_at 189 (by decide +kernel) rfl⟩, List.forall_mem_cons.mpr ⟨Or.inl ⟨_, rfl, by decide, gw_at 191 (by decide +kernel) rfl⟩, List.forall_mem_cons.mpr ⟨Or.inl ⟨_, rfl, by decide, gw_at 193 (by decide +kernel) rfl⟩, List.forall_mem_cons.mpr ⟨Or.inl ⟨_, rfl, by decide, gw_at 197 (by decide +kernel) rfl⟩, List.forall_mem_cons.mpr ⟨Or.inl ⟨_, rfl, by decide, gw_at 140 (by decide +kernel) rfl⟩, List.forall_mem_cons.mpr ⟨Or.inl ⟨_, rfl, by decide, gw_at 872 (by decide +kernel) rfl⟩, List.forall_mem_cons.mpr ⟨Or.inl ⟨_, rfl, by decide, gw_at 156 (by decide +kernel) rfl⟩, List.forall_mem_cons.mpr ⟨Or.inl ⟨_, rfl, by decide, gw_at 143 (by decide +kernel) rfl⟩, List.forall_mem_cons.mpr ⟨Or.inl ⟨_, rfl, by decide, gw_at 146 (by decide +kernel) rfl⟩, List.forall_mem_cons.mpr ⟨Or.inl ⟨_, rfl, by decide, gw_at 159 (by decide +kernel) rfl⟩, List.forall_mem_cons.mpr ⟨Or.inl ⟨_, rfl, by decide, gw_at 153 (by decide +kernel) rfl⟩, fun _ h => absurd h List.not_mem_nil⟩⟩⟩⟩⟩⟩⟩⟩⟩⟩⟩⟩⟩⟩⟩⟩
theorem kk_5 : ∀ q ∈ kc_5, sv_1k RX5 q.1 q.2 := List.forall_mem_cons.mpr ⟨gw_at 497 (by decide +kernel) rfl, List.forall_mem_cons.mpr ⟨gw_at 572 (by decide +kernel) rfl, fun _ h => absurd h List.not_mem_nil⟩⟩
theorem fk_6 : ∀ q ∈ fl_6, sv_fk RX6 q.1 q.2.1 q.2.2 := List.forall_mem_cons.mpr ⟨Or.inl ⟨_, rfl, by decide, gw_at 263 (by decide +kernel) rfl⟩, List.forall_mem_cons.mpr ⟨Or.inl ⟨_, rfl, by decide, gw_at 267 (by decide +kernel) rfl⟩, List.forall_mem_cons.mpr ⟨Or.inl ⟨_, rfl, by decide, gw_at 265 (by decide +kernel) rfl⟩, fun _ h => absurd h List.not_mem_nil⟩⟩⟩
theorem kk_6 : ∀ q ∈ kc_6, sv_1k RX6 q.1 q.2 := List.forall_mem_cons.mpr ⟨gw_at 647 (by decide +kernel) rfl, fun _ h => absurd h List.not_mem_nil⟩
theorem fk_7 : ∀ q ∈ fl_7, sv_fk RX7 q.1 q.2.1 q.2.2 := fun _ h => absurd h List.not_mem_nil
theorem kk_7 : ∀ q ∈ kc_7, sv_1k RX7 q.1 q.2 := fun _ h => absurd h List.not_mem_nil
theorem fk_8 : ∀ q ∈ fl_8, sv_fk RX8 q.1 q.2.1 q.2.2 := List.forall_mem_cons.mpr ⟨Or.inl ⟨_, rfl, by decide, gw_at 225 (by decide +kernel) rfl⟩, List.forall_mem_cons.mpr ⟨Or.inl ⟨_, rfl, by decide, gw_at 235 (by decide +kernel) rfl⟩, List.forall_mem_cons.mpr ⟨Or.inl ⟨_, rfl, by decide, gw_at 226 (by decide +kernel) rfl⟩, List.forall_mem_cons.mpr ⟨Or.inl ⟨_, rfl, by decide, gw_at 232 (by decide +kernel) rfl⟩, List.forall_mem_cons.mpr ⟨Or.inl ⟨_, rfl, by decide, gw_at 233 (by decide +kernel) rfl⟩, List.forall_mem_cons.mpr ⟨Or.inl ⟨_, rfl, by decide, gw_at 234 (by decide +kernel) rfl⟩, List.forall_mem_cons.mpr ⟨Or.inl ⟨_, rfl, by decide, gw_at 230 (by decide +kernel) rfl⟩, List.forall_mem_cons.mpr ⟨Or.inl ⟨_, rfl, by decide, gw_at 231 (by decide +kernel) rfl⟩, List.forall_mem_cons.mpr ⟨Or.inl ⟨_, rfl, by decide, gw_at 228 (by decide +kernel) rfl⟩, fun _ h => absurd h List.not_mem_nil⟩⟩⟩⟩⟩⟩⟩⟩⟩
theorem kk_8 : ∀ q ∈ kc_8, sv_1k RX8 q.1 q.2 := fun _ h => absurd h List.not_mem_nil
theorem fk_9 : ∀ q ∈ fl_9, sv_fk RX9 q.1 q.2.1 q.2.2 := List.forall_mem_cons.mpr ⟨Or.inl ⟨_, rfl, by decide, gw_at 871 (by decide +kernel) rfl⟩, List.forall_mem_cons.mpr ⟨Or.inl ⟨_, rfl, by decide, gw_at 874 (by decide +kernel) rfl⟩, List.forall_mem_cons.mpr ⟨Or.inl ⟨_, rfl, by decide, gw_at 876 (by decide +kernel) rfl⟩, List.forall_mem_cons.mpr ⟨Or.inl ⟨_, rfl, by decide, gw_at 877 (by decide +kernel) rfl⟩, fun _ h => absurd h List.not_mem_nil⟩⟩⟩⟩
theorem kk_9 : ∀ q ∈ kc_9, sv_1k RX9 q.1 q.2 := List.forall_mem_cons.mpr ⟨⟨rfl, by decide, rfl, rfl⟩, List.forall_mem_cons.mpr ⟨⟨rfl, by decide, rfl, rfl⟩, List.forall_mem_cons.mpr ⟨⟨rfl, by decide, rfl, rfl⟩, List.forall_mem_cons.mpr ⟨⟨rfl, by decide, rfl, rfl⟩, List.forall_mem_cons.mpr ⟨⟨rfl, by decide, rfl, rfl⟩, List.forall_mem_cons.mpr ⟨⟨rfl, by decide, rfl, rfl⟩, fun _ h => absurd h List.not_mem_nil⟩⟩⟩⟩⟩⟩
theorem fk_10 : ∀ q ∈ fl_10, sv_fk RX10 q.1 q.2.1 q.2.2 := fun _ h => absurd h List.not_mem_nil
theorem kk_10 : ∀ q ∈ kc_10, sv_1k RX10 q.1 q.2 := fun _ h => absurd h List.not_mem_nil
theorem fk_11 : ∀ q ∈ fl_11, sv_fk RX11 q.1 q.2.1 q.2.2 := List.forall_mem_cons.mpr ⟨Or.inl ⟨_, rfl, by decide, gw_at 278 (by decide +kernel) rfl⟩, List.forall_mem_cons.mpr ⟨Or.inl ⟨_, rfl, by decide, gw_at 279 (by decide +kernel) rfl⟩, List.forall_mem_cons.mpr ⟨Or.inl ⟨_, rfl, by decide, gw_at 280 (by decide +kernel) rfl⟩, List.forall_mem_cons.mpr ⟨Or.inl ⟨_, rfl, by decide, gw_at 282 (by decide +kernel) rfl⟩, List.forall_mem_cons.mpr ⟨Or.inl ⟨_, rfl, by decide, gw_at 283 (by decide +kernel) rfl⟩, List.forall_mem_cons.mpr ⟨Or.inl ⟨_, rfl, by decide, gw_at 284 (by decide +kernel) rfl⟩, List.forall_mem_cons.mpr ⟨Or.inl ⟨_, rfl, by decide, gw_at 285 (by decide +kernel) rfl⟩, List.forall_mem_cons.mpr ⟨Or.inl ⟨_, rfl, by decide, gw_at 286 (by decide +kernel) rfl⟩, List.forall_mem_cons.mpr ⟨Or.inl ⟨_, rfl, by decide, gw_at 287 (by decide +kernel) rfl⟩, List.forall_mem_cons.mpr ⟨Or.inl ⟨_, rfl, by decide, gw_at 288 (by decide +kernel) rfl⟩, List.forall_mem_cons.mpr ⟨Or.inl ⟨_, rfl, by decide, gw_at 290 (by decide +kernel) rfl⟩, List.forall_mem_cons.mpr ⟨Or.inl ⟨_, rfl, by decide, gw_at 190 (by decide +kernel) rfl⟩, List.forall_mem_cons.mpr ⟨Or.inl ⟨_, rfl, by decide, gw_at 184 (by decide +kernel) rfl⟩, List.forall_mem_cons.mpr ⟨Or.inl ⟨_, rfl, by decide, gw_at 139 (by decide +kernel) rfl⟩, List.forall_mem_cons.mpr ⟨Or.inl ⟨_, rfl, by decide, gw_at 142 (by decide +kernel) rfl⟩, List.forall_mem_cons.mpr ⟨Or.inl ⟨_, rfl, by decide, gw_at 145 (by decide +kernel) rfl⟩, List.forall_mem_cons.mpr ⟨Or.inl ⟨_, rfl, by decide, gw_at 148 (by decide +kernel) rfl⟩, List.forall_mem_cons.mpr ⟨Or.inl ⟨_, rfl, by decide, gw_at 150 (by decide +kernel) rfl⟩, List.forall_mem_cons.mpr ⟨Or.inl ⟨_, rfl, by decide, gw_at 152 (by decide +kernel) rfl⟩, List.forall_mem_cons.mpr ⟨Or.inl ⟨_, rfl, by decide, gw_at 158 (by decide +kernel) rfl⟩, List.forall_mem_cons.mpr ⟨Or.inl ⟨_, rfl, by decide, gw_at 155 (by decide +kernel) rfl⟩, List.forall_mem_cons.mpr ⟨Or.inl ⟨_, rfl, by decide, gw_at 192 (by decide +kernel) rfl⟩, List.forall_mem_cons.mpr ⟨Or.inl ⟨_, rfl, by decide, gw_at 194 (by decide +kernel) rfl⟩, List.forall_mem_cons.mpr ⟨Or.inl ⟨_, rfl, by decide, gw_at 196 (by decide +kernel) rfl⟩, List.forall_mem_cons.mpr ⟨Or.inl ⟨_, rfl, by decide, gw_at 227 (by decide +kernel) rfl⟩, List.forall_mem_cons.mpr ⟨Or.inl ⟨_, rfl, by decide, gw_at 229 (by decide +kernel) rfl⟩, List.forall_mem_cons.mpr ⟨Or.inl ⟨_, rfl, by decide, gw_at 198 (by decide +kernel) rfl⟩, List.forall_mem_cons.mpr ⟨Or.inl ⟨_, rfl, by decide, gw_at 186 (by decide +kernel) rfl⟩, List.forall_mem_cons.mpr ⟨Or.inl ⟨_, rfl, by decide, gw_at 873 (by decide +kernel) rfl⟩, List.forall_mem_cons.mpr ⟨Or.inl ⟨_, rfl, by decide, gw_at 875 (by decide +kernel) rfl⟩, List.forall_mem_cons.mpr ⟨Or.inl ⟨_, rfl, by decide, gw_at 188 (by decide +kernel) rfl⟩, List.forall_mem_cons.mpr ⟨Or.inl ⟨_, rfl, by decide, gw_at 264 (by decide +kernel) rfl⟩, List.forall_mem_cons.mpr ⟨Or.inl ⟨_, rfl, by decide, gw_at 268 (by decide +kernel) rfl⟩, List.forall_mem_cons.mpr ⟨Or.inl ⟨_, rfl, by decide, gw_at 266 (by decide +kernel) rfl⟩, List.forall_mem_cons.mpr ⟨Or.inl ⟨_, rfl, by decide, gw_at 289 (by decide +kernel) rfl⟩, List.forall_mem_cons.mpr ⟨Or.inl ⟨_, rfl, by decide, gw_at 281 (by decide +kernel) rfl⟩, fun _ h => absurd h List.not_mem_nil⟩⟩⟩⟩⟩⟩⟩⟩⟩⟩⟩⟩⟩⟩⟩⟩⟩⟩⟩⟩⟩⟩⟩⟩⟩⟩⟩⟩⟩⟩⟩⟩⟩⟩⟩⟩
theorem kk_11 : ∀ q ∈ kc_11, sv_1k RX11 q.1 q.2 := List.forall_mem_cons.mpr ⟨gw_at 330 (by decide +kernel) rfl, List.forall_mem_cons.mpr ⟨gw_at 331 (by decide +kernel) rfl, List.forall_mem_cons.mpr ⟨gw_at 352 (by decide +kernel) rfl, List.forall_mem_cons.mpr ⟨gw_at 476 (by decide +kernel) rfl, List.forall_mem_cons.mpr ⟨gw_at 506 (by decide +kernel) rfl, List.forall_mem_cons.mpr ⟨gw_at 630 (by decide +kernel) rfl, List.forall_mem_cons.mpr ⟨gw_at 903 (by decide +kernel) rfl, List.forall_mem_cons.mpr ⟨gw_at 914 (by decide +kernel) rfl, List.forall_mem_cons.mpr ⟨gw_at 915 (by decide +kernel) rfl, List.forall_mem_cons.mpr ⟨gw_at 916 (by decide +kernel) rfl, fun _ h => absurd h List.not_mem_nil⟩⟩⟩⟩⟩⟩⟩⟩⟩⟩
theorem gk_11 : ∀ idx, ((bif Nat.beq idx 166 then 1 else 0) = 1 → Cond.fieldLink RX11 idx "OneStroke" "ABOVE" "[I" ∈ gw_tbl) ∧ ((bif Nat.beq idx 166 then 1 else 0) = 2 → Cond.fieldLink RX11 idx "java/lang/String" "COMPACT_STRINGS" "Z" ∈ gw_tbl) := by
  intro idx
  cases h : Nat.beq idx 166 with
  | true =>
    refine ⟨fun _ => (Nat.eq_of_beq_eq_true h) ▸ gw_at 325 (by decide +kernel) rfl, fun q => ?_⟩
    simp at q
  | false => exact ⟨fun q => by simp at q, fun q => by simp at q⟩
theorem fk_12 : ∀ q ∈ fl_12, sv_fk RX12 q.1 q.2.1 q.2.2 := List.forall_mem_cons.mpr ⟨Or.inl ⟨_, rfl, by decide, gw_at 990 (by decide +kernel) rfl⟩, List.forall_mem_cons.mpr ⟨Or.inl ⟨_, rfl, by decide, gw_at 991 (by decide +kernel) rfl⟩, List.forall_mem_cons.mpr ⟨Or.inl ⟨_, rfl, by decide, gw_at 992 (by decide +kernel) rfl⟩, List.forall_mem_cons.mpr ⟨Or.inl ⟨_, rfl, by decide, gw_at 994 (by decide +kernel) rfl⟩, List.forall_mem_cons.mpr ⟨Or.inl ⟨_, rfl, by decide, gw_at 995 (by decide +kernel) rfl⟩, List.forall_mem_cons.mpr ⟨Or.inl ⟨_, rfl, by decide, gw_at 996 (by decide +kernel) rfl⟩, List.forall_mem_cons.mpr ⟨Or.inl ⟨_, rfl, by decide, gw_at 997 (by decide +kernel) rfl⟩, List.forall_mem_cons.mpr ⟨Or.inl ⟨_, rfl, by decide, gw_at 998 (by decide +kernel) rfl⟩, List.forall_mem_cons.mpr ⟨Or.inl ⟨_, rfl, by decide, gw_at 999 (by decide +kernel) rfl⟩, List.forall_mem_cons.mpr ⟨Or.inl ⟨_, rfl, by decide, gw_at 1000 (by decide +kernel) rfl⟩, List.forall_mem_cons.mpr ⟨Or.inl ⟨_, rfl, by decide, gw_at 1001 (by decide +kernel) rfl⟩, List.forall_mem_cons.mpr ⟨Or.inl ⟨_, rfl, by decide, gw_at 1002 (by decide +kernel) rfl⟩, List.forall_mem_cons.mpr ⟨Or.inl ⟨_, rfl, by decide, gw_at 1003 (by decide +kernel) rfl⟩, List.forall_mem_cons.mpr ⟨Or.inl ⟨_, rfl, by decide, gw_at 1004 (by decide +kernel) rfl⟩, List.forall_mem_cons.mpr ⟨Or.inl ⟨_, rfl, by decide, gw_at 1006 (by decide +kernel) rfl⟩, List.forall_mem_cons.mpr ⟨Or.inl ⟨_, rfl, by decide, gw_at 1018 (by decide +kernel) rfl⟩, List.forall_mem_cons.mpr ⟨Or.inl ⟨_, rfl, by decide, gw_at 1019 (by decide +kernel) rfl⟩, List.forall_mem_cons.mpr ⟨Or.inl ⟨_, rfl, by decide, gw_at 1020 (by decide +kernel) rfl⟩, List.forall_mem_cons.mpr ⟨Or.inl ⟨_, rfl, by decide, gw_at 1021 (by decide +kernel) rfl⟩, List.forall_mem_cons.mpr ⟨Or.inl ⟨_, rfl, by decide, gw_at 1023 (by decide +kernel) rfl⟩, List.forall_mem_cons.mpr ⟨Or.inl ⟨_, rfl, by decide, gw_at 1005 (by decide +kernel) rfl⟩, List.forall_mem_cons.mpr ⟨Or.inl ⟨_, rfl, by decide, gw_at 1007 (by decide +kernel) rfl⟩, List.forall_mem_cons.mpr ⟨Or.inl ⟨_, rfl, by decide, gw_at 1009 (by decide +kernel) rfl⟩, List.forall_mem_cons.mpr ⟨Or.inl ⟨_, rfl, by decide, gw_at 1010 (by decide +kernel) rfl⟩, List.forall_mem_cons.mpr ⟨Or.inl ⟨_, rfl, by decide, gw_at 1008 (by decide +kernel) rfl⟩, List.forall_mem_cons.mpr ⟨Or.inl ⟨_, rfl, by decide, gw_at 1012 (by decide +kernel) rfl⟩, List.forall_mem_cons.mpr ⟨Or.inl ⟨_, rfl, by decide, gw_at 1011 (by decide +kernel) rfl⟩, List.forall_mem_cons.mpr ⟨Or.inl ⟨_, rfl, by decide, gw_at 1016 (by decide +kernel) rfl⟩, List.forall_mem_cons.mpr ⟨Or.inl ⟨_, rfl, by decide, gw_at 1015 (by decide +kernel) rfl⟩, List.forall_mem_cons.mpr ⟨Or.inl ⟨_, rfl, by decide, gw_at 1017 (by decide +kernel) rfl⟩, List.forall_mem_cons.mpr ⟨Or.inl ⟨_, rfl, by decide, gw_at 1014 (by decide +kernel) rfl⟩, List.forall_mem_cons.mpr ⟨Or.inl ⟨_, rfl, by decide, gw_at 1013 (by decide +kernel) rfl⟩, List.forall_mem_cons.mpr ⟨Or.inl ⟨_, rfl, by decide, gw_at 1022 (by decide +kernel) rfl⟩, List.forall_mem_cons.mpr ⟨Or.inl ⟨_, rfl, by decide, gw_at 993 (by decide +kernel) rfl⟩, fun _ h => absurd h List.not_mem_nil⟩⟩⟩⟩⟩⟩⟩⟩⟩⟩⟩⟩⟩⟩⟩⟩⟩⟩⟩⟩⟩⟩⟩⟩⟩⟩⟩⟩⟩⟩⟩⟩⟩⟩
theorem kk_12 : ∀ q ∈ kc_12, sv_1k RX12 q.1 q.2 := List.forall_mem_cons.mpr ⟨gw_at 1124 (by decide +kernel) rfl, List.forall_mem_cons.mpr ⟨gw_at 1206 (by decide +kernel) rfl, List.forall_mem_cons.mpr ⟨gw_at 1097 (by decide +kernel) rfl, List.forall_mem_cons.mpr ⟨gw_at 1101 (by decide +kernel) rfl, List.forall_mem_cons.mpr ⟨gw_at 1102 (by decide +kernel) rfl, List.forall_mem_cons.mpr ⟨gw_at 1103 (by decide +kernel) rfl, List.forall_mem_cons.mpr ⟨gw_at 1178 (by decide +kernel) rfl, List.forall_mem_cons.mpr ⟨gw_at 1191 (by decide +kernel) rfl, List.forall_mem_cons.mpr ⟨gw_at 1196 (by decide +kernel) rfl, List.forall_mem_cons.mpr ⟨gw_at 1201 (by decide +kernel) rfl, List.forall_mem_cons.mpr ⟨gw_at 1223 (by decide +kernel) rfl, List.forall_mem_cons.mpr ⟨gw_at 1243 (by decide +kernel) rfl, List.forall_mem_cons.mpr ⟨gw_at 1283 (by decide +kernel) rfl, List.forall_mem_cons.mpr ⟨gw_at 1288 (by decide +kernel) rfl, List.forall_mem_cons.mpr ⟨gw_at 1301 (by decide +kernel) rfl, List.forall_mem_cons.mpr ⟨gw_at 1338 (by decide +kernel) rfl, List.forall_mem_cons.mpr ⟨gw_at 1339 (by decide +kernel) rfl, List.forall_mem_cons.mpr ⟨gw_at 1344 (by decide +kernel) rfl, List.forall_mem_cons.mpr ⟨gw_at 1345 (by decide +kernel) rfl, List.forall_mem_cons.mpr ⟨gw_at 1412 (by decide +kernel) rfl, List.forall_mem_cons.mpr ⟨gw_at 1413 (by decide +kernel) rfl, List.forall_mem_cons.mpr ⟨gw_at 1418 (by decide +kernel) rfl, List.forall_mem_cons.mpr ⟨gw_at 1419 (by decide +kernel) rfl, List.forall_mem_cons.mpr ⟨gw_at 1420 (by decide +kernel) rfl, List.forall_mem_cons.mpr ⟨gw_at 1421 (by decide +kernel) rfl, List.forall_mem_cons.mpr ⟨gw_at 1448 (by decide +kernel) rfl, fun _ h => absurd h List.not_mem_nil⟩⟩⟩⟩⟩⟩⟩⟩⟩⟩⟩⟩⟩⟩⟩⟩⟩⟩⟩⟩⟩⟩⟩⟩⟩⟩
theorem ln_gen {own : String} {fl : List (Nat × (Nat × Nat))} {kc : List (Nat × sv_V)} {gs : Nat → Nat} {nl : Bool} {cs : (Nat → Option (Nat × sv_F)) × Option (Nat × (Nat → Int32))} (h1 : ∀ q ∈ fl, sv_fk own q.1 q.2.1 q.2.2) (h2 : ∀ q ∈ kc, sv_1k own q.1 q.2) (h3 : ∀ idx, (gs idx = 1 → Cond.fieldLink own idx "OneStroke" "ABOVE" "[I" ∈ gw_tbl) ∧ (gs idx = 2 → Cond.fieldLink own idx "java/lang/String" "COMPACT_STRINGS" "Z" ∈ gw_tbl)) : sv_lnk own (fun i => sv_lk i fl, (fun i => sv_lk i kc, (gs, (nl, cs)))) :=
  ⟨fun idx q h => sv_lk_all (P := fun i (x : Nat × Nat) => sv_fk own i x.1 x.2) h1 idx q h, fun idx v h => sv_lk_all (P := fun i x => sv_1k own i x) h2 idx v h, h3⟩
theorem sv_ns (x : Nat → Nat) (h : ∀ i, x i = 0) (own : String) : ∀ idx, (x idx = 1 → Cond.fieldLink own idx "OneStroke" "ABOVE" "[I" ∈ gw_tbl) ∧ (x idx = 2 → Cond.fieldLink own idx "java/lang/String" "COMPACT_STRINGS" "Z" ∈ gw_tbl) := fun idx => ⟨fun q => (by rw [h idx] at q; cases q), fun q => (by rw [h idx] at q; cases q)⟩
/-- a run of a method -/
theorem sv_run {β : Type} {Γ : sv_Ga} {E : sv_E} {cc : ByteArray} {rt : sv_V → sv_S → Option β} {res : β} (X : sv_Ok Γ E cc rt res) {cd : sv_C} (hD : cd.all (sv_dk cc) = true) {K : sv_K β} (hK : ∀ pc k, K pc = some k → ∀ lo st σ, k lo st σ = some res → sv_T Γ pc lo st σ) : ∀ (n pc : Nat) (lo : sv_Lo) (st : List sv_V) (σ : sv_S), sv_ex E rt K cd n pc lo st σ = some res → sv_T Γ pc lo st σ := by
  obtain ⟨p, l, e, R, s, m, args, below, meth, c, cells, slots, Q, base, ad, dC, dI, cA, nl, nL, n0⟩ := Γ
  obtain ⟨rfl, hx, hb, hts, ⟨own, hown, hE1, hE2, hE3⟩, hkn, hE4, hE5, hrI, hrA, hrV⟩ := X
  exact sv_ex_ok hx hb hts hown hkn ck_all hE1 hE2 hE3 hE4 hE5 hrI hrA hrV hD hK
section SVM
variable {l : Launch} {y : MethodName} {cc : ByteArray} {nL h : Nat} {E : sv_E}
/-- what a method's calls are, at height h -/
def sv_calls (l : Launch) (own : String) (cc : ByteArray) (nL h : Nat) (E : sv_E) : Prop := ∀ (p : Program) (e : Env) (R : Room) (s : State) (m : MethodId) (args : Array Value) (below : List Frame) (meth : Method) (c : Code) (cells slots : Nat) (Q : State → Prop) (base : Nat) (ad : Nat → Nat → Nat) (dC : Nat → ClassId) (dI : Nat → Nat → Nat) (cA : Nat → ClassId) (n0 : Nat), CallFix p m c cc nL s args gw_tbl own → sv_kn base ad dC dI cA s → h ≤ R.frames ∧ 64 * h ≤ R.locals → cells ≤ R.cells ∧ slots ≤ R.slots →
  ∀ pc n f, E.2.2.2.2.1 pc = some (n, f) → sv_cok p l e R s m args below meth c cells slots Q base ad dC dI cA E.2.2.2.1 nL n0 pc n f
/-- what a method's answer may be -/
def sv_rok (ret : Option FieldType) (r : Option sv_V) (w : sv_V) : Prop := match ret with
  | none => r = none ∧ ∃ n, w = sv_L n
  | some .int => r = some w ∧ ∃ n, w = .inl n
  | some .boolean => r = some w ∧ (w = .inl 0 ∨ w = .inl 1)
  | some .byte => r = some w ∧ ∃ n, w = .inl n ∧ narrow .byte (.int n) = .int n
  | some .char => r = some w ∧ ∃ n, w = .inl n ∧ narrow .char (.int n) = .int n
  | some (.object _) => r = some w ∧ (w = sv_N ∨ ∃ r i, w = sv_R r i)
  | _ => False
theorem sv_mG {β : Type} {rt : sv_V → sv_S → Option β} {G : sv_D} {F : List sv_V → sv_S → Option β} {ret : Option FieldType} (hy : plainFor y = true) (hlk : sv_lnk y.cls E) (hn5 : E.2.2.2.2.2 = none) (hc : sv_calls l y.cls cc nL h E) (hlen : ∀ as σ x, G as σ = some x → (sv_l0 as).length ≤ nL) (hnl : E.2.2.2.1 = true → ∀ as σ x, G as σ = some x → ∀ v ∈ as, sv_1 v)
    (hGF : ∀ as σ r σ', G as σ = some (r, σ') → ∃ res, F as σ = some res ∧ (∀ w τ, rt w τ = some res → τ = σ' ∧ sv_rok ret r w))
    (body : ∀ (Γ : sv_Ga) (res : β), sv_Ok Γ E cc rt res → ∀ as σ, F as σ = some res → sv_T Γ 0 (sv_e0 nL as) [] σ) : sv_M l y cc nL ret G h := by
  intro base ad dC dI cA as σ r σ' hG has
  obtain ⟨res, hF, hrt⟩ := hGF as σ r σ' hG
  refine va_MetF (cc := cc) (maxL := nL) (ret := ret) hy rfl ?_
  intro p e s m args below meth c s₁ B hml hv
  obtain ⟨rfl, hkn, hrep⟩ := hv
  have hx := B.exec
  have hb := B.bytes
  have hr := B.returns
  have hts := atoms_spec (ws := sv_ws y cc nL ret) B.pre
  have hts' : ∀ w ∈ gw_tbl, w.before (List.map (sv_c ad) as).toArray s = true := fun w hw => hts w (List.mem_cons_of_mem _ hw)
  have hown : s.vm.findClass y.cls = some m.cls := findClass_of_methodNamed B.named
  have hlocks := B.notSynchronized
  have hll := hlen as σ _ hG
  have hl := lv_entry (as.map (sv_c ad)) (n := nL) (by rw [← sv_l0_len ad]; exact hll)
  rw [lg_entry_eq]
  generalize (lg_sl (as.map (sv_c ad)) ++ List.replicate (nL - (lg_sl (as.map (sv_c ad))).length) Slot.unset).toArray = ls at hl ⊢
  have hL : sv_lh ad ls nL (sv_e0 nL as) := by
    refine ⟨?_, ?_⟩
    · unfold sv_e0
      rw [List.length_append, List.length_replicate]
      omega
    · unfold sv_e0
      rw [sv_ll_l0]
      exact hl
  have hS : va_S (fun q => base ≤ q) s.heap s.heap [] := va_S.rf
  have hok : ∀ i v, sv_ga (sv_e0 nL as) i = some v → sv_ok (sv_ct σ) v ∧ (E.2.2.2.1 = true → sv_1 v) := fun i v hi => ⟨has v (sv_ga_l0 as _ i v hi), fun q => hnl q as σ _ hG v (sv_ga_l0 as _ i v hi)⟩
  have key := body (p, (l, (e, ((headSpec (sv_ws y cc nL ret) (sv_rm h)).room, (s, (m, ((List.map (sv_c ad) as).toArray, (below, (meth, (c, (0, (0, (MQ below (sv_Qc base ad dC dI cA (sv_ct σ) r σ') (List.map (sv_c ad) as).toArray s 0 0 (fun q => base ≤ q), (base, (ad, (dC, (dI, (cA, (E.2.2.2.1, (nL, sv_ct σ)))))))))))))))))))) res
    ⟨rfl, hx, hb, hts', ⟨y.cls, hown, hlk⟩, hkn, hc p e _ s m _ below meth c 0 0 _ base ad dC dI cA (sv_ct σ) ⟨hx, hb, hml, hown, hts'⟩ hkn ⟨Nat.le_refl _, Nat.le_refl _⟩ ⟨Nat.le_refl _, Nat.le_refl _⟩, fun q hq => (by rw [hn5] at hq; cases hq), ?_, ?_, ?_⟩ as σ hF
  · exact key s.heap [] ls hrep hS hL rfl (fun v hv => by cases hv) hok
  · intro pc lo n τ hdg hn H locs ls' hR1 hS1 hL1 hct1 hst1 hlo1
    obtain ⟨rfl, hq⟩ := hrt _ _ hn
    unfold sv_rok at hq
    split at hq
    · obtain ⟨-, n', hn'⟩ := hq; cases hn'
    · obtain ⟨rfl, -⟩ := hq
      exact W.iret hx hb hr (fun t ht hW => ⟨rfl, by rw [ht]; exact hR1, hS1.F ht, fun v hv => by cases hv; exact hst1 _ List.mem_cons_self, hct1⟩) hS1.2.2 hdg
    · obtain ⟨rfl, hz⟩ := hq
      refine W.zret hx hb hr ?_ (fun t ht hW => ⟨rfl, by rw [ht]; exact hR1, hS1.F ht, fun v hv => by cases hv; exact hst1 _ List.mem_cons_self, hct1⟩) hS1.2.2 hdg
      rcases hz with hz | hz <;> (cases hz; decide)
    · obtain ⟨rfl, n', hn', hz⟩ := hq
      cases hn'
      exact W.zret hx hb hr hz (fun t ht hW => ⟨rfl, by rw [ht]; exact hR1, hS1.F ht, fun v hv => by cases hv; exact hst1 _ List.mem_cons_self, hct1⟩) hS1.2.2 hdg
    · obtain ⟨rfl, n', hn', hz⟩ := hq
      cases hn'
      exact W.zret hx hb hr hz (fun t ht hW => ⟨rfl, by rw [ht]; exact hR1, hS1.F ht, fun v hv => by cases hv; exact hst1 _ List.mem_cons_self, hct1⟩) hS1.2.2 hdg
    · obtain ⟨-, hz | ⟨r', i', hz⟩⟩ := hq <;> cases hz
    · exact absurd hq (fun q => q)
  · intro pc lo v τ hdg hv hn H locs ls' hR1 hS1 hL1 hct1 hst1 hlo1
    obtain ⟨rfl, hq⟩ := hrt _ _ hn
    unfold sv_rok at hq
    split at hq
    · obtain ⟨-, n', hn'⟩ := hq
      rcases hv with rfl | ⟨r', i', rfl⟩ <;> cases hn'
    · obtain ⟨-, n', hn'⟩ := hq
      rcases hv with rfl | ⟨r', i', rfl⟩ <;> cases hn'
    · obtain ⟨-, hz⟩ := hq
      rcases hv with rfl | ⟨r', i', rfl⟩ <;> (rcases hz with hz | hz <;> cases hz)
    · obtain ⟨-, n', hn', -⟩ := hq
      rcases hv with rfl | ⟨r', i', rfl⟩ <;> cases hn'
    · obtain ⟨-, n', hn', -⟩ := hq
      rcases hv with rfl | ⟨r', i', rfl⟩ <;> cases hn'
    · rename_i C
      obtain ⟨rfl, hz⟩ := hq
      refine W.aret hx hb hr (Or.inl ⟨C, rfl⟩) ?_ (fun t ht hW => ⟨rfl, by rw [ht]; exact hR1, hS1.F ht, fun v hv => by cases hv; exact hst1 _ List.mem_cons_self, hct1⟩) hS1.2.2 hdg
      rcases hz with rfl | ⟨r', i', rfl⟩
      · exact Or.inl rfl
      · exact Or.inr ⟨_, rfl⟩
    · exact absurd hq (fun q => q)
  · intro pc lo τ hdg hn H locs ls' hR1 hS1 hL1 hct1 hst1 hlo1
    obtain ⟨rfl, hq⟩ := hrt _ _ hn
    unfold sv_rok at hq
    split at hq
    · obtain ⟨rfl, -⟩ := hq
      exact W.vret hx hb hr (fun t ht hW => ⟨rfl, by rw [ht]; exact hR1, hS1.F ht, fun v hv => (by cases hv), hct1⟩) hS1.2.2 hdg
    · obtain ⟨-, n', hn'⟩ := hq; cases hn'
    · obtain ⟨-, hz⟩ := hq
      rcases hz with hz | hz <;> cases hz
    · obtain ⟨-, n', hn', -⟩ := hq; cases hn'
    · obtain ⟨-, n', hn', -⟩ := hq; cases hn'
    · obtain ⟨-, hz | ⟨r', i', hz⟩⟩ := hq <;> cases hz
    · exact absurd hq (fun q => q)
/-- the arguments of a function: as many as there is room for, no longs but where it says so -/
def sv_args (nL : Nat) (nl : Bool) (as : List sv_V) : Prop := (sv_l0 as).length ≤ nL ∧ (nl = true → ∀ v ∈ as, sv_1 v)
theorem sv_mI {F : List sv_V → sv_S → Option (Int32 × sv_S)} (hy : plainFor y = true) (hlk : sv_lnk y.cls E) (hn5 : E.2.2.2.2.2 = none) (hc : sv_calls l y.cls cc nL h E) (ha : ∀ as σ x, F as σ = some x → sv_args nL E.2.2.2.1 as) (body : ∀ (Γ : sv_Ga) (res : Int32 × sv_S), sv_Ok Γ E cc sv_rI res → ∀ as σ, F as σ = some res → sv_T Γ 0 (sv_e0 nL as) [] σ) : sv_M l y cc nL (some .int) (sv_gI F) h := by
  have hx : ∀ as σ x, sv_gI F as σ = some x → ∃ z, F as σ = some z := fun as σ x hq => by obtain ⟨a, τ, h1, -⟩ := sv_b_some hq; exact ⟨_, h1⟩
  refine sv_mG (F := F) (rt := sv_rI) hy hlk hn5 hc (fun as σ x hq => by obtain ⟨z, hz⟩ := hx as σ x hq; exact (ha as σ z hz).1) (fun q as σ x hq => by obtain ⟨z, hz⟩ := hx as σ x hq; exact (ha as σ z hz).2 q) (fun as σ r σ' hq => ?_) body
  obtain ⟨a, τ, h1, h2⟩ := sv_b_some hq
  cases h2
  refine ⟨_, h1, fun w τ' hw => ?_⟩
  unfold sv_rI at hw
  split at hw
  · cases hw; exact ⟨rfl, rfl, _, rfl⟩
  · cases hw
theorem sv_mZ {F : List sv_V → sv_S → Option (Int32 × sv_S)} (hy : plainFor y = true) (hlk : sv_lnk y.cls E) (hn5 : E.2.2.2.2.2 = none) (hc : sv_calls l y.cls cc nL h E) (ha : ∀ as σ x, F as σ = some x → sv_args nL E.2.2.2.1 as) (body : ∀ (Γ : sv_Ga) (res : Int32 × sv_S), sv_Ok Γ E cc sv_rZ res → ∀ as σ, F as σ = some res → sv_T Γ 0 (sv_e0 nL as) [] σ) : sv_M l y cc nL (some .boolean) (sv_gI F) h := by
  have hx : ∀ as σ x, sv_gI F as σ = some x → ∃ z, F as σ = some z := fun as σ x hq => by obtain ⟨a, τ, h1, -⟩ := sv_b_some hq; exact ⟨_, h1⟩
  refine sv_mG (F := F) (rt := sv_rZ) hy hlk hn5 hc (fun as σ x hq => by obtain ⟨z, hz⟩ := hx as σ x hq; exact (ha as σ z hz).1) (fun q as σ x hq => by obtain ⟨z, hz⟩ := hx as σ x hq; exact (ha as σ z hz).2 q) (fun as σ r σ' hq => ?_) body
  obtain ⟨a, τ, h1, h2⟩ := sv_b_some hq
  cases h2
  refine ⟨_, h1, fun w τ' hw => ?_⟩
  unfold sv_rZ at hw
  split at hw
  · obtain ⟨hz, hw⟩ := sv_g_some hw
    cases hw
    refine ⟨rfl, rfl, ?_⟩
    rcases hz with rfl | rfl
    · exact Or.inl rfl
    · exact Or.inr rfl
  · cases hw
theorem sv_mN {ty : FieldType} (hty : ty = .byte ∨ ty = .char) {F : List sv_V → sv_S → Option (Int32 × sv_S)} (hy : plainFor y = true) (hlk : sv_lnk y.cls E) (hn5 : E.2.2.2.2.2 = none) (hc : sv_calls l y.cls cc nL h E) (ha : ∀ as σ x, F as σ = some x → sv_args nL E.2.2.2.1 as) (body : ∀ (Γ : sv_Ga) (res : Int32 × sv_S), sv_Ok Γ E cc (sv_rN ty) res → ∀ as σ, F as σ = some res → sv_T Γ 0 (sv_e0 nL as) [] σ) : sv_M l y cc nL (some ty) (sv_gI F) h := by
  have hx : ∀ as σ x, sv_gI F as σ = some x → ∃ z, F as σ = some z := fun as σ x hq => by obtain ⟨a, τ, h1, -⟩ := sv_b_some hq; exact ⟨_, h1⟩
  refine sv_mG (F := F) (rt := sv_rN ty) hy hlk hn5 hc (fun as σ x hq => by obtain ⟨z, hz⟩ := hx as σ x hq; exact (ha as σ z hz).1) (fun q as σ x hq => by obtain ⟨z, hz⟩ := hx as σ x hq; exact (ha as σ z hz).2 q) (fun as σ r σ' hq => ?_) body
  obtain ⟨a, τ, h1, h2⟩ := sv_b_some hq
  cases h2
  refine ⟨_, h1, fun w τ' hw => ?_⟩
  unfold sv_rN at hw
  split at hw
  · obtain ⟨hz, hw⟩ := sv_g_some hw
    cases hw
    refine ⟨rfl, ?_⟩
    rcases hty with rfl | rfl <;> exact ⟨rfl, _, rfl, hz⟩
  · cases hw
theorem sv_mV {F : List sv_V → sv_S → Option sv_S} (hy : plainFor y = true) (hlk : sv_lnk y.cls E) (hn5 : E.2.2.2.2.2 = none) (hc : sv_calls l y.cls cc nL h E) (ha : ∀ as σ x, F as σ = some x → sv_args nL E.2.2.2.1 as) (body : ∀ (Γ : sv_Ga) (res : sv_S), sv_Ok Γ E cc sv_rV res → ∀ as σ, F as σ = some res → sv_T Γ 0 (sv_e0 nL as) [] σ) : sv_M l y cc nL none (sv_gV F) h := by
  have hx : ∀ as σ x, sv_gV F as σ = some x → ∃ z, F as σ = some z := fun as σ x hq => by obtain ⟨τ, h1, -⟩ := sv_b0_some hq; exact ⟨_, h1⟩
  refine sv_mG (F := F) (rt := sv_rV) hy hlk hn5 hc (fun as σ x hq => by obtain ⟨z, hz⟩ := hx as σ x hq; exact (ha as σ z hz).1) (fun q as σ x hq => by obtain ⟨z, hz⟩ := hx as σ x hq; exact (ha as σ z hz).2 q) (fun as σ r σ' hq => ?_) body
  obtain ⟨τ, h1, h2⟩ := sv_b0_some hq
  cases h2
  refine ⟨_, h1, fun w τ' hw => ?_⟩
  unfold sv_rV at hw
  split at hw
  · cases hw; exact ⟨rfl, rfl, _, rfl⟩
  · cases hw
theorem sv_mR {C : String} {q : Nat} {F : List sv_V → sv_S → Option (Nat × sv_S)} (hy : plainFor y = true) (hlk : sv_lnk y.cls E) (hn5 : E.2.2.2.2.2 = none) (hc : sv_calls l y.cls cc nL h E) (ha : ∀ as σ x, F as σ = some x → sv_args nL E.2.2.2.1 as) (body : ∀ (Γ : sv_Ga) (res : Nat × sv_S), sv_Ok Γ E cc (sv_rR q) res → ∀ as σ, F as σ = some res → sv_T Γ 0 (sv_e0 nL as) [] σ) : sv_M l y cc nL (some (.object C)) (sv_gR q F) h := by
  have hx : ∀ as σ x, sv_gR q F as σ = some x → ∃ z, F as σ = some z := fun as σ x hq => by obtain ⟨a, τ, h1, -⟩ := sv_b_some hq; exact ⟨_, h1⟩
  refine sv_mG (F := F) (rt := sv_rR q) hy hlk hn5 hc (fun as σ x hq => by obtain ⟨z, hz⟩ := hx as σ x hq; exact (ha as σ z hz).1) (fun q as σ x hq => by obtain ⟨z, hz⟩ := hx as σ x hq; exact (ha as σ z hz).2 q) (fun as σ r σ' hq => ?_) body
  obtain ⟨a, τ, h1, h2⟩ := sv_b_some hq
  cases h2
  refine ⟨_, h1, fun w τ' hw => ?_⟩
  unfold sv_rR at hw
  split at hw
  · rename_i r0 i0
    cases hb : Nat.beq r0 q with
    | false => rw [hb] at hw; cases hw
    | true =>
      rw [hb] at hw
      cases hw
      rw [Nat.eq_of_beq_eq_true hb]
      exact ⟨rfl, rfl, Or.inr ⟨_, _, rfl⟩⟩
  · cases hw
theorem sv_mT {C : String} {F : List sv_V → sv_S → Option (Option Nat × sv_S)} (hy : plainFor y = true) (hlk : sv_lnk y.cls E) (hn5 : E.2.2.2.2.2 = none) (hc : sv_calls l y.cls cc nL h E) (ha : ∀ as σ x, F as σ = some x → sv_args nL E.2.2.2.1 as) (body : ∀ (Γ : sv_Ga) (res : Option Nat × sv_S), sv_Ok Γ E cc sv_rT res → ∀ as σ, F as σ = some res → sv_T Γ 0 (sv_e0 nL as) [] σ) : sv_M l y cc nL (some (.object C)) (sv_gT F) h := by
  have hx : ∀ as σ x, sv_gT F as σ = some x → ∃ z, F as σ = some z := fun as σ x hq => by rcases sv_bT_some hq with ⟨τ, h1, -⟩ | ⟨t, τ, h1, -⟩ <;> exact ⟨_, h1⟩
  refine sv_mG (F := F) (rt := sv_rT) hy hlk hn5 hc (fun as σ x hq => by obtain ⟨z, hz⟩ := hx as σ x hq; exact (ha as σ z hz).1) (fun q as σ x hq => by obtain ⟨z, hz⟩ := hx as σ x hq; exact (ha as σ z hz).2 q) (fun as σ r σ' hq => ?_) body
  rcases sv_bT_some hq with ⟨τ, h1, h2⟩ | ⟨t, τ, h1, h2⟩
  all_goals
    cases h2
    refine ⟨_, h1, fun w τ' hw => ?_⟩
    unfold sv_rT at hw
    split at hw
  · cases hw; exact ⟨rfl, rfl, Or.inl rfl⟩
  · rename_i r0 i0
    cases hb : Nat.beq r0 18 with
    | false => rw [hb] at hw; cases hw
    | true => rw [hb] at hw; cases hw
  · cases hw
  · cases hw
  · rename_i r0 i0
    cases hb : Nat.beq r0 18 with
    | false => rw [hb] at hw; cases hw
    | true =>
      rw [hb] at hw
      cases hw
      rw [Nat.eq_of_beq_eq_true hb]
      exact ⟨rfl, rfl, Or.inr ⟨_, _, rfl⟩⟩
  · cases hw
end SVM
end
section
/-! ===== System.arraycopy; a method's contract for some of its arguments ===== -/
noncomputable def sv_cp (σ : sv_S) (q i j sp dp n : Nat) : sv_S := fun r' i' k' => if r' = q ∧ i' = j then va_cpy (σ q i) (σ q j) sp dp n k' else σ r' i' k'
noncomputable def f_ac (q : Nat) (i : Nat) (sp : Int32) (j : Nat) (dp n : Int32) (σ : sv_S) : Option sv_S := sv_g (¬ sp < 0 ∧ ¬ dp < 0 ∧ ¬ n < 0 ∧ sp.toNatClampNeg + n.toNatClampNeg ≤ sv_ln q i σ ∧ dp.toNatClampNeg + n.toNatClampNeg ≤ sv_ln q j σ) (some (sv_cp σ q i j sp.toNatClampNeg dp.toNatClampNeg n.toNatClampNeg))
noncomputable def f_ac5 (i : Nat) (sp : Int32) (j : Nat) (dp n : Int32) (σ : sv_S) : Option sv_S := f_ac 5 i sp j dp n σ
noncomputable def f_ac13 (i : Nat) (sp : Int32) (j : Nat) (dp n : Int32) (σ : sv_S) : Option sv_S := f_ac 13 i sp j dp n σ
noncomputable def n_ac5 : List sv_V → sv_S → Option sv_S
  | [.inr (.inr (some (5, i))), .inl sp, .inr (.inr (some (5, j))), .inl dp, .inl n], σ => f_ac5 i sp j dp n σ
  | _, _ => none
noncomputable def n_ac13 : List sv_V → sv_S → Option sv_S
  | [.inr (.inr (some (13, i))), .inl sp, .inr (.inr (some (13, j))), .inl dp, .inl n], σ => f_ac13 i sp j dp n σ
  | _, _ => none
theorem sv_rep.upG {base : Nat} {ad : Nat → Nat → Nat} {dC : Nat → ClassId} {dI : Nat → Nat → Nat} {cA : Nat → ClassId} {σ σ' : sv_S} {H H1 : Heap} {r i : Nat} (h : sv_rep base ad dC dI cA σ H) (hl : sv_lv (sv_ct σ) r i) (hm : sv_my r) (h18 : r ≠ 18) (h22 : r ≠ 22) (hσ : ∀ r' i', ¬ (r' = r ∧ i' = i) → σ' r' i' = σ r' i')
    (hc : sv_cell ad dC dI cA σ' r i H1) (hq : ∀ q : Nat, q ≠ ad r i → H1[q]? = H[q]?) : sv_ct σ' = sv_ct σ ∧ sv_rep base ad dC dI cA σ' H1 := by
  have hct : sv_ct σ' = sv_ct σ := by unfold sv_ct; rw [hσ 22 0 (fun q => h22 q.1.symm)]
  have hln : ∀ r' i', sv_ln r' i' σ' = sv_ln r' i' σ := by
    intro r' i'
    have e : ∀ j, σ' 18 j = σ 18 j := fun j => hσ 18 j (fun q => h18 q.1.symm)
    unfold sv_ln
    split <;> first | rfl | rw [e]
  refine ⟨hct, ?_⟩
  unfold sv_rep
  rw [hct]
  refine ⟨fun r' i' hl' hm' => ?_, h.2⟩
  by_cases he : r' = r ∧ i' = i
  · obtain ⟨rfl, rfl⟩ := he
    exact ⟨(h.1 r' i' hl' hm').1, hc⟩
  · exact ⟨(h.1 r' i' hl' hm').1, (h.1 r' i' hl' hm').2.kept (hσ _ _ he) (hln _ _) (hq _ (fun q => he (h.2 _ _ _ _ hl' hl hm' hm q)))⟩
section SVN
variable {p : Program} {l : Launch} {e : Env} {R : Room} {s : State} {m : MethodId} {args : Array Value} {below : List Frame} {meth : Method} {c : Code} {cells slots : Nat} {Q : State → Prop}
variable {cc : ByteArray} {base : Nat} {ad : Nat → Nat → Nat} {dC : Nat → ClassId} {dI : Nat → Nat → Nat} {cA : Nat → ClassId} {own : String} {nL n0 : Nat} {nl : Bool}
set_option maxHeartbeats 4000000 in
theorem sv_acopy (S : CallFix p m c cc nL s args gw_tbl own) (hkn : sv_kn base ad dC dI cA s) {idx pc q : Nat} (hq : ∀ i, sv_kd q i = .inr 0) (hR : 1 ≤ R.frames ∧ 64 * 1 ≤ R.locals) (hw : ∀ w ∈ [Cond.methodLink own idx arraycopyName, Cond.native arraycopyName, Cond.static arraycopyName, Cond.initialized "java/lang/System"], w ∈ gw_tbl) (hdg : decode cc pc = .ok (.invokestatic idx, 3))
    {F : List sv_V → sv_S → Option sv_S} (hF : ∀ as σ x, F as σ = some x → ∃ i sp j dp n, as = [sv_R q i, .inl sp, sv_R q j, .inl dp, .inl n] ∧ f_ac q i sp j dp n σ = some x) : sv_cg p l e R s m args below meth c cells slots Q base ad dC dI cA nl nL n0 pc 5 (sv_gV F) := by
  intro as rest lo σ r σ' hn hsm hG hWt H locs ls hRp hS hL hct hst hlo
  subst hct
  obtain ⟨τ, h1, h2⟩ := sv_b0_some hG
  cases h2
  obtain ⟨i, sp, j, dp, n, rfl, hf⟩ := hF _ _ _ h1
  obtain ⟨⟨g1, g2, g3, g4, g5⟩, hf⟩ := sv_g_some hf
  cases hf
  have hlv : ∀ v ∈ [sv_R q i, .inl sp, sv_R q j, .inl dp, .inl n], sv_ok (sv_ct σ) v := fun v hv => hst v (List.mem_append_left _ (List.mem_reverse.mpr hv))
  have hli : sv_lv (sv_ct σ) q i := hlv _ List.mem_cons_self
  have hlj : sv_lv (sv_ct σ) q j := hlv (sv_R q j) (by simp)
  obtain ⟨hx, hb, hml, hown, hts⟩ := S
  have hmy : sv_my q := sv_my_arr (hq i) (by decide)
  obtain ⟨h18, h22⟩ := sv_no18 (hq i) (by decide)
  have hc0 : H[ad q i]? = some (arrV (cA 0) (sv_ln q i σ) (fun k => .int (σ q i k))) := (hRp.1 q i hli hmy).2.ar (hq i)
  obtain ⟨hA, hcj⟩ := hRp.1 q j hlj hmy
  have hc1 : H[ad q j]? = some (arrV (cA 0) (sv_ln q j σ) (fun k => .int (σ q j k))) := hcj.ar (hq j)
  have hK := hkn.1
  have nn : ∀ z : Int32, ¬ z < 0 → z.toInt = (z.toNatClampNeg : Int) := by
    intro z hz
    have hz0 : (0 : Int) ≤ z.toInt := by
      have := Int32.not_lt.mp hz
      simpa using Int32.le_iff_toInt_le.mp this
    show z.toInt = ((z.toInt.toNat : Nat) : Int)
    omega
  intro T hT X
  obtain ⟨-, k0, hk0, cm0, hkk0⟩ := (hK.2 0 _ rfl).1 (sv_ln q i σ) (fun k => .int (σ q i k))
  obtain ⟨-, k1, hk1, cm1, hkk1⟩ := (hK.2 0 _ rfl).1 (sv_ln q j σ) (fun k => .int (σ q j k))
  have hloc : ((rest.map (sv_c ad)).map fun v => v.category).sum + (nativeFrameWords "java/lang/System" "arraycopy" 5 + 11) ≤ R.locals := by
    have h8 := sv_sm8 (ad := ad) hsm
    have hnf : nativeFrameWords "java/lang/System" "arraycopy" 5 + 11 ≤ 56 := by decide +kernel
    omega
  obtain ⟨vm', X', step⟩ := X.arraycopy hx hown (hts (Cond.methodLink own idx arraycopyName) (hw _ (by simp))) (hts (Cond.native arraycopyName) (hw _ (by simp))) (hts (Cond.static arraycopyName) (hw _ (by simp))) (hts (Cond.initialized "java/lang/System") (hw _ (by simp))) (src := ad q i) (dst := ad q j) (srcPos := sp) (destPos := dp) (n := n) (by rw [hT]; exact hc0) (by rw [hT]; exact hc1)
    (fun _ h => by cases h) (fun _ h => by cases h) (fun h => by cases h) (fun h => by cases h) hk0 hk1 hkk0 hkk1 (by simp [refKind]) g1 g2 g3
    (by rw [nn sp g1, nn n g3, arrV_size]; omega)
    (by rw [nn dp g2, nn n g3, arrV_size]; omega)
    (fun vm₁ _ k hk => by
      have e : (arrV (cA 0) (sv_ln q i σ) (fun k => .int (σ q i k))).slots.getD (sp.toNatClampNeg + k) .null = .int (σ q i (sp.toNatClampNeg + k)) := by
        rw [Array.getD_eq_getD_getElem?, arrV_read _ _ (by omega)]
        rfl
      refine ⟨?_, ?_⟩
      · rw [e]; rfl
      · rw [e]; exact trivial)
    (g := F0 m pc ls (.int n :: .int dp :: .ref (ad q j) :: .int sp :: .ref (ad q i) :: rest.map (sv_c ad))) rfl (by show ls.size = c.maxLocals; rw [hml]; exact hL.2.1) (rest := rest.map (sv_c ad)) rfl (by rw [hb]; exact hdg) hR.1 (by show 2 * 0 + _ + _ ≤ _; omega)
  have e1 : copied (arrV (cA 0) (sv_ln q i σ) (fun k => Value.int (σ q i k))) (arrV (cA 0) (sv_ln q j σ) (fun k => Value.int (σ q j k))) sp dp n = arrV (cA 0) (sv_ln q j σ) (fun k => .int (va_cpy (σ q i) (σ q j) sp.toNatClampNeg dp.toNatClampNeg n.toNatClampNeg k)) := va_copied (fun z => .int z) (cA 0) (cA 0) (σ q i) (σ q j) g4
  rw [e1] at X' step
  have hlt : ad q j < H.size := (Array.getElem?_eq_some_iff.mp hc1).1
  generalize hce : arrV (cA 0) (sv_ln q j σ) (fun k => .int (va_cpy (σ q i) (σ q j) sp.toNatClampNeg dp.toNatClampNeg n.toNatClampNeg k)) = ce at X' step
  have hheap : ((T.setVm vm').setCell (ad q j) ce).heap = H.setIfInBounds (ad q j) ce := by rw [← hT]; rfl
  have oq : ∀ z : Nat, z ≠ ad q j → (H.setIfInBounds (ad q j) ce)[z]? = H[z]? := fun z hz => by simp [Array.getElem?_setIfInBounds, Ne.symm hz]
  have hat : (H.setIfInBounds (ad q j) ce)[ad q j]? = some ce := by simp [Array.getElem?_setIfInBounds, hlt]
  have hσ : ∀ r' i', ¬ (r' = q ∧ i' = j) → sv_cp σ q i j sp.toNatClampNeg dp.toNatClampNeg n.toNatClampNeg r' i' = σ r' i' := by
    intro r' i' hne
    funext k
    unfold sv_cp
    rw [if_neg hne]
  have hself : sv_cp σ q i j sp.toNatClampNeg dp.toNatClampNeg n.toNatClampNeg q j = va_cpy (σ q i) (σ q j) sp.toNatClampNeg dp.toNatClampNeg n.toNatClampNeg := by
    funext k
    unfold sv_cp
    rw [if_pos ⟨rfl, rfl⟩]
  have hln : sv_ln q j (sv_cp σ q i j sp.toNatClampNeg dp.toNatClampNeg n.toNatClampNeg) = sv_ln q j σ := by
    have e : ∀ z, sv_cp σ q i j sp.toNatClampNeg dp.toNatClampNeg n.toNatClampNeg 18 z = σ 18 z := fun z => hσ 18 z (fun w => h18 w.1.symm)
    unfold sv_ln
    split <;> first | rfl | rw [e]
  obtain ⟨hct', hrep'⟩ := hRp.upG (σ' := sv_cp σ q i j sp.toNatClampNeg dp.toNatClampNeg n.toNatClampNeg) hlj hmy h18 h22 hσ (by
    unfold sv_cell
    rw [hq j]
    show (H.setIfInBounds (ad q j) ce)[ad q j]? = _
    rw [hat, hln, hself, ← hce]
    rfl) oq
  obtain ⟨t, a1, b1⟩ := hWt _ _ ls hrep' ⟨by simp; exact hS.1, fun z g1 g2 => by
      rw [oq z (fun e => g2 (by rw [e]; exact hA))]
      exact hS.2.1 z g1 g2, fun z hz => by
      rcases List.mem_append.mp hz with h | h
      · exact hS.2.2 z h
      · obtain ⟨w, -, hw⟩ := List.mem_map.mp h
        rw [← hw]
        exact hA⟩ hL hct' (fun v hv => hst v (List.mem_append_right _ hv)) hlo _ hheap X'
  exact ⟨t, step t a1, b1⟩
end SVN
theorem sv_M.sub {l : Launch} {y : MethodName} {b : ByteArray} {n h : Nat} {ret : Option FieldType} {G G' : sv_D} (hM : sv_M l y b n ret G h) (hs : ∀ as σ x, G' as σ = some x → G as σ = some x) : sv_M l y b n ret G' h := fun base ad dC dI cA as σ r σ' hG => hM base ad dC dI cA as σ r σ' (hs _ _ _ hG)
/-- a function of the KINDS, for one of them -/
noncomputable def sv_a7 (j : Nat) (G : sv_D) : sv_D := fun as σ => match as with
  | .inr (.inr (some (7, i))) :: _ => sv_g (i = j) (G as σ)
  | _ => none
theorem sv_a7_sub {j : Nat} {G : sv_D} (as : List sv_V) (σ : sv_S) (x : Option sv_V × sv_S) (h : sv_a7 j G as σ = some x) : G as σ = some x := by
  unfold sv_a7 at h
  split at h
  · exact (sv_g_some h).2
  · cases h
theorem sv_a7_at {j : Nat} {G : sv_D} (as : List sv_V) (σ : sv_S) (x : Option sv_V × sv_S) (h : sv_a7 j G as σ = some x) : ∃ as', as = sv_R 7 j :: as' := by
  unfold sv_a7 at h
  split at h
  · rename_i i as'
    obtain ⟨rfl, -⟩ := sv_g_some h
    exact ⟨as', rfl⟩
  · cases h
theorem sv_a7_of {j : Nat} {G : sv_D} {as : List sv_V} {σ : sv_S} {x : Option sv_V × sv_S} (h : G (sv_R 7 j :: as) σ = some x) : sv_a7 j G (sv_R 7 j :: as) σ = some x := by
  show sv_g (j = j) _ = _
  rw [sv_g_t rfl]
  exact h
end
