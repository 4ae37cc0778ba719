section
-- ===== PART A: goes FIRST, ahead of the names: the tables' words, and 'selects' of the private methods out of them =====
/-- a private method of a class that the tables say can be made, by its rows of tables_1 -/
def lw_okq (q : MethodName × Nat) : Prop := (q.1.cls ≠ "java/lang/invoke/MethodHandle" ∧ q.1.cls ≠ "java/lang/invoke/VarHandle") ∧ Cond.instantiable q.1.cls q.2 ∈ tables_1 ∧ Cond.privateMethod q.1 ∈ tables_1 ∧ Cond.instanceMethod q.1 ∈ tables_1
theorem lw_p0 : lw_okq (⟨"OneStroke", "isDrummer", "(I)Z"⟩, 13) := ⟨⟨by decide +kernel, by decide +kernel⟩, List.mem_of_getElem? (i := 23) (by decide +kernel), List.mem_of_getElem? (i := 297) (by decide +kernel), List.mem_of_getElem? (i := 298) (by decide +kernel)⟩
theorem lw_p1 : lw_okq (⟨"OneStroke", "think", "()V"⟩, 13) := ⟨⟨by decide +kernel, by decide +kernel⟩, List.mem_of_getElem? (i := 23) (by decide +kernel), List.mem_of_getElem? (i := 497) (by decide +kernel), List.mem_of_getElem? (i := 498) (by decide +kernel)⟩
theorem lw_p2 : lw_okq (⟨"OneStroke", "findMend", "(I)Z"⟩, 13) := ⟨⟨by decide +kernel, by decide +kernel⟩, List.mem_of_getElem? (i := 23) (by decide +kernel), List.mem_of_getElem? (i := 544) (by decide +kernel), List.mem_of_getElem? (i := 545) (by decide +kernel)⟩
theorem lw_p3 : lw_okq (⟨"OneStroke", "findMiscounted", "(LOneStroke$Sheet;I)Z"⟩, 13) := ⟨⟨by decide +kernel, by decide +kernel⟩, List.mem_of_getElem? (i := 23) (by decide +kernel), List.mem_of_getElem? (i := 580) (by decide +kernel), List.mem_of_getElem? (i := 581) (by decide +kernel)⟩
theorem lw_p4 : lw_okq (⟨"OneStroke", "differences", "(LOneStroke$Sheet;)I"⟩, 13) := ⟨⟨by decide +kernel, by decide +kernel⟩, List.mem_of_getElem? (i := 23) (by decide +kernel), List.mem_of_getElem? (i := 584) (by decide +kernel), List.mem_of_getElem? (i := 585) (by decide +kernel)⟩
theorem lw_p5 : lw_okq (⟨"OneStroke$Tape", "isSide", "(III)Z"⟩, 9) := ⟨⟨by decide +kernel, by decide +kernel⟩, List.mem_of_getElem? (i := 168) (by decide +kernel), List.mem_of_getElem? (i := 710) (by decide +kernel), List.mem_of_getElem? (i := 711) (by decide +kernel)⟩
theorem lw_p6 : lw_okq (⟨"OneStroke$Tape", "isPiece", "(II)Z"⟩, 9) := ⟨⟨by decide +kernel, by decide +kernel⟩, List.mem_of_getElem? (i := 168) (by decide +kernel), List.mem_of_getElem? (i := 714) (by decide +kernel), List.mem_of_getElem? (i := 715) (by decide +kernel)⟩
theorem lw_p7 : lw_okq (⟨"OneStrokeModel", "comes", "(II)V"⟩, 34) := ⟨⟨by decide +kernel, by decide +kernel⟩, List.mem_of_getElem? (i := 933) (by decide +kernel), List.mem_of_getElem? (i := 1053) (by decide +kernel), List.mem_of_getElem? (i := 1054) (by decide +kernel)⟩
theorem lw_p8 : lw_okq (⟨"OneStrokeModel", "sets", "(III)V"⟩, 34) := ⟨⟨by decide +kernel, by decide +kernel⟩, List.mem_of_getElem? (i := 933) (by decide +kernel), List.mem_of_getElem? (i := 1057) (by decide +kernel), List.mem_of_getElem? (i := 1058) (by decide +kernel)⟩
theorem lw_p9 : lw_okq (⟨"OneStrokeModel", "isDrummer", "(I)Z"⟩, 34) := ⟨⟨by decide +kernel, by decide +kernel⟩, List.mem_of_getElem? (i := 933) (by decide +kernel), List.mem_of_getElem? (i := 1065) (by decide +kernel), List.mem_of_getElem? (i := 1066) (by decide +kernel)⟩
theorem lw_p10 : lw_okq (⟨"OneStrokeModel", "of", "(II)I"⟩, 34) := ⟨⟨by decide +kernel, by decide +kernel⟩, List.mem_of_getElem? (i := 933) (by decide +kernel), List.mem_of_getElem? (i := 1069) (by decide +kernel), List.mem_of_getElem? (i := 1070) (by decide +kernel)⟩
theorem lw_p11 : lw_okq (⟨"OneStrokeModel", "hears", "(I)Z"⟩, 34) := ⟨⟨by decide +kernel, by decide +kernel⟩, List.mem_of_getElem? (i := 933) (by decide +kernel), List.mem_of_getElem? (i := 1074) (by decide +kernel), List.mem_of_getElem? (i := 1075) (by decide +kernel)⟩
theorem lw_p12 : lw_okq (⟨"OneStrokeModel", "left", "(I)I"⟩, 34) := ⟨⟨by decide +kernel, by decide +kernel⟩, List.mem_of_getElem? (i := 933) (by decide +kernel), List.mem_of_getElem? (i := 1078) (by decide +kernel), List.mem_of_getElem? (i := 1079) (by decide +kernel)⟩
theorem lw_p13 : lw_okq (⟨"OneStrokeModel", "ago", "(II)I"⟩, 34) := ⟨⟨by decide +kernel, by decide +kernel⟩, List.mem_of_getElem? (i := 933) (by decide +kernel), List.mem_of_getElem? (i := 1082) (by decide +kernel), List.mem_of_getElem? (i := 1083) (by decide +kernel)⟩
theorem lw_p14 : lw_okq (⟨"OneStrokeModel", "counts", "(I)I"⟩, 34) := ⟨⟨by decide +kernel, by decide +kernel⟩, List.mem_of_getElem? (i := 933) (by decide +kernel), List.mem_of_getElem? (i := 1086) (by decide +kernel), List.mem_of_getElem? (i := 1087) (by decide +kernel)⟩
theorem lw_p15 : lw_okq (⟨"OneStrokeModel", "textAt", "(I)I"⟩, 34) := ⟨⟨by decide +kernel, by decide +kernel⟩, List.mem_of_getElem? (i := 933) (by decide +kernel), List.mem_of_getElem? (i := 1090) (by decide +kernel), List.mem_of_getElem? (i := 1091) (by decide +kernel)⟩
def lw_privs_1 : List (MethodName × Nat) := [(⟨"OneStroke", "isDrummer", "(I)Z"⟩, 13), (⟨"OneStroke", "think", "()V"⟩, 13), (⟨"OneStroke", "findMend", "(I)Z"⟩, 13), (⟨"OneStroke", "findMiscounted", "(LOneStroke$Sheet;I)Z"⟩, 13), (⟨"OneStroke", "differences", "(LOneStroke$Sheet;)I"⟩, 13), (⟨"OneStroke$Tape", "isSide", "(III)Z"⟩, 9), (⟨"OneStroke$Tape", "isPiece", "(II)Z"⟩, 9), (⟨"OneStrokeModel", "comes", "(II)V"⟩, 34), (⟨"OneStrokeModel", "sets", "(III)V"⟩, 34), (⟨"OneStrokeModel", "isDrummer", "(I)Z"⟩, 34), (⟨"OneStrokeModel", "of", "(II)I"⟩, 34), (⟨"OneStrokeModel", "hears", "(I)Z"⟩, 34), (⟨"OneStrokeModel", "left", "(I)I"⟩, 34), (⟨"OneStrokeModel", "ago", "(II)I"⟩, 34), (⟨"OneStrokeModel", "counts", "(I)I"⟩, 34), (⟨"OneStrokeModel", "textAt", "(I)I"⟩, 34)]
theorem lw_r1 : ∀ q ∈ lw_privs_1, lw_okq q := List.forall_mem_cons.mpr ⟨lw_p0, List.forall_mem_cons.mpr ⟨lw_p1, List.forall_mem_cons.mpr ⟨lw_p2, List.forall_mem_cons.mpr ⟨lw_p3, List.forall_mem_cons.mpr ⟨lw_p4, List.forall_mem_cons.mpr ⟨lw_p5, List.forall_mem_cons.mpr ⟨lw_p6, List.forall_mem_cons.mpr ⟨lw_p7, List.forall_mem_cons.mpr ⟨lw_p8, List.forall_mem_cons.mpr ⟨lw_p9, List.forall_mem_cons.mpr ⟨lw_p10, List.forall_mem_cons.mpr ⟨lw_p11, List.forall_mem_cons.mpr ⟨lw_p12, List.forall_mem_cons.mpr ⟨lw_p13, List.forall_mem_cons.mpr ⟨lw_p14, List.forall_mem_cons.mpr ⟨lw_p15, fun _ h => absurd h List.not_mem_nil⟩⟩⟩⟩⟩⟩⟩⟩⟩⟩⟩⟩⟩⟩⟩⟩
theorem lw_p16 : lw_okq (⟨"OneStrokeModel", "right", "(I)I"⟩, 34) := ⟨⟨by decide +kernel, by decide +kernel⟩, List.mem_of_getElem? (i := 933) (by decide +kernel), List.mem_of_getElem? (i := 1094) (by decide +kernel), List.mem_of_getElem? (i := 1095) (by decide +kernel)⟩
theorem lw_p17 : lw_okq (⟨"OneStrokeModel", "worked", "(I)I"⟩, 34) := ⟨⟨by decide +kernel, by decide +kernel⟩, List.mem_of_getElem? (i := 933) (by decide +kernel), List.mem_of_getElem? (i := 1098) (by decide +kernel), List.mem_of_getElem? (i := 1099) (by decide +kernel)⟩
theorem lw_p18 : lw_okq (⟨"OneStrokeModel", "wakes", "(I)I"⟩, 34) := ⟨⟨by decide +kernel, by decide +kernel⟩, List.mem_of_getElem? (i := 933) (by decide +kernel), List.mem_of_getElem? (i := 1105) (by decide +kernel), List.mem_of_getElem? (i := 1106) (by decide +kernel)⟩
theorem lw_p19 : lw_okq (⟨"OneStrokeModel", "stepFrom", "(II)I"⟩, 34) := ⟨⟨by decide +kernel, by decide +kernel⟩, List.mem_of_getElem? (i := 933) (by decide +kernel), List.mem_of_getElem? (i := 1112) (by decide +kernel), List.mem_of_getElem? (i := 1113) (by decide +kernel)⟩
theorem lw_p20 : lw_okq (⟨"OneStrokeModel", "worth", "(I)I"⟩, 34) := ⟨⟨by decide +kernel, by decide +kernel⟩, List.mem_of_getElem? (i := 933) (by decide +kernel), List.mem_of_getElem? (i := 1116) (by decide +kernel), List.mem_of_getElem? (i := 1117) (by decide +kernel)⟩
theorem lw_p21 : lw_okq (⟨"OneStrokeModel", "becomes", "(II)I"⟩, 34) := ⟨⟨by decide +kernel, by decide +kernel⟩, List.mem_of_getElem? (i := 933) (by decide +kernel), List.mem_of_getElem? (i := 1132) (by decide +kernel), List.mem_of_getElem? (i := 1133) (by decide +kernel)⟩
theorem lw_p22 : lw_okq (⟨"OneStrokeModel", "drawn", "()I"⟩, 34) := ⟨⟨by decide +kernel, by decide +kernel⟩, List.mem_of_getElem? (i := 933) (by decide +kernel), List.mem_of_getElem? (i := 1151) (by decide +kernel), List.mem_of_getElem? (i := 1152) (by decide +kernel)⟩
theorem lw_p23 : lw_okq (⟨"OneStrokeModel", "mayOrder", "(I)Z"⟩, 34) := ⟨⟨by decide +kernel, by decide +kernel⟩, List.mem_of_getElem? (i := 933) (by decide +kernel), List.mem_of_getElem? (i := 1164) (by decide +kernel), List.mem_of_getElem? (i := 1165) (by decide +kernel)⟩
theorem lw_p24 : lw_okq (⟨"OneStrokeModel", "orders", "(I)I"⟩, 34) := ⟨⟨by decide +kernel, by decide +kernel⟩, List.mem_of_getElem? (i := 933) (by decide +kernel), List.mem_of_getElem? (i := 1168) (by decide +kernel), List.mem_of_getElem? (i := 1169) (by decide +kernel)⟩
theorem lw_p25 : lw_okq (⟨"OneStrokeModel", "goesOn", "()I"⟩, 34) := ⟨⟨by decide +kernel, by decide +kernel⟩, List.mem_of_getElem? (i := 933) (by decide +kernel), List.mem_of_getElem? (i := 1181) (by decide +kernel), List.mem_of_getElem? (i := 1182) (by decide +kernel)⟩
theorem lw_p26 : lw_okq (⟨"OneStrokeModel", "laysBy", "()V"⟩, 34) := ⟨⟨by decide +kernel, by decide +kernel⟩, List.mem_of_getElem? (i := 933) (by decide +kernel), List.mem_of_getElem? (i := 1193) (by decide +kernel), List.mem_of_getElem? (i := 1194) (by decide +kernel)⟩
theorem lw_p27 : lw_okq (⟨"OneStrokeModel", "laysBack", "()V"⟩, 34) := ⟨⟨by decide +kernel, by decide +kernel⟩, List.mem_of_getElem? (i := 933) (by decide +kernel), List.mem_of_getElem? (i := 1197) (by decide +kernel), List.mem_of_getElem? (i := 1198) (by decide +kernel)⟩
theorem lw_p28 : lw_okq (⟨"OneStrokeModel", "firstOf", "(I)I"⟩, 34) := ⟨⟨by decide +kernel, by decide +kernel⟩, List.mem_of_getElem? (i := 933) (by decide +kernel), List.mem_of_getElem? (i := 1205) (by decide +kernel), List.mem_of_getElem? (i := 1206) (by decide +kernel)⟩
theorem lw_p29 : lw_okq (⟨"OneStrokeModel", "layFirsts", "(I)V"⟩, 34) := ⟨⟨by decide +kernel, by decide +kernel⟩, List.mem_of_getElem? (i := 933) (by decide +kernel), List.mem_of_getElem? (i := 1220) (by decide +kernel), List.mem_of_getElem? (i := 1221) (by decide +kernel)⟩
theorem lw_p30 : lw_okq (⟨"OneStrokeModel", "spreadOf", "()I"⟩, 34) := ⟨⟨by decide +kernel, by decide +kernel⟩, List.mem_of_getElem? (i := 933) (by decide +kernel), List.mem_of_getElem? (i := 1224) (by decide +kernel), List.mem_of_getElem? (i := 1225) (by decide +kernel)⟩
theorem lw_p31 : lw_okq (⟨"OneStrokeModel", "farOf", "(II)I"⟩, 34) := ⟨⟨by decide +kernel, by decide +kernel⟩, List.mem_of_getElem? (i := 933) (by decide +kernel), List.mem_of_getElem? (i := 1242) (by decide +kernel), List.mem_of_getElem? (i := 1243) (by decide +kernel)⟩
def lw_privs_2 : List (MethodName × Nat) := [(⟨"OneStrokeModel", "right", "(I)I"⟩, 34), (⟨"OneStrokeModel", "worked", "(I)I"⟩, 34), (⟨"OneStrokeModel", "wakes", "(I)I"⟩, 34), (⟨"OneStrokeModel", "stepFrom", "(II)I"⟩, 34), (⟨"OneStrokeModel", "worth", "(I)I"⟩, 34), (⟨"OneStrokeModel", "becomes", "(II)I"⟩, 34), (⟨"OneStrokeModel", "drawn", "()I"⟩, 34), (⟨"OneStrokeModel", "mayOrder", "(I)Z"⟩, 34), (⟨"OneStrokeModel", "orders", "(I)I"⟩, 34), (⟨"OneStrokeModel", "goesOn", "()I"⟩, 34), (⟨"OneStrokeModel", "laysBy", "()V"⟩, 34), (⟨"OneStrokeModel", "laysBack", "()V"⟩, 34), (⟨"OneStrokeModel", "firstOf", "(I)I"⟩, 34), (⟨"OneStrokeModel", "layFirsts", "(I)V"⟩, 34), (⟨"OneStrokeModel", "spreadOf", "()I"⟩, 34), (⟨"OneStrokeModel", "farOf", "(II)I"⟩, 34)]
theorem lw_r2 : ∀ q ∈ lw_privs_2, lw_okq q := List.forall_mem_cons.mpr ⟨lw_p16, List.forall_mem_cons.mpr ⟨lw_p17, List.forall_mem_cons.mpr ⟨lw_p18, List.forall_mem_cons.mpr ⟨lw_p19, List.forall_mem_cons.mpr ⟨lw_p20, List.forall_mem_cons.mpr ⟨lw_p21, List.forall_mem_cons.mpr ⟨lw_p22, List.forall_mem_cons.mpr ⟨lw_p23, List.forall_mem_cons.mpr ⟨lw_p24, List.forall_mem_cons.mpr ⟨lw_p25, List.forall_mem_cons.mpr ⟨lw_p26, List.forall_mem_cons.mpr ⟨lw_p27, List.forall_mem_cons.mpr ⟨lw_p28, List.forall_mem_cons.mpr ⟨lw_p29, List.forall_mem_cons.mpr ⟨lw_p30, List.forall_mem_cons.mpr ⟨lw_p31, fun _ h => absurd h List.not_mem_nil⟩⟩⟩⟩⟩⟩⟩⟩⟩⟩⟩⟩⟩⟩⟩⟩
theorem lw_p32 : lw_okq (⟨"OneStrokeModel", "strokesOfAll", "()I"⟩, 34) := ⟨⟨by decide +kernel, by decide +kernel⟩, List.mem_of_getElem? (i := 933) (by decide +kernel), List.mem_of_getElem? (i := 1259) (by decide +kernel), List.mem_of_getElem? (i := 1260) (by decide +kernel)⟩
theorem lw_p33 : lw_okq (⟨"OneStrokeModel", "parse", "()I"⟩, 34) := ⟨⟨by decide +kernel, by decide +kernel⟩, List.mem_of_getElem? (i := 933) (by decide +kernel), List.mem_of_getElem? (i := 1275) (by decide +kernel), List.mem_of_getElem? (i := 1276) (by decide +kernel)⟩
theorem lw_p34 : lw_okq (⟨"OneStrokeModel", "nextToken", "()V"⟩, 34) := ⟨⟨by decide +kernel, by decide +kernel⟩, List.mem_of_getElem? (i := 933) (by decide +kernel), List.mem_of_getElem? (i := 1279) (by decide +kernel), List.mem_of_getElem? (i := 1280) (by decide +kernel)⟩
theorem lw_p35 : lw_okq (⟨"OneStrokeModel", "isLetter", "(I)Z"⟩, 34) := ⟨⟨by decide +kernel, by decide +kernel⟩, List.mem_of_getElem? (i := 933) (by decide +kernel), List.mem_of_getElem? (i := 1283) (by decide +kernel), List.mem_of_getElem? (i := 1284) (by decide +kernel)⟩
theorem lw_p36 : lw_okq (⟨"OneStrokeModel", "isDigit", "(I)Z"⟩, 34) := ⟨⟨by decide +kernel, by decide +kernel⟩, List.mem_of_getElem? (i := 933) (by decide +kernel), List.mem_of_getElem? (i := 1289) (by decide +kernel), List.mem_of_getElem? (i := 1290) (by decide +kernel)⟩
theorem lw_p37 : lw_okq (⟨"OneStrokeModel", "key", "()I"⟩, 34) := ⟨⟨by decide +kernel, by decide +kernel⟩, List.mem_of_getElem? (i := 933) (by decide +kernel), List.mem_of_getElem? (i := 1295) (by decide +kernel), List.mem_of_getElem? (i := 1296) (by decide +kernel)⟩
theorem lw_p38 : lw_okq (⟨"OneStrokeModel", "isWordAt", "(IIII)Z"⟩, 34) := ⟨⟨by decide +kernel, by decide +kernel⟩, List.mem_of_getElem? (i := 933) (by decide +kernel), List.mem_of_getElem? (i := 1299) (by decide +kernel), List.mem_of_getElem? (i := 1300) (by decide +kernel)⟩
theorem lw_p39 : lw_okq (⟨"OneStrokeModel", "isLong", "(IIIIII)Z"⟩, 34) := ⟨⟨by decide +kernel, by decide +kernel⟩, List.mem_of_getElem? (i := 933) (by decide +kernel), List.mem_of_getElem? (i := 1303) (by decide +kernel), List.mem_of_getElem? (i := 1304) (by decide +kernel)⟩
theorem lw_p40 : lw_okq (⟨"OneStrokeModel", "either", "(I)Z"⟩, 34) := ⟨⟨by decide +kernel, by decide +kernel⟩, List.mem_of_getElem? (i := 933) (by decide +kernel), List.mem_of_getElem? (i := 1307) (by decide +kernel), List.mem_of_getElem? (i := 1308) (by decide +kernel)⟩
theorem lw_p41 : lw_okq (⟨"OneStrokeModel", "both", "(I)Z"⟩, 34) := ⟨⟨by decide +kernel, by decide +kernel⟩, List.mem_of_getElem? (i := 933) (by decide +kernel), List.mem_of_getElem? (i := 1311) (by decide +kernel), List.mem_of_getElem? (i := 1312) (by decide +kernel)⟩
theorem lw_p42 : lw_okq (⟨"OneStrokeModel", "test", "(I)Z"⟩, 34) := ⟨⟨by decide +kernel, by decide +kernel⟩, List.mem_of_getElem? (i := 933) (by decide +kernel), List.mem_of_getElem? (i := 1315) (by decide +kernel), List.mem_of_getElem? (i := 1316) (by decide +kernel)⟩
theorem lw_p43 : lw_okq (⟨"OneStrokeModel", "sum", "(I)Z"⟩, 34) := ⟨⟨by decide +kernel, by decide +kernel⟩, List.mem_of_getElem? (i := 933) (by decide +kernel), List.mem_of_getElem? (i := 1319) (by decide +kernel), List.mem_of_getElem? (i := 1320) (by decide +kernel)⟩
theorem lw_p44 : lw_okq (⟨"OneStrokeModel", "term", "(I)Z"⟩, 34) := ⟨⟨by decide +kernel, by decide +kernel⟩, List.mem_of_getElem? (i := 933) (by decide +kernel), List.mem_of_getElem? (i := 1323) (by decide +kernel), List.mem_of_getElem? (i := 1324) (by decide +kernel)⟩
theorem lw_p45 : lw_okq (⟨"OneStrokeModel", "part0", "(I)Z"⟩, 34) := ⟨⟨by decide +kernel, by decide +kernel⟩, List.mem_of_getElem? (i := 933) (by decide +kernel), List.mem_of_getElem? (i := 1327) (by decide +kernel), List.mem_of_getElem? (i := 1328) (by decide +kernel)⟩
theorem lw_p46 : lw_okq (⟨"OneStrokeModel", "step", "(II)V"⟩, 34) := ⟨⟨by decide +kernel, by decide +kernel⟩, List.mem_of_getElem? (i := 933) (by decide +kernel), List.mem_of_getElem? (i := 1331) (by decide +kernel), List.mem_of_getElem? (i := 1332) (by decide +kernel)⟩
theorem lw_p47 : lw_okq (⟨"OneStrokeModel", "isSign", "(I)Z"⟩, 34) := ⟨⟨by decide +kernel, by decide +kernel⟩, List.mem_of_getElem? (i := 933) (by decide +kernel), List.mem_of_getElem? (i := 1338) (by decide +kernel), List.mem_of_getElem? (i := 1339) (by decide +kernel)⟩
def lw_privs_3 : List (MethodName × Nat) := [(⟨"OneStrokeModel", "strokesOfAll", "()I"⟩, 34), (⟨"OneStrokeModel", "parse", "()I"⟩, 34), (⟨"OneStrokeModel", "nextToken", "()V"⟩, 34), (⟨"OneStrokeModel", "isLetter", "(I)Z"⟩, 34), (⟨"OneStrokeModel", "isDigit", "(I)Z"⟩, 34), (⟨"OneStrokeModel", "key", "()I"⟩, 34), (⟨"OneStrokeModel", "isWordAt", "(IIII)Z"⟩, 34), (⟨"OneStrokeModel", "isLong", "(IIIIII)Z"⟩, 34), (⟨"OneStrokeModel", "either", "(I)Z"⟩, 34), (⟨"OneStrokeModel", "both", "(I)Z"⟩, 34), (⟨"OneStrokeModel", "test", "(I)Z"⟩, 34), (⟨"OneStrokeModel", "sum", "(I)Z"⟩, 34), (⟨"OneStrokeModel", "term", "(I)Z"⟩, 34), (⟨"OneStrokeModel", "part0", "(I)Z"⟩, 34), (⟨"OneStrokeModel", "step", "(II)V"⟩, 34), (⟨"OneStrokeModel", "isSign", "(I)Z"⟩, 34)]
theorem lw_r3 : ∀ q ∈ lw_privs_3, lw_okq q := List.forall_mem_cons.mpr ⟨lw_p32, List.forall_mem_cons.mpr ⟨lw_p33, List.forall_mem_cons.mpr ⟨lw_p34, List.forall_mem_cons.mpr ⟨lw_p35, List.forall_mem_cons.mpr ⟨lw_p36, List.forall_mem_cons.mpr ⟨lw_p37, List.forall_mem_cons.mpr ⟨lw_p38, List.forall_mem_cons.mpr ⟨lw_p39, List.forall_mem_cons.mpr ⟨lw_p40, List.forall_mem_cons.mpr ⟨lw_p41, List.forall_mem_cons.mpr ⟨lw_p42, List.forall_mem_cons.mpr ⟨lw_p43, List.forall_mem_cons.mpr ⟨lw_p44, List.forall_mem_cons.mpr ⟨lw_p45, List.forall_mem_cons.mpr ⟨lw_p46, List.forall_mem_cons.mpr ⟨lw_p47, fun _ h => absurd h List.not_mem_nil⟩⟩⟩⟩⟩⟩⟩⟩⟩⟩⟩⟩⟩⟩⟩⟩
theorem lw_p48 : lw_okq (⟨"OneStrokeModel", "isText", "(I)Z"⟩, 34) := ⟨⟨by decide +kernel, by decide +kernel⟩, List.mem_of_getElem? (i := 933) (by decide +kernel), List.mem_of_getElem? (i := 1346) (by decide +kernel), List.mem_of_getElem? (i := 1347) (by decide +kernel)⟩
theorem lw_p49 : lw_okq (⟨"OneStrokeModel", "setAside", "([I[I)V"⟩, 34) := ⟨⟨by decide +kernel, by decide +kernel⟩, List.mem_of_getElem? (i := 933) (by decide +kernel), List.mem_of_getElem? (i := 1418) (by decide +kernel), List.mem_of_getElem? (i := 1419) (by decide +kernel)⟩
theorem lw_p50 : lw_okq (⟨"OneStrokeModel", "countsOfAll", "()I"⟩, 34) := ⟨⟨by decide +kernel, by decide +kernel⟩, List.mem_of_getElem? (i := 933) (by decide +kernel), List.mem_of_getElem? (i := 1422) (by decide +kernel), List.mem_of_getElem? (i := 1423) (by decide +kernel)⟩
theorem lw_p51 : lw_okq (⟨"OneStrokeModel", "counting", "()I"⟩, 34) := ⟨⟨by decide +kernel, by decide +kernel⟩, List.mem_of_getElem? (i := 933) (by decide +kernel), List.mem_of_getElem? (i := 1438) (by decide +kernel), List.mem_of_getElem? (i := 1439) (by decide +kernel)⟩
def lw_privs_4 : List (MethodName × Nat) := [(⟨"OneStrokeModel", "isText", "(I)Z"⟩, 34), (⟨"OneStrokeModel", "setAside", "([I[I)V"⟩, 34), (⟨"OneStrokeModel", "countsOfAll", "()I"⟩, 34), (⟨"OneStrokeModel", "counting", "()I"⟩, 34)]
theorem lw_r4 : ∀ q ∈ lw_privs_4, lw_okq q := List.forall_mem_cons.mpr ⟨lw_p48, List.forall_mem_cons.mpr ⟨lw_p49, List.forall_mem_cons.mpr ⟨lw_p50, List.forall_mem_cons.mpr ⟨lw_p51, fun _ h => absurd h List.not_mem_nil⟩⟩⟩⟩
def lw_privs : List (MethodName × Nat) := lw_privs_1 ++ (lw_privs_2 ++ (lw_privs_3 ++ (lw_privs_4)))
def lw_tbl : List Cond := k2_sels lw_privs ++ tables_1
theorem lw_privs_ok : ∀ q ∈ lw_privs, lw_okq q := by
  show ∀ q ∈ lw_privs_1 ++ (lw_privs_2 ++ (lw_privs_3 ++ (lw_privs_4))), lw_okq q
  exact List.forall_mem_append.mpr ⟨lw_r1, List.forall_mem_append.mpr ⟨lw_r2, List.forall_mem_append.mpr ⟨lw_r3, lw_r4⟩⟩⟩
theorem goodIn_r {big : List Cond} (ws : List Cond) (ps : List Nat) (hp : ws = ps.filterMap (fun i => big[i]?)) (h : ws.all goodWord = true) : GoodIn big ws := by
  intro w hw
  have h1 := List.all_eq_true.mp h w hw
  rw [hp] at hw
  obtain ⟨i, -, hi⟩ := List.mem_filterMap.mp hw
  have hm : w ∈ big := by first | exact List.mem_of_getElem? hi | exact List.getElem?_mem hi
  exact ⟨hm, good_of_word h1⟩
theorem goodIn_app {big a b : List Cond} (ha : GoodIn big a) (hb : GoodIn big b) : GoodIn big (a ++ b) := fun w h => (List.mem_append.mp h).elim (ha w) (hb w)
theorem goodIn_ca {big a b : List Cond} {c : Cond} (ha : GoodIn big (c :: a)) (hb : GoodIn big b) : GoodIn big (c :: (a ++ b)) := fun w h => (List.mem_cons.mp h).elim (fun e => ha w (List.mem_cons.mpr (Or.inl e))) (fun h => (List.mem_append.mp h).elim (fun h => ha w (List.mem_cons.mpr (Or.inr h))) (hb w))
theorem goodIn_sub {big ws : List Cond} (hm : ∀ w ∈ ws, w ∈ big) (h : ws.all goodWord = true) : GoodIn big ws := fun w hw => ⟨hm w hw, good_of_word (List.all_eq_true.mp h w hw)⟩
def RX0 : String := "OneStroke$Deaf"
def TX0 : u_T := fun k => match k with
  | _ => ("", "", "", false)
def tyX0 : Nat → FieldType := fun k => match k with
  | _ => .int
abbrev wsX00 : List Cond := u_ws RX0 TX0 0
theorem nmX0 : ∀ a, a < 0 → ∀ b, b < 0 → a ≠ b → (TX0 a).2.1 ≠ (TX0 b).2.1 := by decide +kernel
theorem tyX0_ok : ∀ k, k < 0 → parseFieldDescriptor (TX0 k).2.2.1 = some (tyX0 k) := by decide +kernel
abbrev cX0_init : ByteArray := prog_2_method_1_code
def yX0_init : MethodName := ⟨RX0, "<init>", "()V"⟩
abbrev cX0_hears : ByteArray := prog_2_method_2_code
def yX0_hears : MethodName := ⟨RX0, "hears", "(LOneStroke$Line;I)Z"⟩
abbrev cX0_worth : ByteArray := prog_2_method_3_code
def yX0_worth : MethodName := ⟨RX0, "worth", "(I)I"⟩
def RX1 : String := "OneStroke$Drummer"
def TX1 : u_T := fun k => match k with
  | 0 => ("OneStroke$Drummer", "kind", "I", false)
  | 1 => ("OneStroke$Drummer", "start", "I", false)
  | 2 => ("OneStroke$Drummer", "count", "I", false)
  | 3 => ("OneStroke$Drummer", "ago1", "I", false)
  | 4 => ("OneStroke$Drummer", "ago2", "I", false)
  | 5 => ("OneStroke$Drummer", "strokes", "I", false)
  | 6 => ("OneStroke$Drummer", "apart", "I", false)
  | _ => ("OneStroke$Drummer", "first", "I", false)
def tyX1 : Nat → FieldType := fun k => match k with
  | 0 => .int
  | 1 => .int
  | 2 => .int
  | 3 => .int
  | 4 => .int
  | 5 => .int
  | 6 => .int
  | _ => .int
abbrev wsX10 : List Cond := u_ws RX1 TX1 8
theorem nmX1 : ∀ a, a < 8 → ∀ b, b < 8 → a ≠ b → (TX1 a).2.1 ≠ (TX1 b).2.1 := by decide +kernel
theorem tyX1_ok : ∀ k, k < 8 → parseFieldDescriptor (TX1 k).2.2.1 = some (tyX1 k) := by decide +kernel
abbrev cX1_init : ByteArray := prog_3_method_1_code
def yX1_init : MethodName := ⟨RX1, "<init>", "()V"⟩
abbrev cX1_begin : ByteArray := prog_3_method_2_code
def yX1_begin : MethodName := ⟨RX1, "begin", "(II)V"⟩
abbrev cX1_fallStill : ByteArray := prog_3_method_3_code
def yX1_fallStill : MethodName := ⟨RX1, "fallStill", "()V"⟩
abbrev cX1_setAs : ByteArray := prog_3_method_4_code
def yX1_setAs : MethodName := ⟨RX1, "setAs", "(LOneStroke$Drummer;)V"⟩
abbrev cX1_countAgo : ByteArray := prog_3_method_5_code
def yX1_countAgo : MethodName := ⟨RX1, "countAgo", "(I)I"⟩
abbrev cX1_moves : ByteArray := prog_3_method_6_code
def yX1_moves : MethodName := ⟨RX1, "moves", "(II)Z"⟩
def RX2 : String := "OneStroke$Eager"
def TX2 : u_T := fun k => match k with
  | _ => ("", "", "", false)
def tyX2 : Nat → FieldType := fun k => match k with
  | _ => .int
abbrev wsX20 : List Cond := u_ws RX2 TX2 0
theorem nmX2 : ∀ a, a < 0 → ∀ b, b < 0 → a ≠ b → (TX2 a).2.1 ≠ (TX2 b).2.1 := by decide +kernel
theorem tyX2_ok : ∀ k, k < 0 → parseFieldDescriptor (TX2 k).2.2.1 = some (tyX2 k) := by decide +kernel
abbrev cX2_init : ByteArray := prog_4_method_1_code
def yX2_init : MethodName := ⟨RX2, "<init>", "()V"⟩
abbrev cX2_wakesFrom : ByteArray := prog_4_method_2_code
def yX2_wakesFrom : MethodName := ⟨RX2, "wakesFrom", "(I)I"⟩
abbrev cX2_worth : ByteArray := prog_4_method_3_code
def yX2_worth : MethodName := ⟨RX2, "worth", "(I)I"⟩
def RX3 : String := "OneStroke$Kind"
def TX3 : u_T := fun k => match k with
  | _ => ("", "", "", false)
def tyX3 : Nat → FieldType := fun k => match k with
  | _ => .int
abbrev wsX30 : List Cond := u_ws RX3 TX3 0
theorem nmX3 : ∀ a, a < 0 → ∀ b, b < 0 → a ≠ b → (TX3 a).2.1 ≠ (TX3 b).2.1 := by decide +kernel
theorem tyX3_ok : ∀ k, k < 0 → parseFieldDescriptor (TX3 k).2.2.1 = some (tyX3 k) := by decide +kernel
abbrev cX3_init : ByteArray := prog_5_method_1_code
def yX3_init : MethodName := ⟨RX3, "<init>", "()V"⟩
abbrev cX3_hears : ByteArray := prog_5_method_2_code
def yX3_hears : MethodName := ⟨RX3, "hears", "(LOneStroke$Line;I)Z"⟩
abbrev cX3_wakesFrom : ByteArray := prog_5_method_3_code
def yX3_wakesFrom : MethodName := ⟨RX3, "wakesFrom", "(I)I"⟩
abbrev cX3_stepFrom : ByteArray := prog_5_method_4_code
def yX3_stepFrom : MethodName := ⟨RX3, "stepFrom", "(II)I"⟩
abbrev cX3_worth : ByteArray := prog_5_method_5_code
def yX3_worth : MethodName := ⟨RX3, "worth", "(I)I"⟩
def RX4 : String := "OneStroke$Late"
def TX4 : u_T := fun k => match k with
  | _ => ("", "", "", false)
def tyX4 : Nat → FieldType := fun k => match k with
  | _ => .int
abbrev wsX40 : List Cond := u_ws RX4 TX4 0
theorem nmX4 : ∀ a, a < 0 → ∀ b, b < 0 → a ≠ b → (TX4 a).2.1 ≠ (TX4 b).2.1 := by decide +kernel
theorem tyX4_ok : ∀ k, k < 0 → parseFieldDescriptor (TX4 k).2.2.1 = some (tyX4 k) := by decide +kernel
abbrev cX4_init : ByteArray := prog_6_method_1_code
def yX4_init : MethodName := ⟨RX4, "<init>", "()V"⟩
abbrev cX4_wakesFrom : ByteArray := prog_6_method_2_code
def yX4_wakesFrom : MethodName := ⟨RX4, "wakesFrom", "(I)I"⟩
abbrev cX4_worth : ByteArray := prog_6_method_3_code
def yX4_worth : MethodName := ⟨RX4, "worth", "(I)I"⟩
def RX5 : String := "OneStroke$Line"
def TX5 : u_T := fun k => match k with
  | 0 => ("OneStroke$Line", "kinds", "[LOneStroke$Kind;", true)
  | 1 => ("OneStroke$Line", "drummers", "[LOneStroke$Drummer;", true)
  | 2 => ("OneStroke$Line", "texts", "[LOneStroke$Text;", true)
  | 3 => ("OneStroke$Line", "laws", "[I", true)
  | 4 => ("OneStroke$Line", "size", "I", false)
  | 5 => ("OneStroke$Line", "beat", "I", false)
  | 6 => ("OneStroke$Line", "miss", "I", false)
  | 7 => ("OneStroke$Line", "z", "I", false)
  | _ => ("OneStroke$Line", "textCount", "I", false)
def tyX5 : Nat → FieldType := fun k => match k with
  | 0 => .array (.object "OneStroke$Kind")
  | 1 => .array (.object "OneStroke$Drummer")
  | 2 => .array (.object "OneStroke$Text")
  | 3 => .array .int
  | 4 => .int
  | 5 => .int
  | 6 => .int
  | 7 => .int
  | _ => .int
abbrev wsX50 : List Cond := u_ws RX5 TX5 9
theorem nmX5 : ∀ a, a < 9 → ∀ b, b < 9 → a ≠ b → (TX5 a).2.1 ≠ (TX5 b).2.1 := by decide +kernel
theorem tyX5_ok : ∀ k, k < 9 → parseFieldDescriptor (TX5 k).2.2.1 = some (tyX5 k) := by decide +kernel
abbrev cX5_init : ByteArray := prog_7_method_1_code
def yX5_init : MethodName := ⟨RX5, "<init>", "([LOneStroke$Kind;)V"⟩
abbrev cX5_become : ByteArray := prog_7_method_2_code
def yX5_become : MethodName := ⟨RX5, "become", "(LOneStroke$Line;)V"⟩
abbrev cX5_join : ByteArray := prog_7_method_3_code
def yX5_join : MethodName := ⟨RX5, "join", "(II)I"⟩
abbrev cX5_kindOf : ByteArray := prog_7_method_4_code
def yX5_kindOf : MethodName := ⟨RX5, "kindOf", "(LOneStroke$Drummer;)LOneStroke$Kind;"⟩
abbrev cX5_takeLaw : ByteArray := prog_7_method_5_code
def yX5_takeLaw : MethodName := ⟨RX5, "takeLaw", "(LOneStroke$Text;)I"⟩
abbrev cX5_lawOf : ByteArray := prog_7_method_6_code
def yX5_lawOf : MethodName := ⟨RX5, "lawOf", "(I)LOneStroke$Text;"⟩
abbrev cX5_draw : ByteArray := prog_7_method_7_code
def yX5_draw : MethodName := ⟨RX5, "draw", "()I"⟩
abbrev cX5_soundFrom : ByteArray := prog_7_method_8_code
def yX5_soundFrom : MethodName := ⟨RX5, "soundFrom", "(II)I"⟩
abbrev cX5_hearGives : ByteArray := prog_7_method_9_code
def yX5_hearGives : MethodName := ⟨RX5, "hearGives", "(I)I"⟩
abbrev cX5_wakesTo : ByteArray := prog_7_method_10_code
def yX5_wakesTo : MethodName := ⟨RX5, "wakesTo", "(I)I"⟩
abbrev cX5_wake : ByteArray := prog_7_method_11_code
def yX5_wake : MethodName := ⟨RX5, "wake", "(I)V"⟩
abbrev cX5_passOne : ByteArray := prog_7_method_12_code
def yX5_passOne : MethodName := ⟨RX5, "passOne", "()I"⟩
abbrev cX5_nextCount : ByteArray := prog_7_method_13_code
def yX5_nextCount : MethodName := ⟨RX5, "nextCount", "(IZ)I"⟩
abbrev cX5_pass : ByteArray := prog_7_method_14_code
def yX5_pass : MethodName := ⟨RX5, "pass", "(I)I"⟩
abbrev cX5_firstWithStriking : ByteArray := prog_7_method_15_code
def yX5_firstWithStriking : MethodName := ⟨RX5, "firstWithStriking", "(I)I"⟩
abbrev cX5_mostAtOnce : ByteArray := prog_7_method_16_code
def yX5_mostAtOnce : MethodName := ⟨RX5, "mostAtOnce", "(I)I"⟩
abbrev cX5_spreadIn : ByteArray := prog_7_method_17_code
def yX5_spreadIn : MethodName := ⟨RX5, "spreadIn", "(I)I"⟩
abbrev cX5_beatsBetween : ByteArray := prog_7_method_18_code
def yX5_beatsBetween : MethodName := ⟨RX5, "beatsBetween", "(II)I"⟩
abbrev cX5_counting : ByteArray := prog_7_method_19_code
def yX5_counting : MethodName := ⟨RX5, "counting", "()I"⟩
abbrev cX5_countsOfAll : ByteArray := prog_7_method_20_code
def yX5_countsOfAll : MethodName := ⟨RX5, "countsOfAll", "()I"⟩
abbrev cX5_strokesOfAll : ByteArray := prog_7_method_21_code
def yX5_strokesOfAll : MethodName := ⟨RX5, "strokesOfAll", "()I"⟩
def RX6 : String := "OneStroke$Sheet"
def TX6 : u_T := fun k => match k with
  | 0 => ("OneStroke$Sheet", "sort", "I", false)
  | 1 => ("OneStroke$Sheet", "size", "I", false)
  | _ => ("OneStroke$Sheet", "places", "[I", true)
def tyX6 : Nat → FieldType := fun k => match k with
  | 0 => .int
  | 1 => .int
  | _ => .array .int
abbrev wsX60 : List Cond := u_ws RX6 TX6 3
theorem nmX6 : ∀ a, a < 3 → ∀ b, b < 3 → a ≠ b → (TX6 a).2.1 ≠ (TX6 b).2.1 := by decide +kernel
theorem tyX6_ok : ∀ k, k < 3 → parseFieldDescriptor (TX6 k).2.2.1 = some (tyX6 k) := by decide +kernel
abbrev cX6_init : ByteArray := prog_8_method_1_code
def yX6_init : MethodName := ⟨RX6, "<init>", "()V"⟩
abbrev cX6_begin : ByteArray := prog_8_method_2_code
def yX6_begin : MethodName := ⟨RX6, "begin", "(II)V"⟩
abbrev cX6_fillAs : ByteArray := prog_8_method_3_code
def yX6_fillAs : MethodName := ⟨RX6, "fillAs", "(LOneStroke$Sheet;)V"⟩
abbrev cX6_isMissing : ByteArray := prog_8_method_4_code
def yX6_isMissing : MethodName := ⟨RX6, "isMissing", "()Z"⟩
abbrev cX6_hasPlace : ByteArray := prog_8_method_5_code
def yX6_hasPlace : MethodName := ⟨RX6, "hasPlace", "(I)Z"⟩
abbrev cX6_hasPlaces : ByteArray := prog_8_method_6_code
def yX6_hasPlaces : MethodName := ⟨RX6, "hasPlaces", "(II)Z"⟩
abbrev cX6_hasNumber : ByteArray := prog_8_method_7_code
def yX6_hasNumber : MethodName := ⟨RX6, "hasNumber", "(I)Z"⟩
def RX7 : String := "OneStroke$Sleepy"
def TX7 : u_T := fun k => match k with
  | _ => ("", "", "", false)
def tyX7 : Nat → FieldType := fun k => match k with
  | _ => .int
abbrev wsX70 : List Cond := u_ws RX7 TX7 0
theorem nmX7 : ∀ a, a < 0 → ∀ b, b < 0 → a ≠ b → (TX7 a).2.1 ≠ (TX7 b).2.1 := by decide +kernel
theorem tyX7_ok : ∀ k, k < 0 → parseFieldDescriptor (TX7 k).2.2.1 = some (tyX7 k) := by decide +kernel
abbrev cX7_init : ByteArray := prog_9_method_1_code
def yX7_init : MethodName := ⟨RX7, "<init>", "()V"⟩
abbrev cX7_stepFrom : ByteArray := prog_9_method_2_code
def yX7_stepFrom : MethodName := ⟨RX7, "stepFrom", "(II)I"⟩
abbrev cX7_worth : ByteArray := prog_9_method_3_code
def yX7_worth : MethodName := ⟨RX7, "worth", "(I)I"⟩
def RX8 : String := "OneStroke$Tape"
def TX8 : u_T := fun k => match k with
  | 0 => ("OneStroke$Tape", "bytes", "[B", true)
  | 1 => ("OneStroke$Tape", "length", "I", false)
  | 2 => ("OneStroke$Tape", "from", "I", false)
  | 3 => ("OneStroke$Tape", "after", "I", false)
  | 4 => ("OneStroke$Tape", "token", "I", false)
  | 5 => ("OneStroke$Tape", "key", "I", false)
  | 6 => ("OneStroke$Tape", "operands", "I", false)
  | 7 => ("OneStroke$Tape", "codeCount", "I", false)
  | _ => ("OneStroke$Tape", "codes", "[I", true)
def tyX8 : Nat → FieldType := fun k => match k with
  | 0 => .array .byte
  | 1 => .int
  | 2 => .int
  | 3 => .int
  | 4 => .int
  | 5 => .int
  | 6 => .int
  | 7 => .int
  | _ => .array .int
abbrev wsX80 : List Cond := u_ws RX8 TX8 9
theorem nmX8 : ∀ a, a < 9 → ∀ b, b < 9 → a ≠ b → (TX8 a).2.1 ≠ (TX8 b).2.1 := by decide +kernel
theorem tyX8_ok : ∀ k, k < 9 → parseFieldDescriptor (TX8 k).2.2.1 = some (tyX8 k) := by decide +kernel
abbrev cX8_init : ByteArray := prog_10_method_1_code
def yX8_init : MethodName := ⟨RX8, "<init>", "()V"⟩
abbrev cX8_takeIn : ByteArray := prog_10_method_2_code
def yX8_takeIn : MethodName := ⟨RX8, "takeIn", "(I)V"⟩
abbrev cX8_readText : ByteArray := prog_10_method_3_code
def yX8_readText : MethodName := ⟨RX8, "readText", "()LOneStroke$Text;"⟩
abbrev cX8_isText : ByteArray := prog_10_method_4_code
def yX8_isText : MethodName := ⟨RX8, "isText", "()Z"⟩
abbrev cX8_isKey : ByteArray := prog_10_method_5_code
def yX8_isKey : MethodName := ⟨RX8, "isKey", "()Z"⟩
abbrev cX8_isTheWord : ByteArray := prog_10_method_6_code
def yX8_isTheWord : MethodName := ⟨RX8, "isTheWord", "(Ljava/lang/String;)Z"⟩
abbrev cX8_isSide : ByteArray := prog_10_method_7_code
def yX8_isSide : MethodName := ⟨RX8, "isSide", "(III)Z"⟩
abbrev cX8_levelOf : ByteArray := prog_10_method_8_code
def yX8_levelOf : MethodName := ⟨RX8, "levelOf", "(I)I"⟩
abbrev cX8_isPiece : ByteArray := prog_10_method_9_code
def yX8_isPiece : MethodName := ⟨RX8, "isPiece", "(II)Z"⟩
abbrev cX8_isName : ByteArray := prog_10_method_10_code
def yX8_isName : MethodName := ⟨RX8, "isName", "()Z"⟩
abbrev cX8_number : ByteArray := prog_10_method_11_code
def yX8_number : MethodName := ⟨RX8, "number", "()I"⟩
abbrev cX8_takes : ByteArray := prog_10_method_12_code
def yX8_takes : MethodName := ⟨RX8, "takes", "(I)Z"⟩
abbrev cX8_write : ByteArray := prog_10_method_13_code
def yX8_write : MethodName := ⟨RX8, "write", "(I)V"⟩
abbrev cX8_next : ByteArray := prog_10_method_14_code
def yX8_next : MethodName := ⟨RX8, "next", "()V"⟩
abbrev cX8_isWord : ByteArray := prog_10_method_15_code
def yX8_isWord : MethodName := ⟨RX8, "isWord", "()Z"⟩
abbrev cX8_byteAt : ByteArray := prog_10_method_16_code
def yX8_byteAt : MethodName := ⟨RX8, "byteAt", "(I)I"⟩
abbrev cX8_isLetter : ByteArray := prog_10_method_17_code
def yX8_isLetter : MethodName := ⟨RX8, "isLetter", "(I)Z"⟩
abbrev cX8_isDigit : ByteArray := prog_10_method_18_code
def yX8_isDigit : MethodName := ⟨RX8, "isDigit", "(I)Z"⟩
def RX9 : String := "OneStroke$Text"
def TX9 : u_T := fun k => match k with
  | 0 => ("OneStroke$Text", "key", "I", true)
  | 1 => ("OneStroke$Text", "operands", "I", true)
  | 2 => ("OneStroke$Text", "codes", "[I", true)
  | _ => ("OneStroke$Text", "stack", "[I", true)
def tyX9 : Nat → FieldType := fun k => match k with
  | 0 => .int
  | 1 => .int
  | 2 => .array .int
  | _ => .array .int
abbrev wsX90 : List Cond := u_ws RX9 TX9 4
theorem nmX9 : ∀ a, a < 4 → ∀ b, b < 4 → a ≠ b → (TX9 a).2.1 ≠ (TX9 b).2.1 := by decide +kernel
theorem tyX9_ok : ∀ k, k < 4 → parseFieldDescriptor (TX9 k).2.2.1 = some (tyX9 k) := by decide +kernel
abbrev cX9_init : ByteArray := prog_11_method_1_code
def yX9_init : MethodName := ⟨RX9, "<init>", "(II[I)V"⟩
abbrev cX9_wordOf : ByteArray := prog_11_method_2_code
def yX9_wordOf : MethodName := ⟨RX9, "wordOf", "(I)Ljava/lang/String;"⟩
abbrev cX9_namesOf : ByteArray := prog_11_method_3_code
def yX9_namesOf : MethodName := ⟨RX9, "namesOf", "(I)Ljava/lang/String;"⟩
abbrev cX9_gives : ByteArray := prog_11_method_4_code
def yX9_gives : MethodName := ⟨RX9, "gives", "(III)I"⟩
abbrev cX9_joined : ByteArray := prog_11_method_5_code
def yX9_joined : MethodName := ⟨RX9, "joined", "(III)I"⟩
def RX10 : String := "OneStroke$Traitor"
def TX10 : u_T := fun k => match k with
  | _ => ("", "", "", false)
def tyX10 : Nat → FieldType := fun k => match k with
  | _ => .int
abbrev wsX100 : List Cond := u_ws RX10 TX10 0
theorem nmX10 : ∀ a, a < 0 → ∀ b, b < 0 → a ≠ b → (TX10 a).2.1 ≠ (TX10 b).2.1 := by decide +kernel
theorem tyX10_ok : ∀ k, k < 0 → parseFieldDescriptor (TX10 k).2.2.1 = some (tyX10 k) := by decide +kernel
abbrev cX10_init : ByteArray := prog_12_method_1_code
def yX10_init : MethodName := ⟨RX10, "<init>", "()V"⟩
abbrev cX10_stepFrom : ByteArray := prog_12_method_2_code
def yX10_stepFrom : MethodName := ⟨RX10, "stepFrom", "(II)I"⟩
abbrev cX10_worth : ByteArray := prog_12_method_3_code
def yX10_worth : MethodName := ⟨RX10, "worth", "(I)I"⟩
def RX11 : String := "OneStroke"
def TX11 : u_T := fun k => match k with
  | 0 => ("OneStroke", "now", "LOneStroke$Line;", true)
  | 1 => ("OneStroke", "image", "LOneStroke$Line;", true)
  | 2 => ("OneStroke", "thought", "LOneStroke$Line;", true)
  | 3 => ("OneStroke", "imageKept", "Z", false)
  | 4 => ("OneStroke", "tape", "LOneStroke$Tape;", true)
  | 5 => ("OneStroke", "sheets", "[LOneStroke$Sheet;", true)
  | 6 => ("OneStroke", "held", "[I", true)
  | 7 => ("OneStroke", "heldNumbers", "[I", true)
  | 8 => ("OneStroke", "heldDrummers", "[LOneStroke$Drummer;", true)
  | 9 => ("OneStroke", "heldSheets", "[LOneStroke$Sheet;", true)
  | 10 => ("OneStroke", "waiting", "[I", true)
  | 11 => ("OneStroke", "waits", "I", false)
  | _ => ("OneStroke", "found", "[I", true)
def tyX11 : Nat → FieldType := fun k => match k with
  | 0 => .object "OneStroke$Line"
  | 1 => .object "OneStroke$Line"
  | 2 => .object "OneStroke$Line"
  | 3 => .boolean
  | 4 => .object "OneStroke$Tape"
  | 5 => .array (.object "OneStroke$Sheet")
  | 6 => .array .int
  | 7 => .array .int
  | 8 => .array (.object "OneStroke$Drummer")
  | 9 => .array (.object "OneStroke$Sheet")
  | 10 => .array .int
  | 11 => .int
  | _ => .array .int
abbrev wsX110 : List Cond := u_ws RX11 TX11 13
theorem nmX11 : ∀ a, a < 13 → ∀ b, b < 13 → a ≠ b → (TX11 a).2.1 ≠ (TX11 b).2.1 := by decide +kernel
theorem tyX11_ok : ∀ k, k < 13 → parseFieldDescriptor (TX11 k).2.2.1 = some (tyX11 k) := by decide +kernel
abbrev cX11_init : ByteArray := prog_1_method_1_code
def yX11_init : MethodName := ⟨RX11, "<init>", "()V"⟩
abbrev cX11_drummer : ByteArray := prog_1_method_2_code
def yX11_drummer : MethodName := ⟨RX11, "drummer", "(II)I"⟩
abbrev cX11_told : ByteArray := prog_1_method_3_code
def yX11_told : MethodName := ⟨RX11, "told", "(II)I"⟩
abbrev cX11_as : ByteArray := prog_1_method_4_code
def yX11_as : MethodName := ⟨RX11, "as", "(II)I"⟩
abbrev cX11_turns : ByteArray := prog_1_method_5_code
def yX11_turns : MethodName := ⟨RX11, "turns", "(II)I"⟩
abbrev cX11_set : ByteArray := prog_1_method_6_code
def yX11_set : MethodName := ⟨RX11, "set", "(III)I"⟩
abbrev cX11_miss : ByteArray := prog_1_method_7_code
def yX11_miss : MethodName := ⟨RX11, "miss", "(I)I"⟩
abbrev cX11_deal : ByteArray := prog_1_method_8_code
def yX11_deal : MethodName := ⟨RX11, "deal", "(I)I"⟩
abbrev cX11_seed : ByteArray := prog_1_method_9_code
def yX11_seed : MethodName := ⟨RX11, "seed", "(I)I"⟩
abbrev cX11_order : ByteArray := prog_1_method_10_code
def yX11_order : MethodName := ⟨RX11, "order", "(I)I"⟩
abbrev cX11_hush : ByteArray := prog_1_method_11_code
def yX11_hush : MethodName := ⟨RX11, "hush", "()I"⟩
abbrev cX11_beats : ByteArray := prog_1_method_12_code
def yX11_beats : MethodName := ⟨RX11, "beats", "(I)I"⟩
abbrev cX11_behind : ByteArray := prog_1_method_13_code
def yX11_behind : MethodName := ⟨RX11, "behind", "(III)I"⟩
abbrev cX11_soon : ByteArray := prog_1_method_14_code
def yX11_soon : MethodName := ⟨RX11, "soon", "()I"⟩
abbrev cX11_all : ByteArray := prog_1_method_15_code
def yX11_all : MethodName := ⟨RX11, "all", "()I"⟩
abbrev cX11_spread : ByteArray := prog_1_method_16_code
def yX11_spread : MethodName := ⟨RX11, "spread", "(I)I"⟩
abbrev cX11_toWhom : ByteArray := prog_1_method_17_code
def yX11_toWhom : MethodName := ⟨RX11, "toWhom", "(I)I"⟩
abbrev cX11_mend : ByteArray := prog_1_method_18_code
def yX11_mend : MethodName := ⟨RX11, "mend", "(II)I"⟩
abbrev cX11_far : ByteArray := prog_1_method_19_code
def yX11_far : MethodName := ⟨RX11, "far", "(II)I"⟩
abbrev cX11_reach : ByteArray := prog_1_method_20_code
def yX11_reach : MethodName := ⟨RX11, "reach", "(II)I"⟩
abbrev cX11_edge : ByteArray := prog_1_method_21_code
def yX11_edge : MethodName := ⟨RX11, "edge", "(I)I"⟩
abbrev cX11_miscounted : ByteArray := prog_1_method_22_code
def yX11_miscounted : MethodName := ⟨RX11, "miscounted", "(III)I"⟩
abbrev cX11_fine : ByteArray := prog_1_method_23_code
def yX11_fine : MethodName := ⟨RX11, "fine", "()I"⟩
abbrev cX11_feed : ByteArray := prog_1_method_24_code
def yX11_feed : MethodName := ⟨RX11, "feed", "(III)I"⟩
abbrev cX11_trim : ByteArray := prog_1_method_25_code
def yX11_trim : MethodName := ⟨RX11, "trim", "(I)I"⟩
abbrev cX11_text : ByteArray := prog_1_method_26_code
def yX11_text : MethodName := ⟨RX11, "text", "()I"⟩
abbrev cX11_textTold : ByteArray := prog_1_method_27_code
def yX11_textTold : MethodName := ⟨RX11, "textTold", "(II)I"⟩
abbrev cX11_why : ByteArray := prog_1_method_28_code
def yX11_why : MethodName := ⟨RX11, "why", "(I)I"⟩
abbrev cX11_sheet : ByteArray := prog_1_method_29_code
def yX11_sheet : MethodName := ⟨RX11, "sheet", "(III)I"⟩
abbrev cX11_mark : ByteArray := prog_1_method_30_code
def yX11_mark : MethodName := ⟨RX11, "mark", "(III)I"⟩
abbrev cX11_pour : ByteArray := prog_1_method_31_code
def yX11_pour : MethodName := ⟨RX11, "pour", "(I)I"⟩
abbrev cX11_reads : ByteArray := prog_1_method_32_code
def yX11_reads : MethodName := ⟨RX11, "reads", "(II)I"⟩
abbrev cX11_copy : ByteArray := prog_1_method_33_code
def yX11_copy : MethodName := ⟨RX11, "copy", "(IIIII)I"⟩
abbrev cX11_lay : ByteArray := prog_1_method_34_code
def yX11_lay : MethodName := ⟨RX11, "lay", "(III)I"⟩
abbrev cX11_ask : ByteArray := prog_1_method_35_code
def yX11_ask : MethodName := ⟨RX11, "ask", "(II)I"⟩
abbrev cX11_item : ByteArray := prog_1_method_36_code
def yX11_item : MethodName := ⟨RX11, "item", "(II)I"⟩
abbrev cX11_rest : ByteArray := prog_1_method_37_code
def yX11_rest : MethodName := ⟨RX11, "rest", "(II)I"⟩
abbrev cX11_tell : ByteArray := prog_1_method_38_code
def yX11_tell : MethodName := ⟨RX11, "tell", "(I)I"⟩
abbrev cX11_check : ByteArray := prog_1_method_39_code
def yX11_check : MethodName := ⟨RX11, "check", "(I)I"⟩
abbrev cX11_keep : ByteArray := prog_1_method_40_code
def yX11_keep : MethodName := ⟨RX11, "keep", "()I"⟩
abbrev cX11_back : ByteArray := prog_1_method_41_code
def yX11_back : MethodName := ⟨RX11, "back", "()I"⟩
abbrev cX11_count : ByteArray := prog_1_method_42_code
def yX11_count : MethodName := ⟨RX11, "count", "(I)I"⟩
abbrev cX11_isWithin : ByteArray := prog_1_method_43_code
def yX11_isWithin : MethodName := ⟨RX11, "isWithin", "(III)Z"⟩
abbrev cX11_isKind : ByteArray := prog_1_method_44_code
def yX11_isKind : MethodName := ⟨RX11, "isKind", "(I)Z"⟩
abbrev cX11_isSheet : ByteArray := prog_1_method_45_code
def yX11_isSheet : MethodName := ⟨RX11, "isSheet", "(I)Z"⟩
abbrev cX11_isSlot : ByteArray := prog_1_method_46_code
def yX11_isSlot : MethodName := ⟨RX11, "isSlot", "(I)Z"⟩
abbrev cX11_isDrummer : ByteArray := prog_1_method_47_code
def yX11_isDrummer : MethodName := ⟨RX11, "isDrummer", "(I)Z"⟩
abbrev cX11_isOf : ByteArray := prog_1_method_48_code
def yX11_isOf : MethodName := ⟨RX11, "isOf", "(II)Z"⟩
abbrev cX11_withinStarts : ByteArray := prog_1_method_49_code
def yX11_withinStarts : MethodName := ⟨RX11, "withinStarts", "(I)I"⟩
abbrev cX11_think : ByteArray := prog_1_method_50_code
def yX11_think : MethodName := ⟨RX11, "think", "()V"⟩
abbrev cX11_findMend : ByteArray := prog_1_method_51_code
def yX11_findMend : MethodName := ⟨RX11, "findMend", "(I)Z"⟩
abbrev cX11_findMiscounted : ByteArray := prog_1_method_52_code
def yX11_findMiscounted : MethodName := ⟨RX11, "findMiscounted", "(LOneStroke$Sheet;I)Z"⟩
abbrev cX11_differences : ByteArray := prog_1_method_53_code
def yX11_differences : MethodName := ⟨RX11, "differences", "(LOneStroke$Sheet;)I"⟩
def RX12 : String := "OneStrokeModel"
def TX12 : u_T := fun k => match k with
  | 0 => ("OneStrokeModel", "s", "[I", true)
  | 1 => ("OneStrokeModel", "image", "[I", true)
  | 2 => ("OneStrokeModel", "aside", "[I", true)
  | 3 => ("OneStrokeModel", "hasImage", "Z", false)
  | 4 => ("OneStrokeModel", "tSort", "[I", true)
  | 5 => ("OneStrokeModel", "tSize", "[I", true)
  | 6 => ("OneStrokeModel", "tNumber", "[I", true)
  | 7 => ("OneStrokeModel", "held", "[I", true)
  | 8 => ("OneStrokeModel", "heldNumber", "[I", true)
  | 9 => ("OneStrokeModel", "heldWorth", "[I", true)
  | 10 => ("OneStrokeModel", "heldSize", "[I", true)
  | 11 => ("OneStrokeModel", "heldRow", "[I", true)
  | 12 => ("OneStrokeModel", "was", "[I", true)
  | 13 => ("OneStrokeModel", "close", "[I", true)
  | 14 => ("OneStrokeModel", "firstIn", "[I", true)
  | 15 => ("OneStrokeModel", "mostAtOnce", "I", false)
  | 16 => ("OneStrokeModel", "tape", "[I", true)
  | 17 => ("OneStrokeModel", "taped", "I", false)
  | 18 => ("OneStrokeModel", "begin", "I", false)
  | 19 => ("OneStrokeModel", "behind", "I", false)
  | 20 => ("OneStrokeModel", "token", "I", false)
  | 21 => ("OneStrokeModel", "number", "I", false)
  | 22 => ("OneStrokeModel", "letter", "I", false)
  | 23 => ("OneStrokeModel", "deep", "I", false)
  | 24 => ("OneStrokeModel", "turned", "I", false)
  | 25 => ("OneStrokeModel", "laid", "I", false)
  | 26 => ("OneStrokeModel", "laidAt", "I", false)
  | 27 => ("OneStrokeModel", "said", "I", false)
  | 28 => ("OneStrokeModel", "named", "[I", true)
  | 29 => ("OneStrokeModel", "pile", "[I", true)
  | 30 => ("OneStrokeModel", "carried", "[I", true)
  | 31 => ("OneStrokeModel", "waits", "[I", true)
  | 32 => ("OneStrokeModel", "waiting", "I", false)
  | _ => ("OneStrokeModel", "rowDue", "[I", true)
def tyX12 : Nat → FieldType := fun k => match k with
  | 0 => .array .int
  | 1 => .array .int
  | 2 => .array .int
  | 3 => .boolean
  | 4 => .array .int
  | 5 => .array .int
  | 6 => .array .int
  | 7 => .array .int
  | 8 => .array .int
  | 9 => .array .int
  | 10 => .array .int
  | 11 => .array .int
  | 12 => .array .int
  | 13 => .array .int
  | 14 => .array .int
  | 15 => .int
  | 16 => .array .int
  | 17 => .int
  | 18 => .int
  | 19 => .int
  | 20 => .int
  | 21 => .int
  | 22 => .int
  | 23 => .int
  | 24 => .int
  | 25 => .int
  | 26 => .int
  | 27 => .int
  | 28 => .array .int
  | 29 => .array .int
  | 30 => .array .int
  | 31 => .array .int
  | 32 => .int
  | _ => .array .int
abbrev wsX120 : List Cond := u_ws RX12 TX12 34
theorem nmX12 : ∀ a, a < 34 → ∀ b, b < 34 → a ≠ b → (TX12 a).2.1 ≠ (TX12 b).2.1 := by decide +kernel
theorem tyX12_ok : ∀ k, k < 34 → parseFieldDescriptor (TX12 k).2.2.1 = some (tyX12 k) := by decide +kernel
abbrev cX12_init : ByteArray := prog_14_method_1_code
def yX12_init : MethodName := ⟨RX12, "<init>", "()V"⟩
abbrev cX12_isIn : ByteArray := prog_14_method_2_code
def yX12_isIn : MethodName := ⟨RX12, "isIn", "(JJJ)Z"⟩
abbrev cX12_orNone : ByteArray := prog_14_method_3_code
def yX12_orNone : MethodName := ⟨RX12, "orNone", "(I)I"⟩
abbrev cX12_held : ByteArray := prog_14_method_4_code
def yX12_held : MethodName := ⟨RX12, "held", "(III)I"⟩
abbrev cX12_off : ByteArray := prog_14_method_5_code
def yX12_off : MethodName := ⟨RX12, "off", "(II)I"⟩
abbrev cX12_becomes : ByteArray := prog_14_method_6_code
def yX12_becomes : MethodName := ⟨RX12, "becomes", "(II)I"⟩
abbrev cX12_textAt : ByteArray := prog_14_method_7_code
def yX12_textAt : MethodName := ⟨RX12, "textAt", "(I)I"⟩
abbrev cX12_of : ByteArray := prog_14_method_8_code
def yX12_of : MethodName := ⟨RX12, "of", "(II)I"⟩
abbrev cX12_sets : ByteArray := prog_14_method_9_code
def yX12_sets : MethodName := ⟨RX12, "sets", "(III)V"⟩
abbrev cX12_isDrummer : ByteArray := prog_14_method_10_code
def yX12_isDrummer : MethodName := ⟨RX12, "isDrummer", "(I)Z"⟩
abbrev cX12_isText : ByteArray := prog_14_method_11_code
def yX12_isText : MethodName := ⟨RX12, "isText", "(I)Z"⟩
abbrev cX12_drawn : ByteArray := prog_14_method_12_code
def yX12_drawn : MethodName := ⟨RX12, "drawn", "()I"⟩
abbrev cX12_comes : ByteArray := prog_14_method_13_code
def yX12_comes : MethodName := ⟨RX12, "comes", "(II)V"⟩
abbrev cX12_drummer : ByteArray := prog_14_method_14_code
def yX12_drummer : MethodName := ⟨RX12, "drummer", "(II)I"⟩
abbrev cX12_ago : ByteArray := prog_14_method_15_code
def yX12_ago : MethodName := ⟨RX12, "ago", "(II)I"⟩
abbrev cX12_left : ByteArray := prog_14_method_16_code
def yX12_left : MethodName := ⟨RX12, "left", "(I)I"⟩
abbrev cX12_right : ByteArray := prog_14_method_17_code
def yX12_right : MethodName := ⟨RX12, "right", "(I)I"⟩
abbrev cX12_hears : ByteArray := prog_14_method_18_code
def yX12_hears : MethodName := ⟨RX12, "hears", "(I)Z"⟩
abbrev cX12_wakes : ByteArray := prog_14_method_19_code
def yX12_wakes : MethodName := ⟨RX12, "wakes", "(I)I"⟩
abbrev cX12_stepFrom : ByteArray := prog_14_method_20_code
def yX12_stepFrom : MethodName := ⟨RX12, "stepFrom", "(II)I"⟩
abbrev cX12_worth : ByteArray := prog_14_method_21_code
def yX12_worth : MethodName := ⟨RX12, "worth", "(I)I"⟩
abbrev cX12_told : ByteArray := prog_14_method_22_code
def yX12_told : MethodName := ⟨RX12, "told", "(II)I"⟩
abbrev cX12_isOf : ByteArray := prog_14_method_23_code
def yX12_isOf : MethodName := ⟨RX12, "isOf", "(II)Z"⟩
abbrev cX12_as : ByteArray := prog_14_method_24_code
def yX12_as : MethodName := ⟨RX12, "as", "(II)I"⟩
abbrev cX12_turns : ByteArray := prog_14_method_25_code
def yX12_turns : MethodName := ⟨RX12, "turns", "(II)I"⟩
abbrev cX12_set : ByteArray := prog_14_method_26_code
def yX12_set : MethodName := ⟨RX12, "set", "(III)I"⟩
abbrev cX12_miss : ByteArray := prog_14_method_27_code
def yX12_miss : MethodName := ⟨RX12, "miss", "(I)I"⟩
abbrev cX12_deal : ByteArray := prog_14_method_28_code
def yX12_deal : MethodName := ⟨RX12, "deal", "(I)I"⟩
abbrev cX12_seed : ByteArray := prog_14_method_29_code
def yX12_seed : MethodName := ⟨RX12, "seed", "(I)I"⟩
abbrev cX12_mayOrder : ByteArray := prog_14_method_30_code
def yX12_mayOrder : MethodName := ⟨RX12, "mayOrder", "(I)Z"⟩
abbrev cX12_orders : ByteArray := prog_14_method_31_code
def yX12_orders : MethodName := ⟨RX12, "orders", "(I)I"⟩
abbrev cX12_order : ByteArray := prog_14_method_32_code
def yX12_order : MethodName := ⟨RX12, "order", "(I)I"⟩
abbrev cX12_hush : ByteArray := prog_14_method_33_code
def yX12_hush : MethodName := ⟨RX12, "hush", "()I"⟩
abbrev cX12_goesOn : ByteArray := prog_14_method_34_code
def yX12_goesOn : MethodName := ⟨RX12, "goesOn", "()I"⟩
abbrev cX12_ones : ByteArray := prog_14_method_35_code
def yX12_ones : MethodName := ⟨RX12, "ones", "(I)I"⟩
abbrev cX12_beats : ByteArray := prog_14_method_36_code
def yX12_beats : MethodName := ⟨RX12, "beats", "(I)I"⟩
abbrev cX12_laysBy : ByteArray := prog_14_method_37_code
def yX12_laysBy : MethodName := ⟨RX12, "laysBy", "()V"⟩
abbrev cX12_laysBack : ByteArray := prog_14_method_38_code
def yX12_laysBack : MethodName := ⟨RX12, "laysBack", "()V"⟩
abbrev cX12_behind : ByteArray := prog_14_method_39_code
def yX12_behind : MethodName := ⟨RX12, "behind", "(III)I"⟩
abbrev cX12_firstOf : ByteArray := prog_14_method_40_code
def yX12_firstOf : MethodName := ⟨RX12, "firstOf", "(I)I"⟩
abbrev cX12_soon : ByteArray := prog_14_method_41_code
def yX12_soon : MethodName := ⟨RX12, "soon", "()I"⟩
abbrev cX12_all : ByteArray := prog_14_method_42_code
def yX12_all : MethodName := ⟨RX12, "all", "()I"⟩
abbrev cX12_layFirsts : ByteArray := prog_14_method_43_code
def yX12_layFirsts : MethodName := ⟨RX12, "layFirsts", "(I)V"⟩
abbrev cX12_spreadOf : ByteArray := prog_14_method_44_code
def yX12_spreadOf : MethodName := ⟨RX12, "spreadOf", "()I"⟩
abbrev cX12_spread : ByteArray := prog_14_method_45_code
def yX12_spread : MethodName := ⟨RX12, "spread", "(I)I"⟩
abbrev cX12_toWhom : ByteArray := prog_14_method_46_code
def yX12_toWhom : MethodName := ⟨RX12, "toWhom", "(I)I"⟩
abbrev cX12_mend : ByteArray := prog_14_method_47_code
def yX12_mend : MethodName := ⟨RX12, "mend", "(II)I"⟩
abbrev cX12_farOf : ByteArray := prog_14_method_48_code
def yX12_farOf : MethodName := ⟨RX12, "farOf", "(II)I"⟩
abbrev cX12_far : ByteArray := prog_14_method_49_code
def yX12_far : MethodName := ⟨RX12, "far", "(II)I"⟩
abbrev cX12_reach : ByteArray := prog_14_method_50_code
def yX12_reach : MethodName := ⟨RX12, "reach", "(II)I"⟩
abbrev cX12_edge : ByteArray := prog_14_method_51_code
def yX12_edge : MethodName := ⟨RX12, "edge", "(I)I"⟩
abbrev cX12_strokesOfAll : ByteArray := prog_14_method_52_code
def yX12_strokesOfAll : MethodName := ⟨RX12, "strokesOfAll", "()I"⟩
abbrev cX12_fine : ByteArray := prog_14_method_53_code
def yX12_fine : MethodName := ⟨RX12, "fine", "()I"⟩
abbrev cX12_feed : ByteArray := prog_14_method_54_code
def yX12_feed : MethodName := ⟨RX12, "feed", "(III)I"⟩
abbrev cX12_trim : ByteArray := prog_14_method_55_code
def yX12_trim : MethodName := ⟨RX12, "trim", "(I)I"⟩
abbrev cX12_isLetter : ByteArray := prog_14_method_56_code
def yX12_isLetter : MethodName := ⟨RX12, "isLetter", "(I)Z"⟩
abbrev cX12_isDigit : ByteArray := prog_14_method_57_code
def yX12_isDigit : MethodName := ⟨RX12, "isDigit", "(I)Z"⟩
abbrev cX12_nextToken : ByteArray := prog_14_method_58_code
def yX12_nextToken : MethodName := ⟨RX12, "nextToken", "()V"⟩
abbrev cX12_isSign : ByteArray := prog_14_method_59_code
def yX12_isSign : MethodName := ⟨RX12, "isSign", "(I)Z"⟩
abbrev cX12_isWordAt : ByteArray := prog_14_method_60_code
def yX12_isWordAt : MethodName := ⟨RX12, "isWordAt", "(IIII)Z"⟩
abbrev cX12_isLong : ByteArray := prog_14_method_61_code
def yX12_isLong : MethodName := ⟨RX12, "isLong", "(IIIIII)Z"⟩
abbrev cX12_key : ByteArray := prog_14_method_62_code
def yX12_key : MethodName := ⟨RX12, "key", "()I"⟩
abbrev cX12_isName : ByteArray := prog_14_method_63_code
def yX12_isName : MethodName := ⟨RX12, "isName", "(II)Z"⟩
abbrev cX12_step : ByteArray := prog_14_method_64_code
def yX12_step : MethodName := ⟨RX12, "step", "(II)V"⟩
abbrev cX12_either : ByteArray := prog_14_method_65_code
def yX12_either : MethodName := ⟨RX12, "either", "(I)Z"⟩
abbrev cX12_both : ByteArray := prog_14_method_66_code
def yX12_both : MethodName := ⟨RX12, "both", "(I)Z"⟩
abbrev cX12_test : ByteArray := prog_14_method_67_code
def yX12_test : MethodName := ⟨RX12, "test", "(I)Z"⟩
abbrev cX12_sum : ByteArray := prog_14_method_68_code
def yX12_sum : MethodName := ⟨RX12, "sum", "(I)Z"⟩
abbrev cX12_term : ByteArray := prog_14_method_69_code
def yX12_term : MethodName := ⟨RX12, "term", "(I)Z"⟩
abbrev cX12_part0 : ByteArray := prog_14_method_70_code
def yX12_part0 : MethodName := ⟨RX12, "part0", "(I)Z"⟩
abbrev cX12_parse : ByteArray := prog_14_method_71_code
def yX12_parse : MethodName := ⟨RX12, "parse", "()I"⟩
abbrev cX12_text : ByteArray := prog_14_method_72_code
def yX12_text : MethodName := ⟨RX12, "text", "()I"⟩
abbrev cX12_textTold : ByteArray := prog_14_method_73_code
def yX12_textTold : MethodName := ⟨RX12, "textTold", "(II)I"⟩
abbrev cX12_counts : ByteArray := prog_14_method_74_code
def yX12_counts : MethodName := ⟨RX12, "counts", "(I)I"⟩
abbrev cX12_why : ByteArray := prog_14_method_75_code
def yX12_why : MethodName := ⟨RX12, "why", "(I)I"⟩
abbrev cX12_joined : ByteArray := prog_14_method_76_code
def yX12_joined : MethodName := ⟨RX12, "joined", "(III)I"⟩
abbrev cX12_worked : ByteArray := prog_14_method_77_code
def yX12_worked : MethodName := ⟨RX12, "worked", "(I)I"⟩
abbrev cX12_isSheet : ByteArray := prog_14_method_78_code
def yX12_isSheet : MethodName := ⟨RX12, "isSheet", "(I)Z"⟩
abbrev cX12_sheet : ByteArray := prog_14_method_79_code
def yX12_sheet : MethodName := ⟨RX12, "sheet", "(III)I"⟩
abbrev cX12_mark : ByteArray := prog_14_method_80_code
def yX12_mark : MethodName := ⟨RX12, "mark", "(III)I"⟩
abbrev cX12_pour : ByteArray := prog_14_method_81_code
def yX12_pour : MethodName := ⟨RX12, "pour", "(I)I"⟩
abbrev cX12_reads : ByteArray := prog_14_method_82_code
def yX12_reads : MethodName := ⟨RX12, "reads", "(II)I"⟩
abbrev cX12_miscounted : ByteArray := prog_14_method_83_code
def yX12_miscounted : MethodName := ⟨RX12, "miscounted", "(III)I"⟩
abbrev cX12_copy : ByteArray := prog_14_method_84_code
def yX12_copy : MethodName := ⟨RX12, "copy", "(IIIII)I"⟩
abbrev cX12_isSlot : ByteArray := prog_14_method_85_code
def yX12_isSlot : MethodName := ⟨RX12, "isSlot", "(I)Z"⟩
abbrev cX12_lay : ByteArray := prog_14_method_86_code
def yX12_lay : MethodName := ⟨RX12, "lay", "(III)I"⟩
abbrev cX12_ask : ByteArray := prog_14_method_87_code
def yX12_ask : MethodName := ⟨RX12, "ask", "(II)I"⟩
abbrev cX12_item : ByteArray := prog_14_method_88_code
def yX12_item : MethodName := ⟨RX12, "item", "(II)I"⟩
abbrev cX12_rest : ByteArray := prog_14_method_89_code
def yX12_rest : MethodName := ⟨RX12, "rest", "(II)I"⟩
abbrev cX12_tell : ByteArray := prog_14_method_90_code
def yX12_tell : MethodName := ⟨RX12, "tell", "(I)I"⟩
abbrev cX12_setAside : ByteArray := prog_14_method_91_code
def yX12_setAside : MethodName := ⟨RX12, "setAside", "([I[I)V"⟩
abbrev cX12_countsOfAll : ByteArray := prog_14_method_92_code
def yX12_countsOfAll : MethodName := ⟨RX12, "countsOfAll", "()I"⟩
abbrev cX12_check : ByteArray := prog_14_method_93_code
def yX12_check : MethodName := ⟨RX12, "check", "(I)I"⟩
abbrev cX12_keep : ByteArray := prog_14_method_94_code
def yX12_keep : MethodName := ⟨RX12, "keep", "()I"⟩
abbrev cX12_back : ByteArray := prog_14_method_95_code
def yX12_back : MethodName := ⟨RX12, "back", "()I"⟩
abbrev cX12_counting : ByteArray := prog_14_method_96_code
def yX12_counting : MethodName := ⟨RX12, "counting", "()I"⟩
abbrev cX12_count : ByteArray := prog_14_method_97_code
def yX12_count : MethodName := ⟨RX12, "count", "(I)I"⟩
def RJ11 : String := "java/lang/Character"
def TJ11 : u_T := fun k => match k with
  | _ => ("", "", "", false)
def tyJ11 : Nat → FieldType := fun k => match k with
  | _ => .int
theorem nmJ11 : ∀ a, a < 0 → ∀ b, b < 0 → a ≠ b → (TJ11 a).2.1 ≠ (TJ11 b).2.1 := by decide +kernel
theorem tyJ11_ok : ∀ k, k < 0 → parseFieldDescriptor (TJ11 k).2.2.1 = some (tyJ11 k) := by decide +kernel
abbrev cJ11_isValidCodePoint_9a6ad : ByteArray := prog_15_method_11_code
def yJ11_isValidCodePoint_9a6ad : MethodName := ⟨RJ11, "isValidCodePoint", "(I)Z"⟩
abbrev cJ11_highSurrogate_5068e : ByteArray := prog_15_method_28_code
def yJ11_highSurrogate_5068e : MethodName := ⟨RJ11, "highSurrogate", "(I)C"⟩
abbrev cJ11_lowSurrogate_5068e : ByteArray := prog_15_method_29_code
def yJ11_lowSurrogate_5068e : MethodName := ⟨RJ11, "lowSurrogate", "(I)C"⟩
def RJ9 : String := "java/lang/Math"
def TJ9 : u_T := fun k => match k with
  | _ => ("", "", "", false)
def tyJ9 : Nat → FieldType := fun k => match k with
  | _ => .int
theorem nmJ9 : ∀ a, a < 0 → ∀ b, b < 0 → a ≠ b → (TJ9 a).2.1 ≠ (TJ9 b).2.1 := by decide +kernel
theorem tyJ9_ok : ∀ k, k < 0 → parseFieldDescriptor (TJ9 k).2.2.1 = some (tyJ9 k) := by decide +kernel
abbrev cJ9_abs_0f7a4 : ByteArray := prog_17_method_59_code
def yJ9_abs_0f7a4 : MethodName := ⟨RJ9, "abs", "(I)I"⟩
abbrev cJ9_max_7cf53 : ByteArray := prog_17_method_65_code
def yJ9_max_7cf53 : MethodName := ⟨RJ9, "max", "(II)I"⟩
abbrev cJ9_min_7cf53 : ByteArray := prog_17_method_69_code
def yJ9_min_7cf53 : MethodName := ⟨RJ9, "min", "(II)I"⟩
def RJ0 : String := "java/lang/String"
def TJ0 : u_T := fun k => match k with
  | _ => ("", "", "", false)
def tyJ0 : Nat → FieldType := fun k => match k with
  | _ => .int
theorem nmJ0 : ∀ a, a < 0 → ∀ b, b < 0 → a ≠ b → (TJ0 a).2.1 ≠ (TJ0 b).2.1 := by decide +kernel
theorem tyJ0_ok : ∀ k, k < 0 → parseFieldDescriptor (TJ0 k).2.2.1 = some (tyJ0 k) := by decide +kernel
abbrev cJ0_length_8abf5 : ByteArray := prog_18_method_54_code
def yJ0_length_8abf5 : MethodName := ⟨RJ0, "length", "()I"⟩
abbrev cJ0_charAt_5068e : ByteArray := prog_18_method_56_code
def yJ0_charAt_5068e : MethodName := ⟨RJ0, "charAt", "(I)C"⟩
abbrev cJ0_indexOf_0f7a4 : ByteArray := prog_18_method_79_code
def yJ0_indexOf_0f7a4 : MethodName := ⟨RJ0, "indexOf", "(I)I"⟩
abbrev cJ0_indexOf_7cf53 : ByteArray := prog_18_method_80_code
def yJ0_indexOf_7cf53 : MethodName := ⟨RJ0, "indexOf", "(II)I"⟩
abbrev cJ0_coder_7d493 : ByteArray := prog_18_method_152_code
def yJ0_coder_7d493 : MethodName := ⟨RJ0, "coder", "()B"⟩
abbrev cJ0_isLatin1_aae02 : ByteArray := prog_18_method_154_code
def yJ0_isLatin1_aae02 : MethodName := ⟨RJ0, "isLatin1", "()Z"⟩
abbrev cJ0_checkIndex_df160 : ByteArray := prog_18_method_155_code
def yJ0_checkIndex_df160 : MethodName := ⟨RJ0, "checkIndex", "(II)V"⟩
abbrev cJ0_checkBoundsBeginEnd_23922 : ByteArray := prog_18_method_158_code
def yJ0_checkBoundsBeginEnd_23922 : MethodName := ⟨RJ0, "checkBoundsBeginEnd", "(III)V"⟩
def RJ1 : String := "java/lang/StringLatin1"
def TJ1 : u_T := fun k => match k with
  | _ => ("", "", "", false)
def tyJ1 : Nat → FieldType := fun k => match k with
  | _ => .int
theorem nmJ1 : ∀ a, a < 0 → ∀ b, b < 0 → a ≠ b → (TJ1 a).2.1 ≠ (TJ1 b).2.1 := by decide +kernel
theorem tyJ1_ok : ∀ k, k < 0 → parseFieldDescriptor (TJ1 k).2.2.1 = some (tyJ1 k) := by decide +kernel
abbrev cJ1_charAt_3b067 : ByteArray := prog_19_method_2_code
def yJ1_charAt_3b067 : MethodName := ⟨RJ1, "charAt", "([BI)C"⟩
abbrev cJ1_canEncode_9a6ad : ByteArray := prog_19_method_4_code
def yJ1_canEncode_9a6ad : MethodName := ⟨RJ1, "canEncode", "(I)Z"⟩
abbrev cJ1_indexOf_4cfef : ByteArray := prog_19_method_22_code
def yJ1_indexOf_4cfef : MethodName := ⟨RJ1, "indexOf", "([BIII)I"⟩
abbrev cJ1_indexOfChar_4cfef : ByteArray := prog_19_method_23_code
def yJ1_indexOfChar_4cfef : MethodName := ⟨RJ1, "indexOfChar", "([BIII)I"⟩
def RJ2 : String := "java/lang/StringUTF16"
def TJ2 : u_T := fun k => match k with
  | _ => ("", "", "", false)
def tyJ2 : Nat → FieldType := fun k => match k with
  | _ => .int
theorem nmJ2 : ∀ a, a < 0 → ∀ b, b < 0 → a ≠ b → (TJ2 a).2.1 ≠ (TJ2 b).2.1 := by decide +kernel
theorem tyJ2_ok : ∀ k, k < 0 → parseFieldDescriptor (TJ2 k).2.2.1 = some (tyJ2 k) := by decide +kernel
abbrev cJ2_getChar_3b067 : ByteArray := prog_20_method_5_code
def yJ2_getChar_3b067 : MethodName := ⟨RJ2, "getChar", "([BI)C"⟩
abbrev cJ2_length_9d52b : ByteArray := prog_20_method_6_code
def yJ2_length_9d52b : MethodName := ⟨RJ2, "length", "([B)I"⟩
abbrev cJ2_indexOf_4cfef : ByteArray := prog_20_method_40_code
def yJ2_indexOf_4cfef : MethodName := ⟨RJ2, "indexOf", "([BIII)I"⟩
abbrev cJ2_indexOfChar_4cfef : ByteArray := prog_20_method_47_code
def yJ2_indexOfChar_4cfef : MethodName := ⟨RJ2, "indexOfChar", "([BIII)I"⟩
abbrev cJ2_indexOfCharUnsafe_4cfef : ByteArray := prog_20_method_48_code
def yJ2_indexOfCharUnsafe_4cfef : MethodName := ⟨RJ2, "indexOfCharUnsafe", "([BIII)I"⟩
abbrev cJ2_indexOfSupplementary_4cfef : ByteArray := prog_20_method_49_code
def yJ2_indexOfSupplementary_4cfef : MethodName := ⟨RJ2, "indexOfSupplementary", "([BIII)I"⟩
abbrev cJ2_charAt_3b067 : ByteArray := prog_20_method_83_code
def yJ2_charAt_3b067 : MethodName := ⟨RJ2, "charAt", "([BI)C"⟩
abbrev cJ2_checkIndex_2214a : ByteArray := prog_20_method_91_code
def yJ2_checkIndex_2214a : MethodName := ⟨RJ2, "checkIndex", "(I[B)V"⟩
abbrev cJ2_checkBoundsBeginEnd_d044e : ByteArray := prog_20_method_93_code
def yJ2_checkBoundsBeginEnd_d044e : MethodName := ⟨RJ2, "checkBoundsBeginEnd", "(II[B)V"⟩
def RJ10 : String := "java/lang/System"
def TJ10 : u_T := fun k => match k with
  | _ => ("", "", "", false)
def tyJ10 : Nat → FieldType := fun k => match k with
  | _ => .int
theorem nmJ10 : ∀ a, a < 0 → ∀ b, b < 0 → a ≠ b → (TJ10 a).2.1 ≠ (TJ10 b).2.1 := by decide +kernel
theorem tyJ10_ok : ∀ k, k < 0 → parseFieldDescriptor (TJ10 k).2.2.1 = some (tyJ10 k) := by decide +kernel
def RJ7 : String := "java/util/Arrays"
def TJ7 : u_T := fun k => match k with
  | _ => ("", "", "", false)
def tyJ7 : Nat → FieldType := fun k => match k with
  | _ => .int
theorem nmJ7 : ∀ a, a < 0 → ∀ b, b < 0 → a ≠ b → (TJ7 a).2.1 ≠ (TJ7 b).2.1 := by decide +kernel
theorem tyJ7_ok : ∀ k, k < 0 → parseFieldDescriptor (TJ7 k).2.2.1 = some (tyJ7 k) := by decide +kernel
abbrev cJ7_fill_53178 : ByteArray := prog_22_method_103_code
def yJ7_fill_53178 : MethodName := ⟨RJ7, "fill", "([II)V"⟩
abbrev cJ7_copyOf_59c91 : ByteArray := prog_22_method_123_code
def yJ7_copyOf_59c91 : MethodName := ⟨RJ7, "copyOf", "([II)[I"⟩
def RJ3 : String := "jdk/internal/util/Preconditions"
def TJ3 : u_T := fun k => match k with
  | _ => ("", "", "", false)
def tyJ3 : Nat → FieldType := fun k => match k with
  | _ => .int
theorem nmJ3 : ∀ a, a < 0 → ∀ b, b < 0 → a ≠ b → (TJ3 a).2.1 ≠ (TJ3 b).2.1 := by decide +kernel
theorem tyJ3_ok : ∀ k, k < 0 → parseFieldDescriptor (TJ3 k).2.2.1 = some (tyJ3 k) := by decide +kernel
abbrev cJ3_checkIndex_8e157 : ByteArray := prog_23_method_11_code
def yJ3_checkIndex_8e157 : MethodName := ⟨RJ3, "checkIndex", "(IILjava/util/function/BiFunction;)I"⟩
abbrev cJ3_checkFromToIndex_8c36e : ByteArray := prog_23_method_12_code
def yJ3_checkFromToIndex_8c36e : MethodName := ⟨RJ3, "checkFromToIndex", "(IIILjava/util/function/BiFunction;)I"⟩
def RL : String := "OneStrokeLaw"
abbrev cL_law : ByteArray := code
def yL_law : MethodName := ⟨RL, "law", "([I)Z"⟩
abbrev vwCl : List vw_C := [(RX0, TX0, 0), (RX1, TX1, 8), (RX2, TX2, 0), (RX3, TX3, 0), (RX4, TX4, 0), (RX5, TX5, 9), (RX6, TX6, 3), (RX7, TX7, 0), (RX8, TX8, 9), (RX9, TX9, 4), (RX10, TX10, 0), (RX11, TX11, 13), (RX12, TX12, 34)]
end
section
/-! ===== an interpreter over abstract cells: a cell is (role, number); all that changes are ints; references are fixed by the layout (but texts) ===== -/
abbrev sv_V : Type := Int32 ⊕ (Int64 ⊕ Option (Nat × Nat))
abbrev sv_S : Type := Nat → Nat → Nat → Int32
abbrev sv_I (n : Int32) : sv_V := .inl n
abbrev sv_L (n : Int64) : sv_V := .inr (.inl n)
abbrev sv_N : sv_V := .inr (.inr none)
abbrev sv_R (r i : Nat) : sv_V := .inr (.inr (some (r, i)))
def sv_up (σ : sv_S) (r i k : Nat) (n : Int32) : sv_S := fun r' i' k' => if r' = r ∧ i' = i ∧ k' = k then n else σ r' i' k'
def sv_c (ad : Nat → Nat → Nat) : sv_V → Value
  | .inl n => .int n
  | .inr (.inl n) => .long n
  | .inr (.inr none) => .null
  | .inr (.inr (some (r, i))) => .ref (ad r i)
/-- the class (its place in vwCl) or the element type of a cell: 0 int, 1 byte, 2 Drummer, 3 Text, 4 Kind, 5 Sheet, 6 the static row ABOVE, 7 a text constant -/
def sv_kd (r i : Nat) : Nat ⊕ Nat := match r with
  | 0 => .inl 11
  | 1 => .inl 5
  | 2 => .inl 1
  | 3 => .inr 2
  | 4 => .inr 3
  | 5 => .inr 0
  | 6 => .inr 4
  | 7 => .inl (match i with
    | 0 => 3
    | 1 => 7
    | 2 => 2
    | 3 => 4
    | 4 => 10
    | _ => 0)
  | 8 => .inl 8
  | 9 => .inr 1
  | 10 => .inr 0
  | 11 => .inr 5
  | 12 => .inl 6
  | 13 => .inr 0
  | 14 => .inr 0
  | 15 => .inr 0
  | 16 => .inr 0
  | 17 => .inr 0
  | 18 => .inl 9
  | 19 => .inr 0
  | 20 => .inr 0
  | 21 => .inr 6
  | 23 => .inr 7
  | 30 => .inl 12
  | 31 => .inr 0
  | _ => .inr 9
/-- fields of OneStrokeModel that are rows -/
def sv_ar (k : Nat) : Bool := match k with
  | 3 => false
  | 15 => false
  | 17 => false
  | 18 => false
  | 19 => false
  | 20 => false
  | 21 => false
  | 22 => false
  | 23 => false
  | 24 => false
  | 25 => false
  | 26 => false
  | 27 => false
  | 32 => false
  | _ => true
/-- a field that is a reference: to which cell -/
def sv_fr (c i k : Nat) : Option (Nat × Nat) := match c with
  | 11 => (match k with
    | 0 => some (1, 0)
    | 1 => some (1, 1)
    | 2 => some (1, 2)
    | 4 => some (8, 0)
    | 5 => some (11, 0)
    | 6 => some (14, 0)
    | 7 => some (15, 0)
    | 8 => some (3, 3)
    | 9 => some (11, 1)
    | 10 => some (16, 0)
    | 12 => some (17, 0)
    | _ => none)
  | 5 => (match k with
    | 0 => some (6, 0)
    | 1 => some (3, i)
    | 2 => some (4, i)
    | 3 => some (5, i)
    | _ => none)
  | 8 => (match k with
    | 0 => some (9, 0)
    | 8 => some (10, 0)
    | _ => none)
  | 6 => (match k with
    | 2 => some (13, i)
    | _ => none)
  | 9 => (match k with
    | 2 => some (19, i)
    | 3 => some (20, i)
    | _ => none)
  | 12 => bif sv_ar k then some (31, k) else none
  | _ => none
/-- what may be put into a field: 0 an int, 1 a boolean, 2 nothing -/
def sv_ft (c k : Nat) : Nat := match c with
  | 11 => (match k with
    | 3 => 1
    | 11 => 0
    | _ => 2)
  | 5 => (match k with
    | 0 => 2
    | 1 => 2
    | 2 => 2
    | 3 => 2
    | _ => 0)
  | 1 => 0
  | 8 => (match k with
    | 0 => 2
    | 8 => 2
    | _ => 0)
  | 6 => (match k with
    | 2 => 2
    | _ => 0)
  | 12 => (match k with
    | 3 => 1
    | _ => bif sv_ar k then 2 else 0)
  | _ => 2
/-- how many fields an object of a class has -/
def sv_nf (c : Nat) : Nat := match c with
  | 1 => 8
  | 5 => 9
  | 6 => 3
  | 8 => 9
  | 9 => 4
  | 11 => 13
  | 12 => 34
  | _ => 0
/-- a choice that computing doesn't look into -/
noncomputable def sv_if {α : Type} (c : Prop) (a b : α) : α := @ite α c (Classical.propDecidable c) a b
noncomputable def sv_tx {α : Type} (n : Int32) (k0 : α) (k1 : Nat → α) : α := sv_if (n = 0) k0 (k1 (n.toNatClampNeg - 1))
def sv_df (c i k : Nat) (n : Int32) : sv_V := match sv_fr c i k with
  | some q => .inr (.inr (some q))
  | none => .inl n
/-- the value in a place of a row -/
noncomputable def sv_de (t i k : Nat) (n : Int32) : sv_V := match t with
  | 2 => sv_R 2 (10 * i + k)
  | 3 => sv_tx n sv_N (fun t => sv_R 18 t)
  | 4 => sv_R 7 k
  | 5 => sv_R 12 (4 * i + k)
  | _ => .inl n
noncomputable def sv_dc (r i k : Nat) (n : Int32) : sv_V := match sv_kd r i with
  | .inl c => sv_df c i k n
  | .inr t => sv_de t i k n
def sv_ab (k : Nat) : Int32 := match k with
  | 0 => -1
  | 1 => 0
  | 2 => 0
  | 3 => 1
  | 4 => 2
  | _ => 0
/-- how many texts there are -/
def sv_ct (σ : sv_S) : Nat := (σ 22 0 0).toNatClampNeg
/-- rows of OneStrokeModel: how long -/
def sv_ml (k : Nat) : Nat := match k with
  | 0 => 3086
  | 1 => 3086
  | 2 => 3086
  | 4 => 4
  | 5 => 4
  | 6 => 96
  | 7 => 5
  | 8 => 5
  | 9 => 5
  | 10 => 5
  | 11 => 120
  | 12 => 10
  | 13 => 86
  | 14 => 10
  | 16 => 96
  | 28 => 128
  | 29 => 100
  | 30 => 24
  | 31 => 60
  | _ => 60
def sv_ln (r i : Nat) (σ : sv_S) : Nat := match r with
  | 3 => (match i with
    | 3 => 5
    | _ => 10)
  | 4 => 14
  | 5 => 3
  | 6 => 6
  | 9 => 96
  | 10 => 96
  | 11 => (match i with
    | 0 => 4
    | _ => 5)
  | 13 => 24
  | 14 => 5
  | 15 => 5
  | 16 => 60
  | 17 => 3
  | 19 => (σ 18 i 9).toNatClampNeg
  | 20 => (σ 18 i 1).toNatClampNeg
  | 21 => 6
  | 31 => sv_ml i
  | _ => 0
/-- how many cells of a role there are, if there are n texts -/
def sv_nb (n r : Nat) : Nat := match r with
  | 0 => 1
  | 1 => 3
  | 2 => 35
  | 3 => 4
  | 4 => 3
  | 5 => 3
  | 6 => 1
  | 7 => 6
  | 8 => 1
  | 9 => 1
  | 10 => 1
  | 11 => 2
  | 12 => 9
  | 13 => 9
  | 14 => 1
  | 15 => 1
  | 16 => 1
  | 17 => 1
  | 18 => n
  | 19 => n
  | 20 => n
  | 21 => 1
  | 23 => 6
  | 30 => 1
  | 31 => 34
  | _ => 0
def sv_lv (n r i : Nat) : Prop := i < sv_nb n r ∧ (r = 31 → sv_ar i = true)
def sv_ok (n : Nat) (v : sv_V) : Prop := match v with
  | .inr (.inr (some (r, i))) => sv_lv n r i
  | _ => True
/-- by its number out of a list -/
def sv_lk {α : Type} (i : Nat) : List (Nat × α) → Option α
  | [] => none
  | q :: l => bif Nat.beq i q.1 then some q.2 else sv_lk i l
/-! the code of a method, its links, its calls -/
/-- a row of the code: the instruction, its constant, the next pc, a branch's target, a switch's targets -/
abbrev sv_W : Type := Instr × (sv_V × (Nat × (Nat × List (Int × Nat))))
abbrev sv_C : Type := List (Nat × sv_W)
def sv_at (pc : Nat) : sv_C → Option sv_W
  | [] => none
  | q :: l => bif Nat.beq pc q.1 then some q.2 else sv_at pc l
abbrev sv_Lo : Type := List (Option sv_V)
def sv_ga : sv_Lo → Nat → Option sv_V
  | [], _ => none
  | a :: _, 0 => a
  | _ :: l, n + 1 => sv_ga l n
def sv_se : sv_Lo → Nat → sv_V → sv_Lo
  | [], _, _ => []
  | _ :: l, 0, v => some v :: l
  | a :: l, n + 1, v => a :: sv_se l n v
/-- what a call does: an int; nothing; a cell of a role; a text or null -/
abbrev sv_F : Type := (List sv_V → sv_S → Option (Int32 × sv_S)) ⊕ ((List sv_V → sv_S → Option sv_S) ⊕ ((Nat × (List sv_V → sv_S → Option (Nat × sv_S))) ⊕ (List sv_V → sv_S → Option (Option Nat × sv_S))))
/-- links of a method: fields (class, slot), constants, the static row, whether locals hold no longs, calls by their pc (how many values they take) -/
abbrev sv_E : Type := (Nat → Option (Nat × Nat)) × ((Nat → Option sv_V) × ((Nat → Bool) × (Bool × (Nat → Option (Nat × sv_F)))))
def sv_b {α β : Type} (x : Option (α × sv_S)) (k : α → sv_S → Option β) : Option β := match x with
  | some (a, σ) => k a σ
  | none => none
def sv_b0 {β : Type} (x : Option sv_S) (k : sv_S → Option β) : Option β := match x with
  | some σ => k σ
  | none => none
def sv_bT {β : Type} (x : Option (Option Nat × sv_S)) (k0 : sv_S → Option β) (k1 : Nat → sv_S → Option β) : Option β := match x with
  | some (none, σ) => k0 σ
  | some (some t, σ) => k1 t σ
  | none => none
noncomputable def sv_g {β : Type} (c : Prop) (x : Option β) : Option β := sv_if c x none
/-- an index within -/
abbrev sv_in (i : Int32) (n : Nat) : Prop := 0 ≤ i.toInt ∧ i.toInt < n
def sv_tk : Nat → List sv_V → List sv_V → Option (List sv_V × List sv_V)
  | 0, acc, st => some (acc, st)
  | n + 1, acc, v :: st => sv_tk n (v :: acc) st
  | _ + 1, _, [] => none
def sv_sm (st : List sv_V) : Bool := match st with
  | [] => true
  | [_] => true
  | [_, _] => true
  | [_, _, _] => true
  | [_, _, _, _] => true
  | _ => false
/-- a switch -/
noncomputable def sv_sw {β : Type} (x : Int) (d : Nat) (go : Nat → Option β) : List (Int × Nat) → Option β
  | [] => go d
  | q :: l => sv_if (x = q.1) (go q.2) (sv_sw x d go l)
/-- a branch -/
noncomputable def sv_br {β : Type} (c : ClassFile.Cond) (x y : Int32) (t f : Option β) : Option β := match c with
  | .eq => sv_if (x = y) t f
  | .ne => sv_if (x = y) f t
  | .lt => sv_if (x < y) t f
  | .ge => sv_if (y ≤ x) t f
  | .gt => sv_if (y < x) t f
  | .le => sv_if (x ≤ y) t f
/-- a call -/
noncomputable def sv_cl {β : Type} (E : sv_E) (pc nx : Nat) (lo : sv_Lo) (st : List sv_V) (σ : sv_S) (go : Nat → sv_Lo → List sv_V → sv_S → Option β) : Option β :=
  match E.2.2.2.2 pc with
  | none => none
  | some (n, f) => match sv_tk n [] st with
    | none => none
    | some (as, rest) => bif sv_sm rest then (match f with
      | .inl F => sv_b (F as σ) (fun v σ => go nx lo (.inl v :: rest) σ)
      | .inr (.inl F) => sv_b0 (F as σ) (fun σ => go nx lo rest σ)
      | .inr (.inr (.inl F)) => sv_b (F.2 as σ) (fun i σ => go nx lo (sv_R F.1 i :: rest) σ)
      | .inr (.inr (.inr F)) => sv_bT (F as σ) (fun σ => go nx lo (sv_N :: rest) σ) (fun t σ => go nx lo (sv_R 18 t :: rest) σ)) else none
/-- one instruction -/
noncomputable def sv_i {β : Type} (E : sv_E) (rt : sv_V → sv_S → Option β) (pc : Nat) (cv : sv_V) (nx tg : Nat) (sw : List (Int × Nat)) (lo : sv_Lo) (st : List sv_V) (σ : sv_S) (go : Nat → sv_Lo → List sv_V → sv_S → Option β) : Instr → Option β
  | .iconst _ => go nx lo (cv :: st) σ
  | .bipush _ => go nx lo (cv :: st) σ
  | .sipush _ => go nx lo (cv :: st) σ
  | .lconst _ => go nx lo (cv :: st) σ
  | .aconst_null => go nx lo (sv_N :: st) σ
  | .ldc i => (match E.2.1 i with
    | some (.inl n) => go nx lo (.inl n :: st) σ
    | some (.inr (.inr (some (r, i)))) => go nx lo (sv_R r i :: st) σ
    | _ => none)
  | .ldc_w i => (match E.2.1 i with
    | some (.inl n) => go nx lo (.inl n :: st) σ
    | _ => none)
  | .ldc2_w i => (match E.2.1 i with
    | some (.inr (.inl n)) => go nx lo (sv_L n :: st) σ
    | _ => none)
  | .iload_n k => (match sv_ga lo k with
    | some (.inl n) => go nx lo (.inl n :: st) σ
    | _ => none)
  | .iload k => (match sv_ga lo k with
    | some (.inl n) => go nx lo (.inl n :: st) σ
    | _ => none)
  | .lload_n k => (match sv_ga lo k with
    | some (.inr (.inl n)) => go nx lo (sv_L n :: st) σ
    | _ => none)
  | .lload k => (match sv_ga lo k with
    | some (.inr (.inl n)) => go nx lo (sv_L n :: st) σ
    | _ => none)
  | .aload_n k => (match sv_ga lo k with
    | some (.inr (.inr (some (r, i)))) => go nx lo (sv_R r i :: st) σ
    | _ => none)
  | .aload k => (match sv_ga lo k with
    | some (.inr (.inr (some (r, i)))) => go nx lo (sv_R r i :: st) σ
    | _ => none)
  | .istore_n k => (match st with
    | .inl n :: st => bif E.2.2.2.1 then go nx (sv_se lo k (.inl n)) st σ else none
    | _ => none)
  | .istore k => (match st with
    | .inl n :: st => bif E.2.2.2.1 then go nx (sv_se lo k (.inl n)) st σ else none
    | _ => none)
  | .astore_n k => (match st with
    | .inr (.inr (some (r, i))) :: st => bif E.2.2.2.1 then go nx (sv_se lo k (sv_R r i)) st σ else none
    | _ => none)
  | .astore k => (match st with
    | .inr (.inr (some (r, i))) :: st => bif E.2.2.2.1 then go nx (sv_se lo k (sv_R r i)) st σ else none
    | _ => none)
  | .iinc k _ => (match sv_ga lo k, cv with
    | some (.inl n), .inl d => bif E.2.2.2.1 then go nx (sv_se lo k (.inl (n + d))) st σ else none
    | _, _ => none)
  | .iadd => (match st with
    | .inl y :: .inl x :: st => go nx lo (.inl (x + y) :: st) σ
    | _ => none)
  | .isub => (match st with
    | .inl y :: .inl x :: st => go nx lo (.inl (x - y) :: st) σ
    | _ => none)
  | .imul => (match st with
    | .inl y :: .inl x :: st => go nx lo (.inl (x * y) :: st) σ
    | _ => none)
  | .iand => (match st with
    | .inl y :: .inl x :: st => go nx lo (.inl (x &&& y) :: st) σ
    | _ => none)
  | .ior => (match st with
    | .inl y :: .inl x :: st => go nx lo (.inl (x ||| y) :: st) σ
    | _ => none)
  | .idiv => (match st with
    | .inl y :: .inl x :: st => sv_g (¬ y = 0) (go nx lo (.inl (x / y) :: st) σ)
    | _ => none)
  | .irem => (match st with
    | .inl y :: .inl x :: st => sv_g (¬ y = 0) (go nx lo (.inl (x - x / y * y) :: st) σ)
    | _ => none)
  | .ineg => (match st with
    | .inl x :: st => go nx lo (.inl (-x) :: st) σ
    | _ => none)
  | .ishl => (match st with
    | .inl y :: .inl x :: st => go nx lo (.inl (x <<< (y &&& 31)) :: st) σ
    | _ => none)
  | .ishr => (match st with
    | .inl y :: .inl x :: st => go nx lo (.inl (x >>> (y &&& 31)) :: st) σ
    | _ => none)
  | .iushr => (match st with
    | .inl y :: .inl x :: st => go nx lo (.inl ((x.toUInt32 >>> (y.toUInt32 &&& Int32.toUInt32 31)).toInt32) :: st) σ
    | _ => none)
  | .i2l => (match st with
    | .inl x :: st => go nx lo (sv_L x.toInt64 :: st) σ
    | _ => none)
  | .i2b => (match st with
    | .inl x :: st => go nx lo (.inl x.toInt8.toInt32 :: st) σ
    | _ => none)
  | .i2s => (match st with
    | .inl x :: st => go nx lo (.inl x.toInt16.toInt32 :: st) σ
    | _ => none)
  | .i2c => (match st with
    | .inl x :: st => go nx lo (.inl (x.toUInt32 % 65536).toInt32 :: st) σ
    | _ => none)
  | .ladd => (match st with
    | .inr (.inl y) :: .inr (.inl x) :: st => go nx lo (sv_L (x + y) :: st) σ
    | _ => none)
  | .lcmp => (match st with
    | .inr (.inl y) :: .inr (.inl x) :: st => go nx lo (.inl (lg_cmp x y) :: st) σ
    | _ => none)
  | .dup => (match st with
    | .inl x :: st => go nx lo (.inl x :: .inl x :: st) σ
    | .inr (.inr (some (r, i))) :: st => go nx lo (sv_R r i :: sv_R r i :: st) σ
    | _ => none)
  | .dup2 => (match st with
    | .inl x :: .inr (.inr (some (r, i))) :: st => go nx lo (.inl x :: sv_R r i :: .inl x :: sv_R r i :: st) σ
    | _ => none)
  | .pop => (match st with
    | .inl _ :: st => go nx lo st σ
    | _ => none)
  | .goto _ => go tg lo st σ
  | .ifCond c _ => (match st with
    | .inl x :: st => sv_br c x 0 (go tg lo st σ) (go nx lo st σ)
    | _ => none)
  | .if_icmp c _ => (match st with
    | .inl y :: .inl x :: st => sv_br c x y (go tg lo st σ) (go nx lo st σ)
    | _ => none)
  | .ifnull _ => (match st with
    | .inr (.inr none) :: st => go tg lo st σ
    | .inr (.inr (some _)) :: st => go nx lo st σ
    | _ => none)
  | .ifnonnull _ => (match st with
    | .inr (.inr none) :: st => go nx lo st σ
    | .inr (.inr (some _)) :: st => go tg lo st σ
    | _ => none)
  | .tableswitch _ _ _ _ => (match st with
    | .inl x :: st => sv_sw x.toInt tg (fun t => go t lo st σ) sw
    | _ => none)
  | .lookupswitch _ _ => (match st with
    | .inl x :: st => sv_sw x.toInt tg (fun t => go t lo st σ) sw
    | _ => none)
  | .getfield i => (match E.1 i, st with
    | some (c, k), .inr (.inr (some (r, j))) :: st => (match sv_kd r j with
      | .inl c' => bif Nat.beq c' c then (match sv_fr c j k with
        | some (r', j') => go nx lo (sv_R r' j' :: st) σ
        | none => go nx lo (.inl (σ r j k) :: st) σ) else none
      | .inr _ => none)
    | _, _ => none)
  | .putfield i => (match E.1 i, st with
    | some (c, k), .inl n :: .inr (.inr (some (r, j))) :: st => (match sv_kd r j with
      | .inl c' => bif Nat.beq c' c then (match sv_ft c k with
        | 0 => go nx lo st (sv_up σ r j k n)
        | 1 => sv_g (n = 0 ∨ n = 1) (go nx lo st (sv_up σ r j k n))
        | _ => none) else none
      | .inr _ => none)
    | _, _ => none)
  | .getstatic i => bif E.2.2.1 i then go nx lo (sv_R 21 0 :: st) σ else none
  | .arraylength => (match st with
    | .inr (.inr (some (r, j))) :: st => (match sv_kd r j with
      | .inr t => bif Nat.ble t 6 then go nx lo (.inl (nI (sv_ln r j σ)) :: st) σ else none
      | .inl _ => none)
    | _ => none)
  | .iaload => (match st with
    | .inl x :: .inr (.inr (some (r, j))) :: st => (match sv_kd r j with
      | .inr 0 => sv_g (sv_in x (sv_ln r j σ)) (go nx lo (.inl (σ r j x.toNatClampNeg) :: st) σ)
      | .inr 6 => sv_g (sv_in x 6) (go nx lo (.inl (sv_ab x.toNatClampNeg) :: st) σ)
      | _ => none)
    | _ => none)
  | .iastore => (match st with
    | .inl n :: .inl x :: .inr (.inr (some (r, j))) :: st => (match sv_kd r j with
      | .inr 0 => sv_g (sv_in x (sv_ln r j σ)) (go nx lo st (sv_up σ r j x.toNatClampNeg n))
      | _ => none)
    | _ => none)
  | .baload => (match st with
    | .inl x :: .inr (.inr (some (r, j))) :: st => (match sv_kd r j with
      | .inr 1 => sv_g (sv_in x (sv_ln r j σ)) (go nx lo (.inl (σ r j x.toNatClampNeg) :: st) σ)
      | _ => none)
    | _ => none)
  | .bastore => (match st with
    | .inl n :: .inl x :: .inr (.inr (some (r, j))) :: st => (match sv_kd r j with
      | .inr 1 => sv_g (sv_in x (sv_ln r j σ)) (go nx lo st (sv_up σ r j x.toNatClampNeg n.toInt8.toInt32))
      | _ => none)
    | _ => none)
  | .aaload => (match st with
    | .inl x :: .inr (.inr (some (r, j))) :: st => (match sv_kd r j with
      | .inr 2 => sv_g (sv_in x (sv_ln r j σ)) (go nx lo (sv_R 2 (10 * j + x.toNatClampNeg) :: st) σ)
      | .inr 3 => sv_g (sv_in x (sv_ln r j σ)) (sv_tx (σ r j x.toNatClampNeg) (go nx lo (sv_N :: st) σ) (fun t => sv_g (t < sv_ct σ) (go nx lo (sv_R 18 t :: st) σ)))
      | .inr 4 => sv_g (sv_in x (sv_ln r j σ)) (go nx lo (sv_R 7 x.toNatClampNeg :: st) σ)
      | .inr 5 => sv_g (sv_in x (sv_ln r j σ)) (go nx lo (sv_R 12 (4 * j + x.toNatClampNeg) :: st) σ)
      | _ => none)
    | _ => none)
  | .aastore => (match st with
    | .inr (.inr none) :: .inl x :: .inr (.inr (some (r, j))) :: st => (match sv_kd r j with
      | .inr 3 => sv_g (sv_in x (sv_ln r j σ)) (go nx lo st (sv_up σ r j x.toNatClampNeg 0))
      | _ => none)
    | .inr (.inr (some (18, t))) :: .inl x :: .inr (.inr (some (r, j))) :: st => (match sv_kd r j with
      | .inr 3 => sv_g (sv_in x (sv_ln r j σ)) (go nx lo st (sv_up σ r j x.toNatClampNeg (nI (t + 1))))
      | _ => none)
    | _ => none)
  | .invokevirtual _ => sv_cl E pc nx lo st σ go
  | .invokestatic _ => sv_cl E pc nx lo st σ go
  | .invokespecial _ => sv_cl E pc nx lo st σ go
  | .ireturn => (match st with
    | [.inl n] => rt (.inl n) σ
    | _ => none)
  | .areturn => (match st with
    | [.inr (.inr none)] => rt sv_N σ
    | [.inr (.inr (some (r, i)))] => rt (sv_R r i) σ
    | _ => none)
  | .return_ => (match st with
    | [] => rt sv_N σ
    | _ => none)
  | _ => none
/-- places at which a run is cut, and what is said to follow there -/
abbrev sv_K (β : Type) : Type := Nat → Option (sv_Lo → List sv_V → sv_S → Option β)
/-- a run of at most n instructions -/
noncomputable def sv_ex {β : Type} (E : sv_E) (rt : sv_V → sv_S → Option β) (K : sv_K β) (cd : sv_C) : Nat → Nat → sv_Lo → List sv_V → sv_S → Option β
  | 0, _, _, _, _ => none
  | n + 1, pc, lo, st, σ => match sv_at pc cd with
    | none => none
    | some (ins, (cv, (nx, (tg, sw)))) => sv_i E rt pc cv nx tg sw lo st σ (fun pc lo st σ => match K pc with
      | some k => k lo st σ
      | none => sv_ex E rt K cd n pc lo st σ) ins
/-- the length of an instruction (0: not asked) -/
def sv_il : Instr → Nat
  | .bipush _ => 2
  | .sipush _ => 3
  | .ldc _ => 2
  | .ldc_w _ => 3
  | .ldc2_w _ => 3
  | .iload _ => 2
  | .lload _ => 2
  | .aload _ => 2
  | .istore _ => 2
  | .astore _ => 2
  | .iinc _ _ => 3
  | .goto _ => 3
  | .ifCond _ _ => 3
  | .if_icmp _ _ => 3
  | .ifnull _ => 3
  | .ifnonnull _ => 3
  | .tableswitch _ _ _ _ => 0
  | .lookupswitch _ _ => 0
  | .getfield _ => 3
  | .putfield _ => 3
  | .getstatic _ => 3
  | .invokevirtual _ => 3
  | .invokestatic _ => 3
  | .invokespecial _ => 3
  | _ => 1
def sv_tk1 (pc : Nat) (l : Int) : List Int → List (Int × Nat) → Bool
  | [], [] => true
  | o :: os, q :: qs => decide (q.1 = l) && decide ((pc : Int) + o = (q.2 : Int)) && sv_tk1 pc (l + 1) os qs
  | _, _ => false
def sv_tk2 (pc : Nat) : List (Int × Int) → List (Int × Nat) → Bool
  | [], [] => true
  | o :: os, q :: qs => decide (q.1 = o.1) && decide ((pc : Int) + o.2 = (q.2 : Int)) && sv_tk2 pc os qs
  | _, _ => false
/-- what the code's row must say of a switch, of a constant, of a branch -/
def sv_sk (pc : Nat) (cv : sv_V) (tg : Nat) (sw : List (Int × Nat)) : Instr → Bool
  | .tableswitch d l h offs => decide ((offs.toList.length : Int) = h + 1 - l) && decide ((pc : Int) + d = (tg : Int)) && sv_tk1 pc l offs.toList sw
  | .lookupswitch d ps => (ps.toList.zip (ps.toList.drop 1)).all (fun (a, next) => a.1 < next.1) && decide ((pc : Int) + d = (tg : Int)) && sv_tk2 pc ps.toList sw
  | .iconst n => decide (cv = .inl (Int32.ofInt n))
  | .bipush n => decide (cv = .inl (Int8.ofInt n).toInt32)
  | .sipush n => decide (cv = .inl (Int16.ofInt n).toInt32)
  | .iinc _ n => decide (cv = .inl (Int32.ofInt n))
  | .lconst n => decide (cv = .inr (.inl (Int64.ofNat (n : Nat))))
  | .goto o => decide ((pc : Int) + o = (tg : Int))
  | .ifCond _ o => decide ((pc : Int) + o = (tg : Int))
  | .if_icmp _ o => decide ((pc : Int) + o = (tg : Int))
  | .ifnull o => decide ((pc : Int) + o = (tg : Int))
  | .ifnonnull o => decide ((pc : Int) + o = (tg : Int))
  | _ => true
def sv_dk (cc : ByteArray) (q : Nat × sv_W) : Bool := match decode cc q.1 with
  | .ok (ins, len) => decide (ins = q.2.1) && ((Nat.beq (sv_il ins) 0 || Nat.beq (sv_il ins) len) && (Nat.beq q.2.2.2.1 (q.1 + sv_il ins) && sv_sk q.1 q.2.2.1 q.2.2.2.2.1 q.2.2.2.2.2 ins))
  | _ => false
end
section
def sv_fu : Nat := 4000
def sv_rI (v : sv_V) (σ : sv_S) : Option (Int32 × sv_S) := match v with
  | .inl n => some (n, σ)
  | _ => none
def sv_rV (_ : sv_V) (σ : sv_S) : Option sv_S := some σ
def sv_rR (q : Nat) (v : sv_V) (σ : sv_S) : Option (Nat × sv_S) := match v with
  | .inr (.inr (some (r, i))) => bif Nat.beq r q then some (i, σ) else none
  | _ => none
def sv_rT (v : sv_V) (σ : sv_S) : Option (Option Nat × sv_S) := match v with
  | .inr (.inr none) => some (none, σ)
  | .inr (.inr (some (r, i))) => bif Nat.beq r 18 then some (some i, σ) else none
  | _ => none
def fl_0 : List (Nat × (Nat × Nat)) := []
def kc_0 : List (Nat × sv_V) := []
def fl_1 : List (Nat × (Nat × Nat)) := [(9, (1, 0)), (15, (1, 1)), (18, (1, 5)), (21, (1, 7)), (24, (1, 6)), (30, (1, 2)), (33, (1, 3)), (36, (1, 4))]
def kc_1 : List (Nat × sv_V) := []
def fl_2 : List (Nat × (Nat × Nat)) := []
def kc_2 : List (Nat × sv_V) := []
def fl_3 : List (Nat × (Nat × Nat)) := []
def kc_3 : List (Nat × sv_V) := []
def fl_4 : List (Nat × (Nat × Nat)) := []
def kc_4 : List (Nat × sv_V) := []
def fl_5 : List (Nat × (Nat × Nat)) := [(9, (5, 0)), (17, (5, 1)), (24, (5, 2)), (28, (5, 3)), (38, (5, 7)), (42, (5, 4)), (45, (5, 5)), (48, (5, 6)), (51, (5, 8)), (68, (1, 0)), (71, (9, 0)), (81, (1, 6)), (99, (1, 1)), (117, (1, 2)), (149, (1, 7)), (152, (1, 5))]
def kc_5 : List (Nat × sv_V) := [(74, .inl (1103515245 : Int32)), (142, .inl (-1000000005 : Int32))]
def fl_6 : List (Nat × (Nat × Nat)) := [(9, (6, 0)), (15, (6, 2)), (19, (6, 1))]
def kc_6 : List (Nat × sv_V) := [(38, .inl (-1000000005 : Int32))]
def fl_7 : List (Nat × (Nat × Nat)) := []
def kc_7 : List (Nat × sv_V) := []
def fl_8 : List (Nat × (Nat × Nat)) := [(9, (8, 0)), (15, (8, 8)), (19, (8, 1)), (25, (8, 5)), (28, (8, 6)), (31, (8, 7)), (43, (8, 3)), (46, (8, 4)), (68, (8, 2))]
def kc_8 : List (Nat × sv_V) := []
def fl_9 : List (Nat × (Nat × Nat)) := [(9, (9, 0)), (15, (9, 1)), (18, (9, 2)), (22, (9, 3))]
def kc_9 : List (Nat × sv_V) := [(25, sv_R 23 0), (27, sv_R 23 1), (29, sv_R 23 2), (31, sv_R 23 3), (33, sv_R 23 4), (35, sv_R 23 5)]
def fl_10 : List (Nat × (Nat × Nat)) := []
def kc_10 : List (Nat × sv_V) := []
def fl_11 : List (Nat × (Nat × Nat)) := [(30, (11, 0)), (36, (11, 1)), (39, (11, 2)), (45, (11, 4)), (51, (11, 5)), (56, (11, 6)), (60, (11, 7)), (65, (11, 8)), (69, (11, 9)), (73, (11, 10)), (76, (11, 12)), (88, (5, 4)), (100, (5, 1)), (103, (1, 0)), (106, (1, 1)), (109, (1, 2)), (112, (1, 3)), (115, (1, 4)), (118, (1, 5)), (121, (1, 7)), (125, (1, 6)), (140, (5, 5)), (154, (5, 6)), (169, (5, 7)), (232, (8, 1)), (241, (8, 2)), (244, (5, 8)), (255, (5, 2)), (259, (9, 0)), (262, (9, 1)), (265, (5, 3)), (277, (6, 0)), (280, (6, 2)), (291, (6, 1)), (312, (11, 11)), (315, (11, 3))]
def kc_11 : List (Nat × sv_V) := [(87, .inl (-1000000001 : Int32)), (92, .inl (-1000000003 : Int32)), (124, .inl (-1000000005 : Int32)), (153, .inl (-1000000012 : Int32)), (172, .inl (-1000000002 : Int32)), (214, .inl (-1000000011 : Int32)), (268, .inl (-1000000014 : Int32)), (276, .inl (-1000000013 : Int32)), (283, .inl (-99999 : Int32)), (284, .inl (99999 : Int32))]
def fl_12 : List (Nat × (Nat × Nat)) := [(7, (12, 0)), (13, (12, 1)), (16, (12, 2)), (19, (12, 4)), (22, (12, 5)), (25, (12, 6)), (28, (12, 7)), (31, (12, 8)), (34, (12, 9)), (37, (12, 10)), (40, (12, 11)), (43, (12, 12)), (46, (12, 13)), (49, (12, 14)), (52, (12, 16)), (55, (12, 28)), (58, (12, 29)), (61, (12, 30)), (64, (12, 31)), (67, (12, 33)), (174, (12, 15)), (197, (12, 17)), (208, (12, 19)), (211, (12, 20)), (214, (12, 18)), (220, (12, 22)), (226, (12, 21)), (237, (12, 26)), (240, (12, 25)), (267, (12, 27)), (273, (12, 24)), (276, (12, 23)), (317, (12, 32)), (320, (12, 3))]
def kc_12 : List (Nat × sv_V) := [(70, .inl (-1000000005 : Int32)), (75, .inl (1103515245 : Int32)), (80, .inr (.inl (5 : Int64))), (82, .inr (.inl (9 : Int64))), (84, .inl (-1000000001 : Int32)), (85, .inl (-1000000003 : Int32)), (133, .inl (-1000000012 : Int32)), (137, .inr (.inl (3 : Int64))), (139, .inr (.inl (100 : Int64))), (141, .inr (.inl (10 : Int64))), (153, .inl (-1000000002 : Int32)), (160, .inr (.inl (2 : Int64))), (185, .inr (.inl (60 : Int64))), (187, .inr (.inl (40 : Int64))), (192, .inr (.inl (30 : Int64))), (200, .inr (.inl (97 : Int64))), (202, .inr (.inl (122 : Int64))), (204, .inr (.inl (48 : Int64))), (206, .inr (.inl (57 : Int64))), (300, .inr (.inl (-1 : Int64))), (302, .inl (-1000000014 : Int32)), (303, .inl (-1000000011 : Int32)), (304, .inl (-1000000013 : Int32)), (305, .inr (.inl (-99999 : Int64))), (307, .inr (.inl (99999 : Int64))), (312, .inr (.inl (4 : Int64)))]
















































noncomputable def f_Mo_isIn (a0 : Int64) (a1 : Int64) (a2 : Int64) (σ : sv_S) : Option (Int32 × sv_S) :=
  sv_if ((lg_cmp a0 a1) < 0)
    (some ((0 : Int32), σ))
    (sv_if (0 < (lg_cmp a0 a2))
      (some ((0 : Int32), σ))
      (some ((1 : Int32), σ)))
noncomputable def n_Mo_isIn : List sv_V → sv_S → Option (Int32 × sv_S)
  | [.inr (.inl a0), .inr (.inl a1), .inr (.inl a2)], σ => f_Mo_isIn a0 a1 a2 σ
  | _, _ => none
def cd_Mo_isIn : sv_C := [(0, (.lload_n 0, (sv_N, (1, (0, []))))), (1, (.lload_n 2, (sv_N, (2, (0, []))))), (2, (.lcmp, (sv_N, (3, (0, []))))), (3, (.ifCond .lt 14, (sv_N, (6, (17, []))))), (6, (.lload_n 0, (sv_N, (7, (0, []))))), (7, (.lload 4, (sv_N, (9, (0, []))))), (9, (.lcmp, (sv_N, (10, (0, []))))), (10, (.ifCond .gt 7, (sv_N, (13, (17, []))))), (13, (.iconst 1, (.inl (1 : Int32), (14, (0, []))))), (14, (.goto 4, (sv_N, (17, (18, []))))), (17, (.iconst 0, (.inl (0 : Int32), (18, (0, []))))), (18, (.ireturn, (sv_N, (19, (0, [])))))]
noncomputable def ev_Mo_isIn : sv_E := (fun i => sv_lk i fl_12, (fun i => sv_lk i kc_12, (fun i => Nat.beq i 0, (false, fun pc => sv_lk pc []))))
noncomputable def kk_Mo_isIn : sv_K (Int32 × sv_S) := fun pc => sv_lk pc []
set_option maxRecDepth 20000 in
theorem e_Mo_isIn (a0 : Int64) (a1 : Int64) (a2 : Int64) (σ : sv_S) : sv_ex ev_Mo_isIn sv_rI kk_Mo_isIn cd_Mo_isIn 14 0 [some (sv_L a0), none, some (sv_L a1), none, some (sv_L a2), none] [] σ = f_Mo_isIn a0 a1 a2 σ := by
  unfold f_Mo_isIn
  delta ev_Mo_isIn kk_Mo_isIn
  rfl
noncomputable def f_Mo_orNone (a0 : Int32) (σ : sv_S) : Option (Int32 × sv_S) :=
  sv_if (0 ≤ a0)
    (some (a0, σ))
    (some ((-1000000005 : Int32), σ))
noncomputable def n_Mo_orNone : List sv_V → sv_S → Option (Int32 × sv_S)
  | [.inl a0], σ => f_Mo_orNone a0 σ
  | _, _ => none
def cd_Mo_orNone : sv_C := [(0, (.iload_n 0, (sv_N, (1, (0, []))))), (1, (.ifCond .ge 8, (sv_N, (4, (9, []))))), (4, (.ldc 70, (sv_N, (6, (0, []))))), (6, (.goto 4, (sv_N, (9, (10, []))))), (9, (.iload_n 0, (sv_N, (10, (0, []))))), (10, (.ireturn, (sv_N, (11, (0, [])))))]
noncomputable def ev_Mo_orNone : sv_E := (fun i => sv_lk i fl_12, (fun i => sv_lk i kc_12, (fun i => Nat.beq i 0, (true, fun pc => sv_lk pc []))))
noncomputable def kk_Mo_orNone : sv_K (Int32 × sv_S) := fun pc => sv_lk pc []
set_option maxRecDepth 20000 in
theorem e_Mo_orNone (a0 : Int32) (σ : sv_S) : sv_ex ev_Mo_orNone sv_rI kk_Mo_orNone cd_Mo_orNone 8 0 [some (.inl a0)] [] σ = f_Mo_orNone a0 σ := by
  unfold f_Mo_orNone
  delta ev_Mo_orNone kk_Mo_orNone
  rfl
noncomputable def f_Mo_held (a0 : Int32) (a1 : Int32) (a2 : Int32) (σ : sv_S) : Option (Int32 × sv_S) :=
  sv_if (a1 ≤ a0)
    (sv_if (a0 ≤ a2)
      (some (a0, σ))
      (some (a2, σ)))
    (some (a1, σ))
noncomputable def n_Mo_held : List sv_V → sv_S → Option (Int32 × sv_S)
  | [.inl a0, .inl a1, .inl a2], σ => f_Mo_held a0 a1 a2 σ
  | _, _ => none
def cd_Mo_held : sv_C := [(0, (.iload_n 0, (sv_N, (1, (0, []))))), (1, (.iload_n 1, (sv_N, (2, (0, []))))), (2, (.if_icmp .ge 7, (sv_N, (5, (9, []))))), (5, (.iload_n 1, (sv_N, (6, (0, []))))), (6, (.goto 13, (sv_N, (9, (19, []))))), (9, (.iload_n 0, (sv_N, (10, (0, []))))), (10, (.iload_n 2, (sv_N, (11, (0, []))))), (11, (.if_icmp .le 7, (sv_N, (14, (18, []))))), (14, (.iload_n 2, (sv_N, (15, (0, []))))), (15, (.goto 4, (sv_N, (18, (19, []))))), (18, (.iload_n 0, (sv_N, (19, (0, []))))), (19, (.ireturn, (sv_N, (20, (0, [])))))]
noncomputable def ev_Mo_held : sv_E := (fun i => sv_lk i fl_12, (fun i => sv_lk i kc_12, (fun i => Nat.beq i 0, (true, fun pc => sv_lk pc []))))
noncomputable def kk_Mo_held : sv_K (Int32 × sv_S) := fun pc => sv_lk pc []
set_option maxRecDepth 20000 in
theorem e_Mo_held (a0 : Int32) (a1 : Int32) (a2 : Int32) (σ : sv_S) : sv_ex ev_Mo_held sv_rI kk_Mo_held cd_Mo_held 14 0 [some (.inl a0), some (.inl a1), some (.inl a2)] [] σ = f_Mo_held a0 a1 a2 σ := by
  unfold f_Mo_held
  delta ev_Mo_held kk_Mo_held
  rfl
noncomputable def f_Mo_off (a0 : Int32) (a1 : Int32) (σ : sv_S) : Option (Int32 × sv_S) :=
  sv_if (a1 ≤ a0)
    (some (a0 - a1, σ))
    (some (a1 - a0, σ))
noncomputable def n_Mo_off : List sv_V → sv_S → Option (Int32 × sv_S)
  | [.inl a0, .inl a1], σ => f_Mo_off a0 a1 σ
  | _, _ => none
def cd_Mo_off : sv_C := [(0, (.iload_n 0, (sv_N, (1, (0, []))))), (1, (.iload_n 1, (sv_N, (2, (0, []))))), (2, (.if_icmp .ge 9, (sv_N, (5, (11, []))))), (5, (.iload_n 1, (sv_N, (6, (0, []))))), (6, (.iload_n 0, (sv_N, (7, (0, []))))), (7, (.isub, (sv_N, (8, (0, []))))), (8, (.goto 6, (sv_N, (11, (14, []))))), (11, (.iload_n 0, (sv_N, (12, (0, []))))), (12, (.iload_n 1, (sv_N, (13, (0, []))))), (13, (.isub, (sv_N, (14, (0, []))))), (14, (.ireturn, (sv_N, (15, (0, [])))))]
noncomputable def ev_Mo_off : sv_E := (fun i => sv_lk i fl_12, (fun i => sv_lk i kc_12, (fun i => Nat.beq i 0, (true, fun pc => sv_lk pc []))))
noncomputable def kk_Mo_off : sv_K (Int32 × sv_S) := fun pc => sv_lk pc []
set_option maxRecDepth 20000 in
theorem e_Mo_off (a0 : Int32) (a1 : Int32) (σ : sv_S) : sv_ex ev_Mo_off sv_rI kk_Mo_off cd_Mo_off 13 0 [some (.inl a0), some (.inl a1)] [] σ = f_Mo_off a0 a1 σ := by
  unfold f_Mo_off
  delta ev_Mo_off kk_Mo_off
  rfl
noncomputable def f_Mo_becomes (a1 : Int32) (a2 : Int32) (σ : sv_S) : Option (Int32 × sv_S) :=
  sv_g (sv_in a1 3086) (sv_g (sv_in a1 3086) (some (σ 31 0 (a1.toNatClampNeg), sv_up σ 31 0 (a1.toNatClampNeg) a2)))
noncomputable def n_Mo_becomes : List sv_V → sv_S → Option (Int32 × sv_S)
  | [.inr (.inr (some (30, 0))), .inl a1, .inl a2], σ => f_Mo_becomes a1 a2 σ
  | _, _ => none
def cd_Mo_becomes : sv_C := [(0, (.aload_n 0, (sv_N, (1, (0, []))))), (1, (.getfield 7, (sv_N, (4, (0, []))))), (4, (.iload_n 1, (sv_N, (5, (0, []))))), (5, (.iaload, (sv_N, (6, (0, []))))), (6, (.istore_n 3, (sv_N, (7, (0, []))))), (7, (.aload_n 0, (sv_N, (8, (0, []))))), (8, (.getfield 7, (sv_N, (11, (0, []))))), (11, (.iload_n 1, (sv_N, (12, (0, []))))), (12, (.iload_n 2, (sv_N, (13, (0, []))))), (13, (.iastore, (sv_N, (14, (0, []))))), (14, (.iload_n 3, (sv_N, (15, (0, []))))), (15, (.ireturn, (sv_N, (16, (0, [])))))]
noncomputable def ev_Mo_becomes : sv_E := (fun i => sv_lk i fl_12, (fun i => sv_lk i kc_12, (fun i => Nat.beq i 0, (true, fun pc => sv_lk pc []))))
noncomputable def kk_Mo_becomes : sv_K (Int32 × sv_S) := fun pc => sv_lk pc []
set_option maxRecDepth 20000 in
theorem e_Mo_becomes (a1 : Int32) (a2 : Int32) (σ : sv_S) : sv_ex ev_Mo_becomes sv_rI kk_Mo_becomes cd_Mo_becomes 14 0 [some (.inr (.inr (some (30, 0)))), some (.inl a1), some (.inl a2), none] [] σ = f_Mo_becomes a1 a2 σ := by
  unfold f_Mo_becomes
  delta ev_Mo_becomes kk_Mo_becomes
  rfl
noncomputable def f_Mo_textAt (a1 : Int32) (σ : sv_S) : Option (Int32 × sv_S) :=
  some ((86 : Int32) + ((200 : Int32) * a1), σ)
noncomputable def n_Mo_textAt : List sv_V → sv_S → Option (Int32 × sv_S)
  | [.inr (.inr (some (30, 0))), .inl a1], σ => f_Mo_textAt a1 σ
  | _, _ => none
def cd_Mo_textAt : sv_C := [(0, (.bipush 86, (.inl (86 : Int32), (2, (0, []))))), (2, (.sipush 200, (.inl (200 : Int32), (5, (0, []))))), (5, (.iload_n 1, (sv_N, (6, (0, []))))), (6, (.imul, (sv_N, (7, (0, []))))), (7, (.iadd, (sv_N, (8, (0, []))))), (8, (.ireturn, (sv_N, (9, (0, [])))))]
noncomputable def ev_Mo_textAt : sv_E := (fun i => sv_lk i fl_12, (fun i => sv_lk i kc_12, (fun i => Nat.beq i 0, (true, fun pc => sv_lk pc []))))
noncomputable def kk_Mo_textAt : sv_K (Int32 × sv_S) := fun pc => sv_lk pc []
set_option maxRecDepth 20000 in
theorem e_Mo_textAt (a1 : Int32) (σ : sv_S) : sv_ex ev_Mo_textAt sv_rI kk_Mo_textAt cd_Mo_textAt 8 0 [some (.inr (.inr (some (30, 0)))), some (.inl a1)] [] σ = f_Mo_textAt a1 σ := by
  unfold f_Mo_textAt
  delta ev_Mo_textAt kk_Mo_textAt
  rfl
noncomputable def f_Mo_of (a1 : Int32) (a2 : Int32) (σ : sv_S) : Option (Int32 × sv_S) :=
  sv_g (sv_in (((6 : Int32) + ((8 : Int32) * a1)) + a2) 3086) (some (σ 31 0 ((((6 : Int32) + ((8 : Int32) * a1)) + a2).toNatClampNeg), σ))
noncomputable def n_Mo_of : List sv_V → sv_S → Option (Int32 × sv_S)
  | [.inr (.inr (some (30, 0))), .inl a1, .inl a2], σ => f_Mo_of a1 a2 σ
  | _, _ => none
def cd_Mo_of : sv_C := [(0, (.aload_n 0, (sv_N, (1, (0, []))))), (1, (.getfield 7, (sv_N, (4, (0, []))))), (4, (.bipush 6, (.inl (6 : Int32), (6, (0, []))))), (6, (.bipush 8, (.inl (8 : Int32), (8, (0, []))))), (8, (.iload_n 1, (sv_N, (9, (0, []))))), (9, (.imul, (sv_N, (10, (0, []))))), (10, (.iadd, (sv_N, (11, (0, []))))), (11, (.iload_n 2, (sv_N, (12, (0, []))))), (12, (.iadd, (sv_N, (13, (0, []))))), (13, (.iaload, (sv_N, (14, (0, []))))), (14, (.ireturn, (sv_N, (15, (0, [])))))]
noncomputable def ev_Mo_of : sv_E := (fun i => sv_lk i fl_12, (fun i => sv_lk i kc_12, (fun i => Nat.beq i 0, (true, fun pc => sv_lk pc []))))
noncomputable def kk_Mo_of : sv_K (Int32 × sv_S) := fun pc => sv_lk pc []
set_option maxRecDepth 20000 in
theorem e_Mo_of (a1 : Int32) (a2 : Int32) (σ : sv_S) : sv_ex ev_Mo_of sv_rI kk_Mo_of cd_Mo_of 13 0 [some (.inr (.inr (some (30, 0)))), some (.inl a1), some (.inl a2)] [] σ = f_Mo_of a1 a2 σ := by
  unfold f_Mo_of
  delta ev_Mo_of kk_Mo_of
  rfl
noncomputable def f_Mo_sets (a1 : Int32) (a2 : Int32) (a3 : Int32) (σ : sv_S) : Option (sv_S) :=
  sv_g (sv_in (((6 : Int32) + ((8 : Int32) * a1)) + a2) 3086) (some (sv_up σ 31 0 ((((6 : Int32) + ((8 : Int32) * a1)) + a2).toNatClampNeg) a3))
noncomputable def n_Mo_sets : List sv_V → sv_S → Option (sv_S)
  | [.inr (.inr (some (30, 0))), .inl a1, .inl a2, .inl a3], σ => f_Mo_sets a1 a2 a3 σ
  | _, _ => none
def cd_Mo_sets : sv_C := [(0, (.aload_n 0, (sv_N, (1, (0, []))))), (1, (.getfield 7, (sv_N, (4, (0, []))))), (4, (.bipush 6, (.inl (6 : Int32), (6, (0, []))))), (6, (.bipush 8, (.inl (8 : Int32), (8, (0, []))))), (8, (.iload_n 1, (sv_N, (9, (0, []))))), (9, (.imul, (sv_N, (10, (0, []))))), (10, (.iadd, (sv_N, (11, (0, []))))), (11, (.iload_n 2, (sv_N, (12, (0, []))))), (12, (.iadd, (sv_N, (13, (0, []))))), (13, (.iload_n 3, (sv_N, (14, (0, []))))), (14, (.iastore, (sv_N, (15, (0, []))))), (15, (.return_, (sv_N, (16, (0, [])))))]
noncomputable def ev_Mo_sets : sv_E := (fun i => sv_lk i fl_12, (fun i => sv_lk i kc_12, (fun i => Nat.beq i 0, (true, fun pc => sv_lk pc []))))
noncomputable def kk_Mo_sets : sv_K (sv_S) := fun pc => sv_lk pc []
set_option maxRecDepth 20000 in
theorem e_Mo_sets (a1 : Int32) (a2 : Int32) (a3 : Int32) (σ : sv_S) : sv_ex ev_Mo_sets sv_rV kk_Mo_sets cd_Mo_sets 14 0 [some (.inr (.inr (some (30, 0)))), some (.inl a1), some (.inl a2), some (.inl a3)] [] σ = f_Mo_sets a1 a2 a3 σ := by
  unfold f_Mo_sets
  delta ev_Mo_sets kk_Mo_sets
  rfl
noncomputable def f_Mo_isDrummer (a1 : Int32) (σ : sv_S) : Option (Int32 × sv_S) :=
  sv_g (sv_in (0 : Int32) 3086) (sv_b (f_Mo_isIn (a1.toInt64) (0 : Int64) (((σ 31 0 ((0 : Int32).toNatClampNeg)) - (1 : Int32)).toInt64) σ) (fun v1 σ2 =>
    some (v1, σ2)))
noncomputable def n_Mo_isDrummer : List sv_V → sv_S → Option (Int32 × sv_S)
  | [.inr (.inr (some (30, 0))), .inl a1], σ => f_Mo_isDrummer a1 σ
  | _, _ => none
def cd_Mo_isDrummer : sv_C := [(0, (.iload_n 1, (sv_N, (1, (0, []))))), (1, (.i2l, (sv_N, (2, (0, []))))), (2, (.lconst 0, (.inr (.inl (0 : Int64)), (3, (0, []))))), (3, (.aload_n 0, (sv_N, (4, (0, []))))), (4, (.getfield 7, (sv_N, (7, (0, []))))), (7, (.iconst 0, (.inl (0 : Int32), (8, (0, []))))), (8, (.iaload, (sv_N, (9, (0, []))))), (9, (.iconst 1, (.inl (1 : Int32), (10, (0, []))))), (10, (.isub, (sv_N, (11, (0, []))))), (11, (.i2l, (sv_N, (12, (0, []))))), (12, (.invokestatic 71, (sv_N, (15, (0, []))))), (15, (.ireturn, (sv_N, (16, (0, [])))))]
noncomputable def ev_Mo_isDrummer : sv_E := (fun i => sv_lk i fl_12, (fun i => sv_lk i kc_12, (fun i => Nat.beq i 0, (true, fun pc => sv_lk pc [(12, (3, .inl n_Mo_isIn))]))))
noncomputable def kk_Mo_isDrummer : sv_K (Int32 × sv_S) := fun pc => sv_lk pc []
set_option maxRecDepth 20000 in
theorem e_Mo_isDrummer (a1 : Int32) (σ : sv_S) : sv_ex ev_Mo_isDrummer sv_rI kk_Mo_isDrummer cd_Mo_isDrummer 14 0 [some (.inr (.inr (some (30, 0)))), some (.inl a1)] [] σ = f_Mo_isDrummer a1 σ := by
  unfold f_Mo_isDrummer
  delta ev_Mo_isDrummer kk_Mo_isDrummer n_Mo_isIn
  generalize f_Mo_isIn = c0
  rfl
noncomputable def f_Mo_isText (a1 : Int32) (σ : sv_S) : Option (Int32 × sv_S) :=
  sv_g (sv_in (1 : Int32) 3086) (sv_b (f_Mo_isIn (a1.toInt64) (0 : Int64) (((σ 31 0 ((1 : Int32).toNatClampNeg)) - (1 : Int32)).toInt64) σ) (fun v1 σ2 =>
    some (v1, σ2)))
noncomputable def n_Mo_isText : List sv_V → sv_S → Option (Int32 × sv_S)
  | [.inr (.inr (some (30, 0))), .inl a1], σ => f_Mo_isText a1 σ
  | _, _ => none
def cd_Mo_isText : sv_C := [(0, (.iload_n 1, (sv_N, (1, (0, []))))), (1, (.i2l, (sv_N, (2, (0, []))))), (2, (.lconst 0, (.inr (.inl (0 : Int64)), (3, (0, []))))), (3, (.aload_n 0, (sv_N, (4, (0, []))))), (4, (.getfield 7, (sv_N, (7, (0, []))))), (7, (.iconst 1, (.inl (1 : Int32), (8, (0, []))))), (8, (.iaload, (sv_N, (9, (0, []))))), (9, (.iconst 1, (.inl (1 : Int32), (10, (0, []))))), (10, (.isub, (sv_N, (11, (0, []))))), (11, (.i2l, (sv_N, (12, (0, []))))), (12, (.invokestatic 71, (sv_N, (15, (0, []))))), (15, (.ireturn, (sv_N, (16, (0, [])))))]
noncomputable def ev_Mo_isText : sv_E := (fun i => sv_lk i fl_12, (fun i => sv_lk i kc_12, (fun i => Nat.beq i 0, (true, fun pc => sv_lk pc [(12, (3, .inl n_Mo_isIn))]))))
noncomputable def kk_Mo_isText : sv_K (Int32 × sv_S) := fun pc => sv_lk pc []
set_option maxRecDepth 20000 in
theorem e_Mo_isText (a1 : Int32) (σ : sv_S) : sv_ex ev_Mo_isText sv_rI kk_Mo_isText cd_Mo_isText 14 0 [some (.inr (.inr (some (30, 0)))), some (.inl a1)] [] σ = f_Mo_isText a1 σ := by
  unfold f_Mo_isText
  delta ev_Mo_isText kk_Mo_isText n_Mo_isIn
  generalize f_Mo_isIn = c0
  rfl
noncomputable def f_Mo_drawn (σ : sv_S) : Option (Int32 × sv_S) :=
  sv_g (sv_in (4 : Int32) 3086) (sv_g (sv_in (4 : Int32) 3086) (sv_g (sv_in (4 : Int32) 3086) (some ((((sv_up σ 31 0 ((4 : Int32).toNatClampNeg) (((σ 31 0 ((4 : Int32).toNatClampNeg)) * (1103515245 : Int32)) + (12345 : Int32))) 31 0 ((4 : Int32).toNatClampNeg)).toUInt32 >>> ((8 : Int32).toUInt32 &&& Int32.toUInt32 31)).toInt32, sv_up σ 31 0 ((4 : Int32).toNatClampNeg) (((σ 31 0 ((4 : Int32).toNatClampNeg)) * (1103515245 : Int32)) + (12345 : Int32))))))
noncomputable def n_Mo_drawn : List sv_V → sv_S → Option (Int32 × sv_S)
  | [.inr (.inr (some (30, 0)))], σ => f_Mo_drawn σ
  | _, _ => none
def cd_Mo_drawn : sv_C := [(0, (.aload_n 0, (sv_N, (1, (0, []))))), (1, (.getfield 7, (sv_N, (4, (0, []))))), (4, (.iconst 4, (.inl (4 : Int32), (5, (0, []))))), (5, (.aload_n 0, (sv_N, (6, (0, []))))), (6, (.getfield 7, (sv_N, (9, (0, []))))), (9, (.iconst 4, (.inl (4 : Int32), (10, (0, []))))), (10, (.iaload, (sv_N, (11, (0, []))))), (11, (.ldc 75, (sv_N, (13, (0, []))))), (13, (.imul, (sv_N, (14, (0, []))))), (14, (.sipush 12345, (.inl (12345 : Int32), (17, (0, []))))), (17, (.iadd, (sv_N, (18, (0, []))))), (18, (.iastore, (sv_N, (19, (0, []))))), (19, (.aload_n 0, (sv_N, (20, (0, []))))), (20, (.getfield 7, (sv_N, (23, (0, []))))), (23, (.iconst 4, (.inl (4 : Int32), (24, (0, []))))), (24, (.iaload, (sv_N, (25, (0, []))))), (25, (.bipush 8, (.inl (8 : Int32), (27, (0, []))))), (27, (.iushr, (sv_N, (28, (0, []))))), (28, (.ireturn, (sv_N, (29, (0, [])))))]
noncomputable def ev_Mo_drawn : sv_E := (fun i => sv_lk i fl_12, (fun i => sv_lk i kc_12, (fun i => Nat.beq i 0, (true, fun pc => sv_lk pc []))))
noncomputable def kk_Mo_drawn : sv_K (Int32 × sv_S) := fun pc => sv_lk pc []
set_option maxRecDepth 20000 in
theorem e_Mo_drawn (σ : sv_S) : sv_ex ev_Mo_drawn sv_rI kk_Mo_drawn cd_Mo_drawn 21 0 [some (.inr (.inr (some (30, 0))))] [] σ = f_Mo_drawn σ := by
  unfold f_Mo_drawn
  delta ev_Mo_drawn kk_Mo_drawn
  rfl
noncomputable def f_Mo_comes_20 : Nat → Int32 → Int32 → Int32 → Int32 → sv_S → Option (sv_S)
  | 0, _, _, _, _, _ => none
  | n + 1, x1, x2, x3, x4, σ =>
    sv_if ((8 : Int32) ≤ x4)
      (sv_b0 (f_Mo_sets x3 (0 : Int32) x1 σ) (fun σ1 =>
        sv_b0 (f_Mo_sets x3 (1 : Int32) x2 σ1) (fun σ2 =>
          sv_b0 (f_Mo_sets x3 (7 : Int32) (1 : Int32) σ2) (fun σ3 =>
            some σ3))))
      (sv_b0 (f_Mo_sets x3 x4 (0 : Int32) σ) (fun σ4 =>
        f_Mo_comes_20 n x1 x2 x3 (x4 + (1 : Int32)) σ4))
noncomputable def f_Mo_comes (a1 : Int32) (a2 : Int32) (σ : sv_S) : Option (sv_S) :=
  sv_g (sv_in (0 : Int32) 3086) (sv_g (sv_in (0 : Int32) 3086) (sv_g (sv_in (0 : Int32) 3086) (f_Mo_comes_20 sv_fu a1 a2 (σ 31 0 ((0 : Int32).toNatClampNeg)) (0 : Int32) (sv_up σ 31 0 ((0 : Int32).toNatClampNeg) ((σ 31 0 ((0 : Int32).toNatClampNeg)) + (1 : Int32))))))
noncomputable def n_Mo_comes : List sv_V → sv_S → Option (sv_S)
  | [.inr (.inr (some (30, 0))), .inl a1, .inl a2], σ => f_Mo_comes a1 a2 σ
  | _, _ => none
def cd_Mo_comes : sv_C := [(0, (.aload_n 0, (sv_N, (1, (0, []))))), (1, (.getfield 7, (sv_N, (4, (0, []))))), (4, (.iconst 0, (.inl (0 : Int32), (5, (0, []))))), (5, (.iaload, (sv_N, (6, (0, []))))), (6, (.istore_n 3, (sv_N, (7, (0, []))))), (7, (.aload_n 0, (sv_N, (8, (0, []))))), (8, (.getfield 7, (sv_N, (11, (0, []))))), (11, (.iconst 0, (.inl (0 : Int32), (12, (0, []))))), (12, (.dup2, (sv_N, (13, (0, []))))), (13, (.iaload, (sv_N, (14, (0, []))))), (14, (.iconst 1, (.inl (1 : Int32), (15, (0, []))))), (15, (.iadd, (sv_N, (16, (0, []))))), (16, (.iastore, (sv_N, (17, (0, []))))), (17, (.iconst 0, (.inl (0 : Int32), (18, (0, []))))), (18, (.istore 4, (sv_N, (20, (0, []))))), (20, (.iload 4, (sv_N, (22, (0, []))))), (22, (.bipush 8, (.inl (8 : Int32), (24, (0, []))))), (24, (.if_icmp .ge 17, (sv_N, (27, (41, []))))), (27, (.aload_n 0, (sv_N, (28, (0, []))))), (28, (.iload_n 3, (sv_N, (29, (0, []))))), (29, (.iload 4, (sv_N, (31, (0, []))))), (31, (.iconst 0, (.inl (0 : Int32), (32, (0, []))))), (32, (.invokevirtual 76, (sv_N, (35, (0, []))))), (35, (.iinc 4 1, (.inl (1 : Int32), (38, (0, []))))), (38, (.goto (-18), (sv_N, (41, (20, []))))), (41, (.aload_n 0, (sv_N, (42, (0, []))))), (42, (.iload_n 3, (sv_N, (43, (0, []))))), (43, (.iconst 0, (.inl (0 : Int32), (44, (0, []))))), (44, (.iload_n 1, (sv_N, (45, (0, []))))), (45, (.invokevirtual 76, (sv_N, (48, (0, []))))), (48, (.aload_n 0, (sv_N, (49, (0, []))))), (49, (.iload_n 3, (sv_N, (50, (0, []))))), (50, (.iconst 1, (.inl (1 : Int32), (51, (0, []))))), (51, (.iload_n 2, (sv_N, (52, (0, []))))), (52, (.invokevirtual 76, (sv_N, (55, (0, []))))), (55, (.aload_n 0, (sv_N, (56, (0, []))))), (56, (.iload_n 3, (sv_N, (57, (0, []))))), (57, (.bipush 7, (.inl (7 : Int32), (59, (0, []))))), (59, (.iconst 1, (.inl (1 : Int32), (60, (0, []))))), (60, (.invokevirtual 76, (sv_N, (63, (0, []))))), (63, (.return_, (sv_N, (64, (0, [])))))]
noncomputable def ev_Mo_comes : sv_E := (fun i => sv_lk i fl_12, (fun i => sv_lk i kc_12, (fun i => Nat.beq i 0, (true, fun pc => sv_lk pc [(32, (4, .inr (.inl n_Mo_sets))), (45, (4, .inr (.inl n_Mo_sets))), (52, (4, .inr (.inl n_Mo_sets))), (60, (4, .inr (.inl n_Mo_sets)))]))))
noncomputable def kk_Mo_comes_20 (n : Nat) : sv_K (sv_S) := fun pc => sv_lk pc [(20, fun lo st σ => match lo, st with
    | [some (.inr (.inr (some (30, 0)))), some (.inl x1), some (.inl x2), some (.inl x3), some (.inl x4)], [] => f_Mo_comes_20 n x1 x2 x3 x4 σ
    | _, _ => none)]
set_option maxRecDepth 20000 in
theorem e_Mo_comes_20 (n : Nat) (x1 : Int32) (x2 : Int32) (x3 : Int32) (x4 : Int32) (σ : sv_S) : sv_ex ev_Mo_comes sv_rV (kk_Mo_comes_20 n) cd_Mo_comes 43 20 [some (.inr (.inr (some (30, 0)))), some (.inl x1), some (.inl x2), some (.inl x3), some (.inl x4)] [] σ = f_Mo_comes_20 (n + 1) x1 x2 x3 x4 σ := by
  rw [f_Mo_comes_20.eq_2]
  delta ev_Mo_comes kk_Mo_comes_20 n_Mo_sets
  generalize f_Mo_sets = c0
  generalize f_Mo_comes_20 = c1
  rfl
noncomputable def kk_Mo_comes : sv_K (sv_S) := fun pc => sv_lk pc [(20, fun lo st σ => match lo, st with
    | [some (.inr (.inr (some (30, 0)))), some (.inl x1), some (.inl x2), some (.inl x3), some (.inl x4)], [] => f_Mo_comes_20 sv_fu x1 x2 x3 x4 σ
    | _, _ => none)]
set_option maxRecDepth 20000 in
theorem e_Mo_comes (a1 : Int32) (a2 : Int32) (σ : sv_S) : sv_ex ev_Mo_comes sv_rV kk_Mo_comes cd_Mo_comes 43 0 [some (.inr (.inr (some (30, 0)))), some (.inl a1), some (.inl a2), none, none] [] σ = f_Mo_comes a1 a2 σ := by
  unfold f_Mo_comes
  delta ev_Mo_comes kk_Mo_comes n_Mo_sets
  generalize f_Mo_sets = c0
  generalize f_Mo_comes_20 = c1
  rfl
noncomputable def f_Mo_drummer (a1 : Int32) (a2 : Int32) (σ : sv_S) : Option (Int32 × sv_S) :=
  sv_b (f_Mo_isIn (a1.toInt64) (0 : Int64) (5 : Int64) σ) (fun v1 σ2 =>
    sv_if (v1 = 0)
      (some ((-1000000001 : Int32), σ2))
      (sv_b (f_Mo_isIn (a2.toInt64) (1 : Int64) (9 : Int64) σ2) (fun v3 σ4 =>
        sv_if (v3 = 0)
          (some ((-1000000001 : Int32), σ4))
          (sv_g (sv_in (0 : Int32) 3086) (sv_if ((σ4 31 0 ((0 : Int32).toNatClampNeg)) = (10 : Int32))
            (some ((-1000000003 : Int32), σ4))
            (sv_b0 (f_Mo_comes a1 a2 σ4) (fun σ5 =>
              sv_g (sv_in (0 : Int32) 3086) (some ((σ5 31 0 ((0 : Int32).toNatClampNeg)) - (1 : Int32), σ5)))))))))
noncomputable def n_Mo_drummer : List sv_V → sv_S → Option (Int32 × sv_S)
  | [.inr (.inr (some (30, 0))), .inl a1, .inl a2], σ => f_Mo_drummer a1 a2 σ
  | _, _ => none
def cd_Mo_drummer : sv_C := [(0, (.iload_n 1, (sv_N, (1, (0, []))))), (1, (.i2l, (sv_N, (2, (0, []))))), (2, (.lconst 0, (.inr (.inl (0 : Int64)), (3, (0, []))))), (3, (.ldc2_w 80, (sv_N, (6, (0, []))))), (6, (.invokestatic 71, (sv_N, (9, (0, []))))), (9, (.ifCond .eq 15, (sv_N, (12, (24, []))))), (12, (.iload_n 2, (sv_N, (13, (0, []))))), (13, (.i2l, (sv_N, (14, (0, []))))), (14, (.lconst 1, (.inr (.inl (1 : Int64)), (15, (0, []))))), (15, (.ldc2_w 82, (sv_N, (18, (0, []))))), (18, (.invokestatic 71, (sv_N, (21, (0, []))))), (21, (.ifCond .ne 6, (sv_N, (24, (27, []))))), (24, (.ldc 84, (sv_N, (26, (0, []))))), (26, (.ireturn, (sv_N, (27, (0, []))))), (27, (.aload_n 0, (sv_N, (28, (0, []))))), (28, (.getfield 7, (sv_N, (31, (0, []))))), (31, (.iconst 0, (.inl (0 : Int32), (32, (0, []))))), (32, (.iaload, (sv_N, (33, (0, []))))), (33, (.bipush 10, (.inl (10 : Int32), (35, (0, []))))), (35, (.if_icmp .ne 6, (sv_N, (38, (41, []))))), (38, (.ldc 85, (sv_N, (40, (0, []))))), (40, (.ireturn, (sv_N, (41, (0, []))))), (41, (.aload_n 0, (sv_N, (42, (0, []))))), (42, (.iload_n 1, (sv_N, (43, (0, []))))), (43, (.iload_n 2, (sv_N, (44, (0, []))))), (44, (.invokevirtual 86, (sv_N, (47, (0, []))))), (47, (.aload_n 0, (sv_N, (48, (0, []))))), (48, (.getfield 7, (sv_N, (51, (0, []))))), (51, (.iconst 0, (.inl (0 : Int32), (52, (0, []))))), (52, (.iaload, (sv_N, (53, (0, []))))), (53, (.iconst 1, (.inl (1 : Int32), (54, (0, []))))), (54, (.isub, (sv_N, (55, (0, []))))), (55, (.ireturn, (sv_N, (56, (0, [])))))]
noncomputable def ev_Mo_drummer : sv_E := (fun i => sv_lk i fl_12, (fun i => sv_lk i kc_12, (fun i => Nat.beq i 0, (true, fun pc => sv_lk pc [(6, (3, .inl n_Mo_isIn)), (18, (3, .inl n_Mo_isIn)), (44, (3, .inr (.inl n_Mo_comes)))]))))
noncomputable def kk_Mo_drummer : sv_K (Int32 × sv_S) := fun pc => sv_lk pc []
set_option maxRecDepth 20000 in
theorem e_Mo_drummer (a1 : Int32) (a2 : Int32) (σ : sv_S) : sv_ex ev_Mo_drummer sv_rI kk_Mo_drummer cd_Mo_drummer 35 0 [some (.inr (.inr (some (30, 0)))), some (.inl a1), some (.inl a2)] [] σ = f_Mo_drummer a1 a2 σ := by
  unfold f_Mo_drummer
  delta ev_Mo_drummer kk_Mo_drummer n_Mo_isIn n_Mo_comes
  generalize f_Mo_isIn = c0
  generalize f_Mo_comes = c1
  rfl
noncomputable def f_Mo_ago (a1 : Int32) (a2 : Int32) (σ : sv_S) : Option (Int32 × sv_S) :=
  sv_b (f_Mo_of a1 ((2 : Int32) + a2) σ) (fun v1 σ2 =>
    some (v1, σ2))
noncomputable def n_Mo_ago : List sv_V → sv_S → Option (Int32 × sv_S)
  | [.inr (.inr (some (30, 0))), .inl a1, .inl a2], σ => f_Mo_ago a1 a2 σ
  | _, _ => none
def cd_Mo_ago : sv_C := [(0, (.aload_n 0, (sv_N, (1, (0, []))))), (1, (.iload_n 1, (sv_N, (2, (0, []))))), (2, (.iconst 2, (.inl (2 : Int32), (3, (0, []))))), (3, (.iload_n 2, (sv_N, (4, (0, []))))), (4, (.iadd, (sv_N, (5, (0, []))))), (5, (.invokevirtual 90, (sv_N, (8, (0, []))))), (8, (.ireturn, (sv_N, (9, (0, [])))))]
noncomputable def ev_Mo_ago : sv_E := (fun i => sv_lk i fl_12, (fun i => sv_lk i kc_12, (fun i => Nat.beq i 0, (true, fun pc => sv_lk pc [(5, (3, .inl n_Mo_of))]))))
noncomputable def kk_Mo_ago : sv_K (Int32 × sv_S) := fun pc => sv_lk pc []
set_option maxRecDepth 20000 in
theorem e_Mo_ago (a1 : Int32) (a2 : Int32) (σ : sv_S) : sv_ex ev_Mo_ago sv_rI kk_Mo_ago cd_Mo_ago 9 0 [some (.inr (.inr (some (30, 0)))), some (.inl a1), some (.inl a2)] [] σ = f_Mo_ago a1 a2 σ := by
  unfold f_Mo_ago
  delta ev_Mo_ago kk_Mo_ago n_Mo_of
  generalize f_Mo_of = c0
  rfl
noncomputable def f_Mo_left (a1 : Int32) (σ : sv_S) : Option (Int32 × sv_S) :=
  sv_if (a1 = 0)
    (some ((0 : Int32), σ))
    (sv_b (f_Mo_of (a1 - (1 : Int32)) (7 : Int32) σ) (fun v1 σ2 =>
      sv_b (f_Mo_ago (a1 - (1 : Int32)) (v1 - (1 : Int32)) σ2) (fun v3 σ4 =>
        some (v3, σ4))))
noncomputable def n_Mo_left : List sv_V → sv_S → Option (Int32 × sv_S)
  | [.inr (.inr (some (30, 0))), .inl a1], σ => f_Mo_left a1 σ
  | _, _ => none
def cd_Mo_left : sv_C := [(0, (.iload_n 1, (sv_N, (1, (0, []))))), (1, (.ifCond .ne 7, (sv_N, (4, (8, []))))), (4, (.iconst 0, (.inl (0 : Int32), (5, (0, []))))), (5, (.goto 21, (sv_N, (8, (26, []))))), (8, (.aload_n 0, (sv_N, (9, (0, []))))), (9, (.iload_n 1, (sv_N, (10, (0, []))))), (10, (.iconst 1, (.inl (1 : Int32), (11, (0, []))))), (11, (.isub, (sv_N, (12, (0, []))))), (12, (.aload_n 0, (sv_N, (13, (0, []))))), (13, (.iload_n 1, (sv_N, (14, (0, []))))), (14, (.iconst 1, (.inl (1 : Int32), (15, (0, []))))), (15, (.isub, (sv_N, (16, (0, []))))), (16, (.bipush 7, (.inl (7 : Int32), (18, (0, []))))), (18, (.invokevirtual 90, (sv_N, (21, (0, []))))), (21, (.iconst 1, (.inl (1 : Int32), (22, (0, []))))), (22, (.isub, (sv_N, (23, (0, []))))), (23, (.invokevirtual 94, (sv_N, (26, (0, []))))), (26, (.ireturn, (sv_N, (27, (0, [])))))]
noncomputable def ev_Mo_left : sv_E := (fun i => sv_lk i fl_12, (fun i => sv_lk i kc_12, (fun i => Nat.beq i 0, (true, fun pc => sv_lk pc [(18, (3, .inl n_Mo_of)), (23, (3, .inl n_Mo_ago))]))))
noncomputable def kk_Mo_left : sv_K (Int32 × sv_S) := fun pc => sv_lk pc []
set_option maxRecDepth 20000 in
theorem e_Mo_left (a1 : Int32) (σ : sv_S) : sv_ex ev_Mo_left sv_rI kk_Mo_left cd_Mo_left 20 0 [some (.inr (.inr (some (30, 0)))), some (.inl a1)] [] σ = f_Mo_left a1 σ := by
  unfold f_Mo_left
  delta ev_Mo_left kk_Mo_left n_Mo_of n_Mo_ago
  generalize f_Mo_of = c0
  generalize f_Mo_ago = c1
  rfl
noncomputable def f_Mo_right (a1 : Int32) (σ : sv_S) : Option (Int32 × sv_S) :=
  sv_g (sv_in (0 : Int32) 3086) (sv_if ((a1 + (1 : Int32)) = (σ 31 0 ((0 : Int32).toNatClampNeg)))
    (some ((0 : Int32), σ))
    (sv_b (f_Mo_of a1 (7 : Int32) σ) (fun v1 σ2 =>
      sv_b (f_Mo_ago (a1 + (1 : Int32)) (v1 - (1 : Int32)) σ2) (fun v3 σ4 =>
        some (v3, σ4)))))
noncomputable def n_Mo_right : List sv_V → sv_S → Option (Int32 × sv_S)
  | [.inr (.inr (some (30, 0))), .inl a1], σ => f_Mo_right a1 σ
  | _, _ => none
def cd_Mo_right : sv_C := [(0, (.iload_n 1, (sv_N, (1, (0, []))))), (1, (.iconst 1, (.inl (1 : Int32), (2, (0, []))))), (2, (.iadd, (sv_N, (3, (0, []))))), (3, (.aload_n 0, (sv_N, (4, (0, []))))), (4, (.getfield 7, (sv_N, (7, (0, []))))), (7, (.iconst 0, (.inl (0 : Int32), (8, (0, []))))), (8, (.iaload, (sv_N, (9, (0, []))))), (9, (.if_icmp .ne 7, (sv_N, (12, (16, []))))), (12, (.iconst 0, (.inl (0 : Int32), (13, (0, []))))), (13, (.goto 19, (sv_N, (16, (32, []))))), (16, (.aload_n 0, (sv_N, (17, (0, []))))), (17, (.iload_n 1, (sv_N, (18, (0, []))))), (18, (.iconst 1, (.inl (1 : Int32), (19, (0, []))))), (19, (.iadd, (sv_N, (20, (0, []))))), (20, (.aload_n 0, (sv_N, (21, (0, []))))), (21, (.iload_n 1, (sv_N, (22, (0, []))))), (22, (.bipush 7, (.inl (7 : Int32), (24, (0, []))))), (24, (.invokevirtual 90, (sv_N, (27, (0, []))))), (27, (.iconst 1, (.inl (1 : Int32), (28, (0, []))))), (28, (.isub, (sv_N, (29, (0, []))))), (29, (.invokevirtual 94, (sv_N, (32, (0, []))))), (32, (.ireturn, (sv_N, (33, (0, [])))))]
noncomputable def ev_Mo_right : sv_E := (fun i => sv_lk i fl_12, (fun i => sv_lk i kc_12, (fun i => Nat.beq i 0, (true, fun pc => sv_lk pc [(24, (3, .inl n_Mo_of)), (29, (3, .inl n_Mo_ago))]))))
noncomputable def kk_Mo_right : sv_K (Int32 × sv_S) := fun pc => sv_lk pc []
set_option maxRecDepth 20000 in
theorem e_Mo_right (a1 : Int32) (σ : sv_S) : sv_ex ev_Mo_right sv_rI kk_Mo_right cd_Mo_right 24 0 [some (.inr (.inr (some (30, 0)))), some (.inl a1)] [] σ = f_Mo_right a1 σ := by
  unfold f_Mo_right
  delta ev_Mo_right kk_Mo_right n_Mo_of n_Mo_ago
  generalize f_Mo_of = c0
  generalize f_Mo_ago = c1
  rfl
noncomputable def f_Mo_counts_4 : Nat → Int32 → Int32 → Int32 → sv_S → Option (Int32 × sv_S)
  | 0, _, _, _, _ => none
  | n + 1, x1, x2, x3, σ =>
    sv_g (sv_in (1 : Int32) 3086) (sv_if ((σ 31 0 ((1 : Int32).toNatClampNeg)) ≤ x3)
      (some (x2, σ))
      (sv_b (f_Mo_textAt x3 σ) (fun v1 σ2 =>
        sv_g (sv_in v1 3086) (sv_if ((σ2 31 0 (v1.toNatClampNeg)) = x1)
          (f_Mo_counts_4 n x1 x3 (x3 + (1 : Int32)) σ2)
          (f_Mo_counts_4 n x1 x2 (x3 + (1 : Int32)) σ2)))))
noncomputable def f_Mo_counts (a1 : Int32) (σ : sv_S) : Option (Int32 × sv_S) :=
  f_Mo_counts_4 sv_fu a1 (-1 : Int32) (0 : Int32) σ
noncomputable def n_Mo_counts : List sv_V → sv_S → Option (Int32 × sv_S)
  | [.inr (.inr (some (30, 0))), .inl a1], σ => f_Mo_counts a1 σ
  | _, _ => none
def cd_Mo_counts : sv_C := [(0, (.iconst (-1), (.inl (-1 : Int32), (1, (0, []))))), (1, (.istore_n 2, (sv_N, (2, (0, []))))), (2, (.iconst 0, (.inl (0 : Int32), (3, (0, []))))), (3, (.istore_n 3, (sv_N, (4, (0, []))))), (4, (.iload_n 3, (sv_N, (5, (0, []))))), (5, (.aload_n 0, (sv_N, (6, (0, []))))), (6, (.getfield 7, (sv_N, (9, (0, []))))), (9, (.iconst 1, (.inl (1 : Int32), (10, (0, []))))), (10, (.iaload, (sv_N, (11, (0, []))))), (11, (.if_icmp .ge 29, (sv_N, (14, (40, []))))), (14, (.aload_n 0, (sv_N, (15, (0, []))))), (15, (.getfield 7, (sv_N, (18, (0, []))))), (18, (.aload_n 0, (sv_N, (19, (0, []))))), (19, (.iload_n 3, (sv_N, (20, (0, []))))), (20, (.invokevirtual 282, (sv_N, (23, (0, []))))), (23, (.iaload, (sv_N, (24, (0, []))))), (24, (.iload_n 1, (sv_N, (25, (0, []))))), (25, (.if_icmp .ne 7, (sv_N, (28, (32, []))))), (28, (.iload_n 3, (sv_N, (29, (0, []))))), (29, (.goto 4, (sv_N, (32, (33, []))))), (32, (.iload_n 2, (sv_N, (33, (0, []))))), (33, (.istore_n 2, (sv_N, (34, (0, []))))), (34, (.iinc 3 1, (.inl (1 : Int32), (37, (0, []))))), (37, (.goto (-33), (sv_N, (40, (4, []))))), (40, (.iload_n 2, (sv_N, (41, (0, []))))), (41, (.ireturn, (sv_N, (42, (0, [])))))]
noncomputable def ev_Mo_counts : sv_E := (fun i => sv_lk i fl_12, (fun i => sv_lk i kc_12, (fun i => Nat.beq i 0, (true, fun pc => sv_lk pc [(20, (2, .inl n_Mo_textAt))]))))
noncomputable def kk_Mo_counts_4 (n : Nat) : sv_K (Int32 × sv_S) := fun pc => sv_lk pc [(4, fun lo st σ => match lo, st with
    | [some (.inr (.inr (some (30, 0)))), some (.inl x1), some (.inl x2), some (.inl x3)], [] => f_Mo_counts_4 n x1 x2 x3 σ
    | _, _ => none)]
set_option maxRecDepth 20000 in
theorem e_Mo_counts_4 (n : Nat) (x1 : Int32) (x2 : Int32) (x3 : Int32) (σ : sv_S) : sv_ex ev_Mo_counts sv_rI (kk_Mo_counts_4 n) cd_Mo_counts 28 4 [some (.inr (.inr (some (30, 0)))), some (.inl x1), some (.inl x2), some (.inl x3)] [] σ = f_Mo_counts_4 (n + 1) x1 x2 x3 σ := by
  rw [f_Mo_counts_4.eq_2]
  delta ev_Mo_counts kk_Mo_counts_4 n_Mo_textAt
  generalize f_Mo_textAt = c0
  generalize f_Mo_counts_4 = c1
  rfl
noncomputable def kk_Mo_counts : sv_K (Int32 × sv_S) := fun pc => sv_lk pc [(4, fun lo st σ => match lo, st with
    | [some (.inr (.inr (some (30, 0)))), some (.inl x1), some (.inl x2), some (.inl x3)], [] => f_Mo_counts_4 sv_fu x1 x2 x3 σ
    | _, _ => none)]
set_option maxRecDepth 20000 in
theorem e_Mo_counts (a1 : Int32) (σ : sv_S) : sv_ex ev_Mo_counts sv_rI kk_Mo_counts cd_Mo_counts 28 0 [some (.inr (.inr (some (30, 0)))), some (.inl a1), none, none] [] σ = f_Mo_counts a1 σ := by
  unfold f_Mo_counts
  delta ev_Mo_counts kk_Mo_counts n_Mo_textAt
  generalize f_Mo_textAt = c0
  generalize f_Mo_counts_4 = c1
  rfl
noncomputable def f_Mo_joined (a0 : Int32) (a1 : Int32) (a2 : Int32) (σ : sv_S) : Option (Int32 × sv_S) :=
  sv_if (a0.toInt = 38)
    (sv_if (a1 = 0)
      (some ((0 : Int32), σ))
      (sv_if (a2 = 0)
        (some ((0 : Int32), σ))
        (some ((1 : Int32), σ))))
    (sv_if (a0.toInt = 39)
    (sv_if (a1 = 0)
      (sv_if (a2 = 0)
        (some ((0 : Int32), σ))
        (some ((1 : Int32), σ)))
      (some ((1 : Int32), σ)))
    (sv_if (a0.toInt = 40)
    (sv_if (a1 = 0)
      (sv_if (a2 = 0)
        (some ((0 : Int32), σ))
        (some ((1 : Int32), σ)))
      (some ((1 : Int32), σ)))
    (sv_if (a0.toInt = 41)
    (sv_if (a1 = 0)
      (sv_if (a2 = 0)
        (some ((0 : Int32), σ))
        (some ((1 : Int32), σ)))
      (some ((1 : Int32), σ)))
    (sv_if (a0.toInt = 42)
    (some (a1 * a2, σ))
    (sv_if (a0.toInt = 43)
    (some (a1 + a2, σ))
    (sv_if (a0.toInt = 44)
    (sv_if (a1 = 0)
      (sv_if (a2 = 0)
        (some ((0 : Int32), σ))
        (some ((1 : Int32), σ)))
      (some ((1 : Int32), σ)))
    (sv_if (a0.toInt = 45)
    (some (a1 - a2, σ))
    (sv_if (a0.toInt = 46)
    (sv_if (a1 = 0)
      (sv_if (a2 = 0)
        (some ((0 : Int32), σ))
        (some ((1 : Int32), σ)))
      (some ((1 : Int32), σ)))
    (sv_if (a0.toInt = 47)
    (sv_if (a2 = 0)
      (some ((0 : Int32), σ))
      (sv_if (a2 = (-1 : Int32))
        (some (-a1, σ))
        (sv_g (¬ a2 = 0) (some (a1 / a2, σ)))))
    (sv_if (a0.toInt = 48)
    (sv_if (a1 = 0)
      (sv_if (a2 = 0)
        (some ((0 : Int32), σ))
        (some ((1 : Int32), σ)))
      (some ((1 : Int32), σ)))
    (sv_if (a0.toInt = 49)
    (sv_if (a1 = 0)
      (sv_if (a2 = 0)
        (some ((0 : Int32), σ))
        (some ((1 : Int32), σ)))
      (some ((1 : Int32), σ)))
    (sv_if (a0.toInt = 50)
    (sv_if (a1 = 0)
      (sv_if (a2 = 0)
        (some ((0 : Int32), σ))
        (some ((1 : Int32), σ)))
      (some ((1 : Int32), σ)))
    (sv_if (a0.toInt = 51)
    (sv_if (a1 = 0)
      (sv_if (a2 = 0)
        (some ((0 : Int32), σ))
        (some ((1 : Int32), σ)))
      (some ((1 : Int32), σ)))
    (sv_if (a0.toInt = 52)
    (sv_if (a1 = 0)
      (sv_if (a2 = 0)
        (some ((0 : Int32), σ))
        (some ((1 : Int32), σ)))
      (some ((1 : Int32), σ)))
    (sv_if (a0.toInt = 53)
    (sv_if (a1 = 0)
      (sv_if (a2 = 0)
        (some ((0 : Int32), σ))
        (some ((1 : Int32), σ)))
      (some ((1 : Int32), σ)))
    (sv_if (a0.toInt = 54)
    (sv_if (a1 = 0)
      (sv_if (a2 = 0)
        (some ((0 : Int32), σ))
        (some ((1 : Int32), σ)))
      (some ((1 : Int32), σ)))
    (sv_if (a0.toInt = 55)
    (sv_if (a1 = 0)
      (sv_if (a2 = 0)
        (some ((0 : Int32), σ))
        (some ((1 : Int32), σ)))
      (some ((1 : Int32), σ)))
    (sv_if (a0.toInt = 56)
    (sv_if (a1 = 0)
      (sv_if (a2 = 0)
        (some ((0 : Int32), σ))
        (some ((1 : Int32), σ)))
      (some ((1 : Int32), σ)))
    (sv_if (a0.toInt = 57)
    (sv_if (a1 = 0)
      (sv_if (a2 = 0)
        (some ((0 : Int32), σ))
        (some ((1 : Int32), σ)))
      (some ((1 : Int32), σ)))
    (sv_if (a0.toInt = 58)
    (sv_if (a1 = 0)
      (sv_if (a2 = 0)
        (some ((0 : Int32), σ))
        (some ((1 : Int32), σ)))
      (some ((1 : Int32), σ)))
    (sv_if (a0.toInt = 59)
    (sv_if (a1 = 0)
      (sv_if (a2 = 0)
        (some ((0 : Int32), σ))
        (some ((1 : Int32), σ)))
      (some ((1 : Int32), σ)))
    (sv_if (a0.toInt = 60)
    (sv_if (a2 ≤ a1)
      (some ((0 : Int32), σ))
      (some ((1 : Int32), σ)))
    (sv_if (a0.toInt = 61)
    (sv_if (a1 = a2)
      (some ((1 : Int32), σ))
      (some ((0 : Int32), σ)))
    (sv_if (a0.toInt = 62)
    (sv_if (a1 ≤ a2)
      (some ((0 : Int32), σ))
      (some ((1 : Int32), σ)))
    (sv_if (a1 = 0)
      (sv_if (a2 = 0)
        (some ((0 : Int32), σ))
        (some ((1 : Int32), σ)))
      (some ((1 : Int32), σ)))))))))))))))))))))))))))
noncomputable def n_Mo_joined : List sv_V → sv_S → Option (Int32 × sv_S)
  | [.inl a0, .inl a1, .inl a2], σ => f_Mo_joined a0 a1 a2 σ
  | _, _ => none
def cd_Mo_joined : sv_C := [(0, (.iload_n 0, (sv_N, (1, (0, []))))), (1, (.tableswitch 196 38 62 #[182, 196, 196, 196, 123, 115, 196, 119, 196, 127, 196, 196, 196, 196, 196, 196, 196, 196, 196, 196, 196, 196, 149, 171, 160], (sv_N, (1, (197, [(38, 183), (39, 197), (40, 197), (41, 197), (42, 124), (43, 116), (44, 197), (45, 120), (46, 197), (47, 128), (48, 197), (49, 197), (50, 197), (51, 197), (52, 197), (53, 197), (54, 197), (55, 197), (56, 197), (57, 197), (58, 197), (59, 197), (60, 150), (61, 172), (62, 161)]))))), (116, (.iload_n 1, (sv_N, (117, (0, []))))), (117, (.iload_n 2, (sv_N, (118, (0, []))))), (118, (.iadd, (sv_N, (119, (0, []))))), (119, (.ireturn, (sv_N, (120, (0, []))))), (120, (.iload_n 1, (sv_N, (121, (0, []))))), (121, (.iload_n 2, (sv_N, (122, (0, []))))), (122, (.isub, (sv_N, (123, (0, []))))), (123, (.ireturn, (sv_N, (124, (0, []))))), (124, (.iload_n 1, (sv_N, (125, (0, []))))), (125, (.iload_n 2, (sv_N, (126, (0, []))))), (126, (.imul, (sv_N, (127, (0, []))))), (127, (.ireturn, (sv_N, (128, (0, []))))), (128, (.iload_n 2, (sv_N, (129, (0, []))))), (129, (.ifCond .ne 7, (sv_N, (132, (136, []))))), (132, (.iconst 0, (.inl (0 : Int32), (133, (0, []))))), (133, (.goto 16, (sv_N, (136, (149, []))))), (136, (.iload_n 2, (sv_N, (137, (0, []))))), (137, (.iconst (-1), (.inl (-1 : Int32), (138, (0, []))))), (138, (.if_icmp .ne 8, (sv_N, (141, (146, []))))), (141, (.iload_n 1, (sv_N, (142, (0, []))))), (142, (.ineg, (sv_N, (143, (0, []))))), (143, (.goto 6, (sv_N, (146, (149, []))))), (146, (.iload_n 1, (sv_N, (147, (0, []))))), (147, (.iload_n 2, (sv_N, (148, (0, []))))), (148, (.idiv, (sv_N, (149, (0, []))))), (149, (.ireturn, (sv_N, (150, (0, []))))), (150, (.iload_n 1, (sv_N, (151, (0, []))))), (151, (.iload_n 2, (sv_N, (152, (0, []))))), (152, (.if_icmp .ge 7, (sv_N, (155, (159, []))))), (155, (.iconst 1, (.inl (1 : Int32), (156, (0, []))))), (156, (.goto 4, (sv_N, (159, (160, []))))), (159, (.iconst 0, (.inl (0 : Int32), (160, (0, []))))), (160, (.ireturn, (sv_N, (161, (0, []))))), (161, (.iload_n 1, (sv_N, (162, (0, []))))), (162, (.iload_n 2, (sv_N, (163, (0, []))))), (163, (.if_icmp .le 7, (sv_N, (166, (170, []))))), (166, (.iconst 1, (.inl (1 : Int32), (167, (0, []))))), (167, (.goto 4, (sv_N, (170, (171, []))))), (170, (.iconst 0, (.inl (0 : Int32), (171, (0, []))))), (171, (.ireturn, (sv_N, (172, (0, []))))), (172, (.iload_n 1, (sv_N, (173, (0, []))))), (173, (.iload_n 2, (sv_N, (174, (0, []))))), (174, (.if_icmp .ne 7, (sv_N, (177, (181, []))))), (177, (.iconst 1, (.inl (1 : Int32), (178, (0, []))))), (178, (.goto 4, (sv_N, (181, (182, []))))), (181, (.iconst 0, (.inl (0 : Int32), (182, (0, []))))), (182, (.ireturn, (sv_N, (183, (0, []))))), (183, (.iload_n 1, (sv_N, (184, (0, []))))), (184, (.ifCond .eq 11, (sv_N, (187, (195, []))))), (187, (.iload_n 2, (sv_N, (188, (0, []))))), (188, (.ifCond .eq 7, (sv_N, (191, (195, []))))), (191, (.iconst 1, (.inl (1 : Int32), (192, (0, []))))), (192, (.goto 4, (sv_N, (195, (196, []))))), (195, (.iconst 0, (.inl (0 : Int32), (196, (0, []))))), (196, (.ireturn, (sv_N, (197, (0, []))))), (197, (.iload_n 1, (sv_N, (198, (0, []))))), (198, (.ifCond .ne 7, (sv_N, (201, (205, []))))), (201, (.iload_n 2, (sv_N, (202, (0, []))))), (202, (.ifCond .eq 7, (sv_N, (205, (209, []))))), (205, (.iconst 1, (.inl (1 : Int32), (206, (0, []))))), (206, (.goto 4, (sv_N, (209, (210, []))))), (209, (.iconst 0, (.inl (0 : Int32), (210, (0, []))))), (210, (.ireturn, (sv_N, (211, (0, [])))))]
noncomputable def ev_Mo_joined : sv_E := (fun i => sv_lk i fl_12, (fun i => sv_lk i kc_12, (fun i => Nat.beq i 0, (true, fun pc => sv_lk pc []))))
noncomputable def kk_Mo_joined : sv_K (Int32 × sv_S) := fun pc => sv_lk pc []
set_option maxRecDepth 20000 in
theorem e_Mo_joined (a0 : Int32) (a1 : Int32) (a2 : Int32) (σ : sv_S) : sv_ex ev_Mo_joined sv_rI kk_Mo_joined cd_Mo_joined 67 0 [some (.inl a0), some (.inl a1), some (.inl a2)] [] σ = f_Mo_joined a0 a1 a2 σ := by
  unfold f_Mo_joined
  delta ev_Mo_joined kk_Mo_joined
  rfl
noncomputable def f_Mo_worked_86 (k4 : Int32 → Int32 → Int32 → sv_S → Option (Int32 × sv_S)) (x1 : Int32) (x2 : Int32) (x3 : Int32) (y0 : Int32) (y1 : Int32) (y2 : Nat) (σ : sv_S) : Option (Int32 × sv_S) :=
    sv_g (sv_in y1 (sv_ml y2)) (k4 x1 (x2 + (1 : Int32)) (x3 + (1 : Int32)) (sv_up σ 31 y2 (y1.toNatClampNeg) y0))
noncomputable def f_Mo_worked_4 : Nat → Int32 → Int32 → Int32 → sv_S → Option (Int32 × sv_S)
  | 0, _, _, _, _ => none
  | n + 1, x1, x2, x3, σ =>
    sv_b (f_Mo_textAt x1 σ) (fun v1 σ2 =>
      sv_g (sv_in (v1 + (2 : Int32)) 3086) (sv_if ((σ2 31 0 ((v1 + (2 : Int32)).toNatClampNeg)) ≤ x3)
        (sv_g (sv_in (0 : Int32) 100) (some (σ2 31 29 ((0 : Int32).toNatClampNeg), σ2)))
        (sv_b (f_Mo_textAt x1 σ2) (fun v3 σ4 =>
          sv_g (sv_in ((v3 + (4 : Int32)) + ((2 : Int32) * x3)) 3086) (sv_b (f_Mo_textAt x1 σ4) (fun v5 σ6 =>
            sv_g (sv_in (((v5 + (4 : Int32)) + ((2 : Int32) * x3)) + (1 : Int32)) 3086) (sv_if ((σ4 31 0 (((v3 + (4 : Int32)) + ((2 : Int32) * x3)).toNatClampNeg)) = (2 : Int32))
              (sv_if ((σ6 31 0 ((((v5 + (4 : Int32)) + ((2 : Int32) * x3)) + (1 : Int32)).toNatClampNeg)) = (33 : Int32))
                (sv_g (sv_in (x2 - (1 : Int32)) 100) (sv_if ((σ6 31 29 ((x2 - (1 : Int32)).toNatClampNeg)) = 0)
                  (sv_g (sv_in (x2 - (1 : Int32)) 100) (f_Mo_worked_4 n x1 x2 (x3 + (1 : Int32)) (sv_up σ6 31 29 ((x2 - (1 : Int32)).toNatClampNeg) (1 : Int32))))
                  (sv_g (sv_in (x2 - (1 : Int32)) 100) (f_Mo_worked_4 n x1 x2 (x3 + (1 : Int32)) (sv_up σ6 31 29 ((x2 - (1 : Int32)).toNatClampNeg) (0 : Int32))))))
                (sv_g (sv_in ((x2 + (-1 : Int32)) - (1 : Int32)) 100) (sv_g (sv_in (x2 + (-1 : Int32)) 100) (sv_b (f_Mo_joined (σ6 31 0 ((((v5 + (4 : Int32)) + ((2 : Int32) * x3)) + (1 : Int32)).toNatClampNeg)) (σ6 31 29 (((x2 + (-1 : Int32)) - (1 : Int32)).toNatClampNeg)) (σ6 31 29 ((x2 + (-1 : Int32)).toNatClampNeg)) σ6) (fun v7 σ8 =>
                  sv_g (sv_in ((x2 + (-1 : Int32)) - (1 : Int32)) 100) (f_Mo_worked_4 n x1 (x2 + (-1 : Int32)) (x3 + (1 : Int32)) (sv_up σ8 31 29 (((x2 + (-1 : Int32)) - (1 : Int32)).toNatClampNeg) v7)))))))
              (sv_if ((σ4 31 0 (((v3 + (4 : Int32)) + ((2 : Int32) * x3)).toNatClampNeg)) = 0)
                (f_Mo_worked_86 (f_Mo_worked_4 n) x1 x2 x3 (σ6 31 0 ((((v5 + (4 : Int32)) + ((2 : Int32) * x3)) + (1 : Int32)).toNatClampNeg)) x2 29 σ6)
                (sv_g (sv_in (σ6 31 0 ((((v5 + (4 : Int32)) + ((2 : Int32) * x3)) + (1 : Int32)).toNatClampNeg)) 128) (f_Mo_worked_86 (f_Mo_worked_4 n) x1 x2 x3 (σ6 31 28 ((σ6 31 0 ((((v5 + (4 : Int32)) + ((2 : Int32) * x3)) + (1 : Int32)).toNatClampNeg)).toNatClampNeg)) x2 29 σ6))))))))))
noncomputable def f_Mo_worked (a1 : Int32) (σ : sv_S) : Option (Int32 × sv_S) :=
  f_Mo_worked_4 sv_fu a1 (0 : Int32) (0 : Int32) σ
noncomputable def n_Mo_worked : List sv_V → sv_S → Option (Int32 × sv_S)
  | [.inr (.inr (some (30, 0))), .inl a1], σ => f_Mo_worked a1 σ
  | _, _ => none
def cd_Mo_worked : sv_C := [(0, (.iconst 0, (.inl (0 : Int32), (1, (0, []))))), (1, (.istore_n 2, (sv_N, (2, (0, []))))), (2, (.iconst 0, (.inl (0 : Int32), (3, (0, []))))), (3, (.istore_n 3, (sv_N, (4, (0, []))))), (4, (.iload_n 3, (sv_N, (5, (0, []))))), (5, (.aload_n 0, (sv_N, (6, (0, []))))), (6, (.getfield 7, (sv_N, (9, (0, []))))), (9, (.aload_n 0, (sv_N, (10, (0, []))))), (10, (.iload_n 1, (sv_N, (11, (0, []))))), (11, (.invokevirtual 282, (sv_N, (14, (0, []))))), (14, (.iconst 2, (.inl (2 : Int32), (15, (0, []))))), (15, (.iadd, (sv_N, (16, (0, []))))), (16, (.iaload, (sv_N, (17, (0, []))))), (17, (.if_icmp .ge 146, (sv_N, (20, (163, []))))), (20, (.aload_n 0, (sv_N, (21, (0, []))))), (21, (.getfield 7, (sv_N, (24, (0, []))))), (24, (.aload_n 0, (sv_N, (25, (0, []))))), (25, (.iload_n 1, (sv_N, (26, (0, []))))), (26, (.invokevirtual 282, (sv_N, (29, (0, []))))), (29, (.iconst 4, (.inl (4 : Int32), (30, (0, []))))), (30, (.iadd, (sv_N, (31, (0, []))))), (31, (.iconst 2, (.inl (2 : Int32), (32, (0, []))))), (32, (.iload_n 3, (sv_N, (33, (0, []))))), (33, (.imul, (sv_N, (34, (0, []))))), (34, (.iadd, (sv_N, (35, (0, []))))), (35, (.iaload, (sv_N, (36, (0, []))))), (36, (.istore 4, (sv_N, (38, (0, []))))), (38, (.aload_n 0, (sv_N, (39, (0, []))))), (39, (.getfield 7, (sv_N, (42, (0, []))))), (42, (.aload_n 0, (sv_N, (43, (0, []))))), (43, (.iload_n 1, (sv_N, (44, (0, []))))), (44, (.invokevirtual 282, (sv_N, (47, (0, []))))), (47, (.iconst 4, (.inl (4 : Int32), (48, (0, []))))), (48, (.iadd, (sv_N, (49, (0, []))))), (49, (.iconst 2, (.inl (2 : Int32), (50, (0, []))))), (50, (.iload_n 3, (sv_N, (51, (0, []))))), (51, (.imul, (sv_N, (52, (0, []))))), (52, (.iadd, (sv_N, (53, (0, []))))), (53, (.iconst 1, (.inl (1 : Int32), (54, (0, []))))), (54, (.iadd, (sv_N, (55, (0, []))))), (55, (.iaload, (sv_N, (56, (0, []))))), (56, (.istore 5, (sv_N, (58, (0, []))))), (58, (.iload 4, (sv_N, (60, (0, []))))), (60, (.iconst 2, (.inl (2 : Int32), (61, (0, []))))), (61, (.if_icmp .eq 32, (sv_N, (64, (93, []))))), (64, (.aload_n 0, (sv_N, (65, (0, []))))), (65, (.getfield 58, (sv_N, (68, (0, []))))), (68, (.iload_n 2, (sv_N, (69, (0, []))))), (69, (.iload 4, (sv_N, (71, (0, []))))), (71, (.ifCond .ne 8, (sv_N, (74, (79, []))))), (74, (.iload 5, (sv_N, (76, (0, []))))), (76, (.goto 10, (sv_N, (79, (86, []))))), (79, (.aload_n 0, (sv_N, (80, (0, []))))), (80, (.getfield 55, (sv_N, (83, (0, []))))), (83, (.iload 5, (sv_N, (85, (0, []))))), (85, (.iaload, (sv_N, (86, (0, []))))), (86, (.iastore, (sv_N, (87, (0, []))))), (87, (.iinc 2 1, (.inl (1 : Int32), (90, (0, []))))), (90, (.goto 67, (sv_N, (93, (157, []))))), (93, (.iload 5, (sv_N, (95, (0, []))))), (95, (.bipush 33, (.inl (33 : Int32), (97, (0, []))))), (97, (.if_icmp .ne 30, (sv_N, (100, (127, []))))), (100, (.aload_n 0, (sv_N, (101, (0, []))))), (101, (.getfield 58, (sv_N, (104, (0, []))))), (104, (.iload_n 2, (sv_N, (105, (0, []))))), (105, (.iconst 1, (.inl (1 : Int32), (106, (0, []))))), (106, (.isub, (sv_N, (107, (0, []))))), (107, (.aload_n 0, (sv_N, (108, (0, []))))), (108, (.getfield 58, (sv_N, (111, (0, []))))), (111, (.iload_n 2, (sv_N, (112, (0, []))))), (112, (.iconst 1, (.inl (1 : Int32), (113, (0, []))))), (113, (.isub, (sv_N, (114, (0, []))))), (114, (.iaload, (sv_N, (115, (0, []))))), (115, (.ifCond .ne 7, (sv_N, (118, (122, []))))), (118, (.iconst 1, (.inl (1 : Int32), (119, (0, []))))), (119, (.goto 4, (sv_N, (122, (123, []))))), (122, (.iconst 0, (.inl (0 : Int32), (123, (0, []))))), (123, (.iastore, (sv_N, (124, (0, []))))), (124, (.goto 33, (sv_N, (127, (157, []))))), (127, (.iinc 2 (-1), (.inl (-1 : Int32), (130, (0, []))))), (130, (.aload_n 0, (sv_N, (131, (0, []))))), (131, (.getfield 58, (sv_N, (134, (0, []))))), (134, (.iload_n 2, (sv_N, (135, (0, []))))), (135, (.iconst 1, (.inl (1 : Int32), (136, (0, []))))), (136, (.isub, (sv_N, (137, (0, []))))), (137, (.iload 5, (sv_N, (139, (0, []))))), (139, (.aload_n 0, (sv_N, (140, (0, []))))), (140, (.getfield 58, (sv_N, (143, (0, []))))), (143, (.iload_n 2, (sv_N, (144, (0, []))))), (144, (.iconst 1, (.inl (1 : Int32), (145, (0, []))))), (145, (.isub, (sv_N, (146, (0, []))))), (146, (.iaload, (sv_N, (147, (0, []))))), (147, (.aload_n 0, (sv_N, (148, (0, []))))), (148, (.getfield 58, (sv_N, (151, (0, []))))), (151, (.iload_n 2, (sv_N, (152, (0, []))))), (152, (.iaload, (sv_N, (153, (0, []))))), (153, (.invokestatic 294, (sv_N, (156, (0, []))))), (156, (.iastore, (sv_N, (157, (0, []))))), (157, (.iinc 3 1, (.inl (1 : Int32), (160, (0, []))))), (160, (.goto (-156), (sv_N, (163, (4, []))))), (163, (.aload_n 0, (sv_N, (164, (0, []))))), (164, (.getfield 58, (sv_N, (167, (0, []))))), (167, (.iconst 0, (.inl (0 : Int32), (168, (0, []))))), (168, (.iaload, (sv_N, (169, (0, []))))), (169, (.ireturn, (sv_N, (170, (0, [])))))]
noncomputable def ev_Mo_worked : sv_E := (fun i => sv_lk i fl_12, (fun i => sv_lk i kc_12, (fun i => Nat.beq i 0, (true, fun pc => sv_lk pc [(11, (2, .inl n_Mo_textAt)), (26, (2, .inl n_Mo_textAt)), (44, (2, .inl n_Mo_textAt)), (153, (3, .inl n_Mo_joined))]))))
noncomputable def kk_Mo_worked_86 (k4 : Int32 → Int32 → Int32 → sv_S → Option (Int32 × sv_S)) : sv_K (Int32 × sv_S) := fun pc => sv_lk pc [(4, fun lo st σ => match lo, st with
    | [some (.inr (.inr (some (30, 0)))), some (.inl x1), some (.inl x2), some (.inl x3), _, _], [] => k4 x1 x2 x3 σ
    | _, _ => none)]
set_option maxRecDepth 20000 in
theorem e_Mo_worked_86 (k4 : Int32 → Int32 → Int32 → sv_S → Option (Int32 × sv_S)) (x1 : Int32) (x2 : Int32) (x3 : Int32) (y0 : Int32) (y1 : Int32) (y2 : Nat) (z4 z5 : Option sv_V) (σ : sv_S) : sv_ex ev_Mo_worked sv_rI (kk_Mo_worked_86 k4) cd_Mo_worked 107 86 [some (.inr (.inr (some (30, 0)))), some (.inl x1), some (.inl x2), some (.inl x3), z4, z5] [.inl y0, .inl y1, .inr (.inr (some (31, y2)))] σ = f_Mo_worked_86 k4 x1 x2 x3 y0 y1 y2 σ := by
  unfold f_Mo_worked_86
  delta ev_Mo_worked kk_Mo_worked_86 n_Mo_textAt n_Mo_joined
  generalize f_Mo_textAt = c0
  generalize f_Mo_joined = c1
  generalize f_Mo_worked_4 = c2
  rfl
noncomputable def kk_Mo_worked_4 (n : Nat) : sv_K (Int32 × sv_S) := fun pc => sv_lk pc [(4, fun lo st σ => match lo, st with
    | [some (.inr (.inr (some (30, 0)))), some (.inl x1), some (.inl x2), some (.inl x3), _, _], [] => f_Mo_worked_4 n x1 x2 x3 σ
    | _, _ => none),
  (86, fun lo st σ => match lo, st with
    | [some (.inr (.inr (some (30, 0)))), some (.inl x1), some (.inl x2), some (.inl x3), _, _], [.inl y0, .inl y1, .inr (.inr (some (31, y2)))] => f_Mo_worked_86 (f_Mo_worked_4 n) x1 x2 x3 y0 y1 y2 σ
    | _, _ => none)]
set_option maxRecDepth 20000 in
theorem e_Mo_worked_4 (n : Nat) (x1 : Int32) (x2 : Int32) (x3 : Int32) (z4 z5 : Option sv_V) (σ : sv_S) : sv_ex ev_Mo_worked sv_rI (kk_Mo_worked_4 n) cd_Mo_worked 107 4 [some (.inr (.inr (some (30, 0)))), some (.inl x1), some (.inl x2), some (.inl x3), z4, z5] [] σ = f_Mo_worked_4 (n + 1) x1 x2 x3 σ := by
  rw [f_Mo_worked_4.eq_2]
  delta ev_Mo_worked kk_Mo_worked_4 n_Mo_textAt n_Mo_joined
  generalize f_Mo_textAt = c0
  generalize f_Mo_joined = c1
  generalize f_Mo_worked_4 = c2
  generalize f_Mo_worked_86 = c3
  rfl
noncomputable def kk_Mo_worked : sv_K (Int32 × sv_S) := fun pc => sv_lk pc [(4, fun lo st σ => match lo, st with
    | [some (.inr (.inr (some (30, 0)))), some (.inl x1), some (.inl x2), some (.inl x3), _, _], [] => f_Mo_worked_4 sv_fu x1 x2 x3 σ
    | _, _ => none)]
set_option maxRecDepth 20000 in
theorem e_Mo_worked (a1 : Int32) (σ : sv_S) : sv_ex ev_Mo_worked sv_rI kk_Mo_worked cd_Mo_worked 107 0 [some (.inr (.inr (some (30, 0)))), some (.inl a1), none, none, none, none] [] σ = f_Mo_worked a1 σ := by
  unfold f_Mo_worked
  delta ev_Mo_worked kk_Mo_worked n_Mo_textAt n_Mo_joined
  generalize f_Mo_textAt = c0
  generalize f_Mo_joined = c1
  generalize f_Mo_worked_4 = c2
  rfl
noncomputable def f_Mo_hears (a1 : Int32) (σ : sv_S) : Option (Int32 × sv_S) :=
  sv_b (f_Mo_of a1 (0 : Int32) σ) (fun v1 σ2 =>
    sv_if (v1 = (5 : Int32))
      (sv_b (f_Mo_left a1 σ2) (fun v3 σ4 =>
        sv_if (v3 ≤ 0)
          (some ((0 : Int32), σ4))
          (some ((1 : Int32), σ4))))
      (sv_b (f_Mo_counts (0 : Int32) σ2) (fun v5 σ6 =>
        sv_if (0 ≤ v5)
          (sv_b (f_Mo_left a1 σ6) (fun v7 σ8 =>
            sv_g (sv_in (108 : Int32) 128) (sv_b (f_Mo_right a1 (sv_up σ8 31 28 ((108 : Int32).toNatClampNeg) v7)) (fun v9 σ10 =>
              sv_g (sv_in (114 : Int32) 128) (sv_g (sv_in (110 : Int32) 128) (sv_b (f_Mo_worked v5 (sv_up (sv_up σ10 31 28 ((114 : Int32).toNatClampNeg) v9) 31 28 ((110 : Int32).toNatClampNeg) a1)) (fun v11 σ12 =>
                sv_if (v11 = 0)
                  (some ((0 : Int32), σ12))
                  (some ((1 : Int32), σ12)))))))))
          (sv_b (f_Mo_left a1 σ6) (fun v13 σ14 =>
            sv_if (0 < v13)
              (some ((1 : Int32), σ14))
              (sv_b (f_Mo_right a1 σ14) (fun v15 σ16 =>
                sv_if (v15 ≤ 0)
                  (some ((0 : Int32), σ16))
                  (some ((1 : Int32), σ16)))))))))
noncomputable def n_Mo_hears : List sv_V → sv_S → Option (Int32 × sv_S)
  | [.inr (.inr (some (30, 0))), .inl a1], σ => f_Mo_hears a1 σ
  | _, _ => none
def cd_Mo_hears : sv_C := [(0, (.aload_n 0, (sv_N, (1, (0, []))))), (1, (.iload_n 1, (sv_N, (2, (0, []))))), (2, (.iconst 0, (.inl (0 : Int32), (3, (0, []))))), (3, (.invokevirtual 90, (sv_N, (6, (0, []))))), (6, (.iconst 5, (.inl (5 : Int32), (7, (0, []))))), (7, (.if_icmp .ne 17, (sv_N, (10, (24, []))))), (10, (.aload_n 0, (sv_N, (11, (0, []))))), (11, (.iload_n 1, (sv_N, (12, (0, []))))), (12, (.invokevirtual 97, (sv_N, (15, (0, []))))), (15, (.ifCond .le 7, (sv_N, (18, (22, []))))), (18, (.iconst 1, (.inl (1 : Int32), (19, (0, []))))), (19, (.goto 4, (sv_N, (22, (23, []))))), (22, (.iconst 0, (.inl (0 : Int32), (23, (0, []))))), (23, (.ireturn, (sv_N, (24, (0, []))))), (24, (.aload_n 0, (sv_N, (25, (0, []))))), (25, (.iconst 0, (.inl (0 : Int32), (26, (0, []))))), (26, (.invokevirtual 101, (sv_N, (29, (0, []))))), (29, (.istore_n 2, (sv_N, (30, (0, []))))), (30, (.iload_n 2, (sv_N, (31, (0, []))))), (31, (.ifCond .ge 25, (sv_N, (34, (56, []))))), (34, (.aload_n 0, (sv_N, (35, (0, []))))), (35, (.iload_n 1, (sv_N, (36, (0, []))))), (36, (.invokevirtual 97, (sv_N, (39, (0, []))))), (39, (.ifCond .gt 11, (sv_N, (42, (50, []))))), (42, (.aload_n 0, (sv_N, (43, (0, []))))), (43, (.iload_n 1, (sv_N, (44, (0, []))))), (44, (.invokevirtual 104, (sv_N, (47, (0, []))))), (47, (.ifCond .le 7, (sv_N, (50, (54, []))))), (50, (.iconst 1, (.inl (1 : Int32), (51, (0, []))))), (51, (.goto 4, (sv_N, (54, (55, []))))), (54, (.iconst 0, (.inl (0 : Int32), (55, (0, []))))), (55, (.ireturn, (sv_N, (56, (0, []))))), (56, (.aload_n 0, (sv_N, (57, (0, []))))), (57, (.getfield 55, (sv_N, (60, (0, []))))), (60, (.bipush 108, (.inl (108 : Int32), (62, (0, []))))), (62, (.aload_n 0, (sv_N, (63, (0, []))))), (63, (.iload_n 1, (sv_N, (64, (0, []))))), (64, (.invokevirtual 97, (sv_N, (67, (0, []))))), (67, (.iastore, (sv_N, (68, (0, []))))), (68, (.aload_n 0, (sv_N, (69, (0, []))))), (69, (.getfield 55, (sv_N, (72, (0, []))))), (72, (.bipush 114, (.inl (114 : Int32), (74, (0, []))))), (74, (.aload_n 0, (sv_N, (75, (0, []))))), (75, (.iload_n 1, (sv_N, (76, (0, []))))), (76, (.invokevirtual 104, (sv_N, (79, (0, []))))), (79, (.iastore, (sv_N, (80, (0, []))))), (80, (.aload_n 0, (sv_N, (81, (0, []))))), (81, (.getfield 55, (sv_N, (84, (0, []))))), (84, (.bipush 110, (.inl (110 : Int32), (86, (0, []))))), (86, (.iload_n 1, (sv_N, (87, (0, []))))), (87, (.iastore, (sv_N, (88, (0, []))))), (88, (.aload_n 0, (sv_N, (89, (0, []))))), (89, (.iload_n 2, (sv_N, (90, (0, []))))), (90, (.invokevirtual 107, (sv_N, (93, (0, []))))), (93, (.ifCond .eq 7, (sv_N, (96, (100, []))))), (96, (.iconst 1, (.inl (1 : Int32), (97, (0, []))))), (97, (.goto 4, (sv_N, (100, (101, []))))), (100, (.iconst 0, (.inl (0 : Int32), (101, (0, []))))), (101, (.ireturn, (sv_N, (102, (0, [])))))]
noncomputable def ev_Mo_hears : sv_E := (fun i => sv_lk i fl_12, (fun i => sv_lk i kc_12, (fun i => Nat.beq i 0, (true, fun pc => sv_lk pc [(3, (3, .inl n_Mo_of)), (12, (2, .inl n_Mo_left)), (26, (2, .inl n_Mo_counts)), (36, (2, .inl n_Mo_left)), (44, (2, .inl n_Mo_right)), (64, (2, .inl n_Mo_left)), (76, (2, .inl n_Mo_right)), (90, (2, .inl n_Mo_worked))]))))
noncomputable def kk_Mo_hears : sv_K (Int32 × sv_S) := fun pc => sv_lk pc []
set_option maxRecDepth 20000 in
theorem e_Mo_hears (a1 : Int32) (σ : sv_S) : sv_ex ev_Mo_hears sv_rI kk_Mo_hears cd_Mo_hears 61 0 [some (.inr (.inr (some (30, 0)))), some (.inl a1), none] [] σ = f_Mo_hears a1 σ := by
  unfold f_Mo_hears
  delta ev_Mo_hears kk_Mo_hears n_Mo_of n_Mo_left n_Mo_counts n_Mo_right n_Mo_worked
  generalize f_Mo_of = c0
  generalize f_Mo_left = c1
  generalize f_Mo_counts = c2
  generalize f_Mo_right = c3
  generalize f_Mo_worked = c4
  rfl
noncomputable def f_Mo_wakes_63 (x1 : Int32) (x2 : Int32) (σ : sv_S) : Option (Int32 × sv_S) :=
    sv_b (f_Mo_of x1 (0 : Int32) σ) (fun v1 σ2 =>
      sv_if (v1.toInt = 2)
        (sv_b (f_Mo_held (x2 + (1 : Int32)) (1 : Int32) (9 : Int32) σ2) (fun v3 σ4 =>
          some (v3, σ4)))
        (sv_if (v1.toInt = 3)
        (sv_b (f_Mo_held (x2 - (1 : Int32)) (1 : Int32) (9 : Int32) σ2) (fun v5 σ6 =>
          some (v5, σ6)))
        (sv_if (v1.toInt = 4)
        (sv_b (f_Mo_held (x2 + (1 : Int32)) (1 : Int32) (9 : Int32) σ2) (fun v7 σ8 =>
          some (v7, σ8)))
        (some (x2, σ2)))))
noncomputable def f_Mo_wakes (a1 : Int32) (σ : sv_S) : Option (Int32 × sv_S) :=
  sv_b (f_Mo_of a1 (1 : Int32) σ) (fun v1 σ2 =>
    sv_b (f_Mo_counts (1 : Int32) σ2) (fun v3 σ4 =>
      sv_if (v3 < 0)
        (f_Mo_wakes_63 a1 v1 σ4)
        (sv_b (f_Mo_of a1 (1 : Int32) σ4) (fun v5 σ6 =>
          sv_g (sv_in (115 : Int32) 128) (sv_g (sv_in (110 : Int32) 128) (sv_g (sv_in (3 : Int32) 3086) (sv_g (sv_in (98 : Int32) 128) (sv_b (f_Mo_worked v3 (sv_up (sv_up (sv_up σ6 31 28 ((115 : Int32).toNatClampNeg) v5) 31 28 ((110 : Int32).toNatClampNeg) a1) 31 28 ((98 : Int32).toNatClampNeg) ((sv_up (sv_up σ6 31 28 ((115 : Int32).toNatClampNeg) v5) 31 28 ((110 : Int32).toNatClampNeg) a1) 31 0 ((3 : Int32).toNatClampNeg)))) (fun v7 σ8 =>
            sv_b (f_Mo_held v7 (1 : Int32) (9 : Int32) σ8) (fun v9 σ10 =>
              f_Mo_wakes_63 a1 v9 σ10))))))))))
noncomputable def n_Mo_wakes : List sv_V → sv_S → Option (Int32 × sv_S)
  | [.inr (.inr (some (30, 0))), .inl a1], σ => f_Mo_wakes a1 σ
  | _, _ => none
def cd_Mo_wakes : sv_C := [(0, (.aload_n 0, (sv_N, (1, (0, []))))), (1, (.iload_n 1, (sv_N, (2, (0, []))))), (2, (.iconst 1, (.inl (1 : Int32), (3, (0, []))))), (3, (.invokevirtual 90, (sv_N, (6, (0, []))))), (6, (.istore_n 2, (sv_N, (7, (0, []))))), (7, (.aload_n 0, (sv_N, (8, (0, []))))), (8, (.iconst 1, (.inl (1 : Int32), (9, (0, []))))), (9, (.invokevirtual 101, (sv_N, (12, (0, []))))), (12, (.istore_n 3, (sv_N, (13, (0, []))))), (13, (.iload_n 3, (sv_N, (14, (0, []))))), (14, (.ifCond .lt 49, (sv_N, (17, (63, []))))), (17, (.aload_n 0, (sv_N, (18, (0, []))))), (18, (.getfield 55, (sv_N, (21, (0, []))))), (21, (.bipush 115, (.inl (115 : Int32), (23, (0, []))))), (23, (.aload_n 0, (sv_N, (24, (0, []))))), (24, (.iload_n 1, (sv_N, (25, (0, []))))), (25, (.iconst 1, (.inl (1 : Int32), (26, (0, []))))), (26, (.invokevirtual 90, (sv_N, (29, (0, []))))), (29, (.iastore, (sv_N, (30, (0, []))))), (30, (.aload_n 0, (sv_N, (31, (0, []))))), (31, (.getfield 55, (sv_N, (34, (0, []))))), (34, (.bipush 110, (.inl (110 : Int32), (36, (0, []))))), (36, (.iload_n 1, (sv_N, (37, (0, []))))), (37, (.iastore, (sv_N, (38, (0, []))))), (38, (.aload_n 0, (sv_N, (39, (0, []))))), (39, (.getfield 55, (sv_N, (42, (0, []))))), (42, (.bipush 98, (.inl (98 : Int32), (44, (0, []))))), (44, (.aload_n 0, (sv_N, (45, (0, []))))), (45, (.getfield 7, (sv_N, (48, (0, []))))), (48, (.iconst 3, (.inl (3 : Int32), (49, (0, []))))), (49, (.iaload, (sv_N, (50, (0, []))))), (50, (.iastore, (sv_N, (51, (0, []))))), (51, (.aload_n 0, (sv_N, (52, (0, []))))), (52, (.iload_n 3, (sv_N, (53, (0, []))))), (53, (.invokevirtual 107, (sv_N, (56, (0, []))))), (56, (.iconst 1, (.inl (1 : Int32), (57, (0, []))))), (57, (.bipush 9, (.inl (9 : Int32), (59, (0, []))))), (59, (.invokestatic 110, (sv_N, (62, (0, []))))), (62, (.istore_n 2, (sv_N, (63, (0, []))))), (63, (.aload_n 0, (sv_N, (64, (0, []))))), (64, (.iload_n 1, (sv_N, (65, (0, []))))), (65, (.iconst 0, (.inl (0 : Int32), (66, (0, []))))), (66, (.invokevirtual 90, (sv_N, (69, (0, []))))), (69, (.tableswitch 47 2 4 #[37, 27, 37], (sv_N, (69, (116, [(2, 106), (3, 96), (4, 106)]))))), (96, (.iload_n 2, (sv_N, (97, (0, []))))), (97, (.iconst 1, (.inl (1 : Int32), (98, (0, []))))), (98, (.isub, (sv_N, (99, (0, []))))), (99, (.iconst 1, (.inl (1 : Int32), (100, (0, []))))), (100, (.bipush 9, (.inl (9 : Int32), (102, (0, []))))), (102, (.invokestatic 110, (sv_N, (105, (0, []))))), (105, (.ireturn, (sv_N, (106, (0, []))))), (106, (.iload_n 2, (sv_N, (107, (0, []))))), (107, (.iconst 1, (.inl (1 : Int32), (108, (0, []))))), (108, (.iadd, (sv_N, (109, (0, []))))), (109, (.iconst 1, (.inl (1 : Int32), (110, (0, []))))), (110, (.bipush 9, (.inl (9 : Int32), (112, (0, []))))), (112, (.invokestatic 110, (sv_N, (115, (0, []))))), (115, (.ireturn, (sv_N, (116, (0, []))))), (116, (.iload_n 2, (sv_N, (117, (0, []))))), (117, (.ireturn, (sv_N, (118, (0, [])))))]
noncomputable def ev_Mo_wakes : sv_E := (fun i => sv_lk i fl_12, (fun i => sv_lk i kc_12, (fun i => Nat.beq i 0, (true, fun pc => sv_lk pc [(3, (3, .inl n_Mo_of)), (9, (2, .inl n_Mo_counts)), (26, (3, .inl n_Mo_of)), (53, (2, .inl n_Mo_worked)), (59, (3, .inl n_Mo_held)), (66, (3, .inl n_Mo_of)), (102, (3, .inl n_Mo_held)), (112, (3, .inl n_Mo_held))]))))
noncomputable def kk_Mo_wakes_63 : sv_K (Int32 × sv_S) := fun pc => sv_lk pc []
set_option maxRecDepth 20000 in
theorem e_Mo_wakes_63 (x1 : Int32) (x2 : Int32) (z3 : Option sv_V) (σ : sv_S) : sv_ex ev_Mo_wakes sv_rI (kk_Mo_wakes_63) cd_Mo_wakes 62 63 [some (.inr (.inr (some (30, 0)))), some (.inl x1), some (.inl x2), z3] [] σ = f_Mo_wakes_63 x1 x2 σ := by
  unfold f_Mo_wakes_63
  delta ev_Mo_wakes kk_Mo_wakes_63 n_Mo_of n_Mo_counts n_Mo_worked n_Mo_held
  generalize f_Mo_of = c0
  generalize f_Mo_counts = c1
  generalize f_Mo_worked = c2
  generalize f_Mo_held = c3
  rfl
noncomputable def kk_Mo_wakes : sv_K (Int32 × sv_S) := fun pc => sv_lk pc [(63, fun lo st σ => match lo, st with
    | [some (.inr (.inr (some (30, 0)))), some (.inl x1), some (.inl x2), _], [] => f_Mo_wakes_63 x1 x2 σ
    | _, _ => none)]
set_option maxRecDepth 20000 in
theorem e_Mo_wakes (a1 : Int32) (σ : sv_S) : sv_ex ev_Mo_wakes sv_rI kk_Mo_wakes cd_Mo_wakes 62 0 [some (.inr (.inr (some (30, 0)))), some (.inl a1), none, none] [] σ = f_Mo_wakes a1 σ := by
  unfold f_Mo_wakes
  delta ev_Mo_wakes kk_Mo_wakes n_Mo_of n_Mo_counts n_Mo_worked n_Mo_held
  generalize f_Mo_of = c0
  generalize f_Mo_counts = c1
  generalize f_Mo_worked = c2
  generalize f_Mo_held = c3
  generalize f_Mo_wakes_63 = c4
  rfl
noncomputable def f_Mo_stepFrom_35 (x2 : Int32) (x3 : Int32) (σ : sv_S) : Option (Int32 × sv_S) :=
    sv_if (x2 = (9 : Int32))
      (some ((0 : Int32), σ))
      (sv_if (x2 = (8 : Int32))
        (sv_if (x3 = (4 : Int32))
          (some ((0 : Int32), σ))
          (some (x2 + (1 : Int32), σ)))
        (some (x2 + (1 : Int32), σ)))
noncomputable def f_Mo_stepFrom_21 (x2 : Int32) (x3 : Int32) (σ : sv_S) : Option (Int32 × sv_S) :=
    sv_g (sv_in (3 : Int32) 3086) (sv_g (¬ (4 : Int32) = 0) (sv_if (((σ 31 0 ((3 : Int32).toNatClampNeg)) - (σ 31 0 ((3 : Int32).toNatClampNeg)) / (4 : Int32) * (4 : Int32)) = (3 : Int32))
      (some (x2, σ))
      (f_Mo_stepFrom_35 x2 x3 σ)))
noncomputable def f_Mo_stepFrom (a1 : Int32) (a2 : Int32) (σ : sv_S) : Option (Int32 × sv_S) :=
  sv_b (f_Mo_of a1 (0 : Int32) σ) (fun v1 σ2 =>
    sv_if (a2 = 0)
      (some (a2, σ2))
      (sv_if (v1 = (1 : Int32))
        (f_Mo_stepFrom_21 a2 v1 σ2)
        (sv_if (v1 = (3 : Int32))
          (f_Mo_stepFrom_21 a2 v1 σ2)
          (f_Mo_stepFrom_35 a2 v1 σ2))))
noncomputable def n_Mo_stepFrom : List sv_V → sv_S → Option (Int32 × sv_S)
  | [.inr (.inr (some (30, 0))), .inl a1, .inl a2], σ => f_Mo_stepFrom a1 a2 σ
  | _, _ => none
def cd_Mo_stepFrom : sv_C := [(0, (.aload_n 0, (sv_N, (1, (0, []))))), (1, (.iload_n 1, (sv_N, (2, (0, []))))), (2, (.iconst 0, (.inl (0 : Int32), (3, (0, []))))), (3, (.invokevirtual 90, (sv_N, (6, (0, []))))), (6, (.istore_n 3, (sv_N, (7, (0, []))))), (7, (.iload_n 2, (sv_N, (8, (0, []))))), (8, (.ifCond .eq 25, (sv_N, (11, (33, []))))), (11, (.iload_n 3, (sv_N, (12, (0, []))))), (12, (.iconst 1, (.inl (1 : Int32), (13, (0, []))))), (13, (.if_icmp .eq 8, (sv_N, (16, (21, []))))), (16, (.iload_n 3, (sv_N, (17, (0, []))))), (17, (.iconst 3, (.inl (3 : Int32), (18, (0, []))))), (18, (.if_icmp .ne 17, (sv_N, (21, (35, []))))), (21, (.aload_n 0, (sv_N, (22, (0, []))))), (22, (.getfield 7, (sv_N, (25, (0, []))))), (25, (.iconst 3, (.inl (3 : Int32), (26, (0, []))))), (26, (.iaload, (sv_N, (27, (0, []))))), (27, (.iconst 4, (.inl (4 : Int32), (28, (0, []))))), (28, (.irem, (sv_N, (29, (0, []))))), (29, (.iconst 3, (.inl (3 : Int32), (30, (0, []))))), (30, (.if_icmp .ne 5, (sv_N, (33, (35, []))))), (33, (.iload_n 2, (sv_N, (34, (0, []))))), (34, (.ireturn, (sv_N, (35, (0, []))))), (35, (.iload_n 2, (sv_N, (36, (0, []))))), (36, (.bipush 9, (.inl (9 : Int32), (38, (0, []))))), (38, (.if_icmp .eq 14, (sv_N, (41, (52, []))))), (41, (.iload_n 2, (sv_N, (42, (0, []))))), (42, (.bipush 8, (.inl (8 : Int32), (44, (0, []))))), (44, (.if_icmp .ne 12, (sv_N, (47, (56, []))))), (47, (.iload_n 3, (sv_N, (48, (0, []))))), (48, (.iconst 4, (.inl (4 : Int32), (49, (0, []))))), (49, (.if_icmp .ne 7, (sv_N, (52, (56, []))))), (52, (.iconst 0, (.inl (0 : Int32), (53, (0, []))))), (53, (.goto 6, (sv_N, (56, (59, []))))), (56, (.iload_n 2, (sv_N, (57, (0, []))))), (57, (.iconst 1, (.inl (1 : Int32), (58, (0, []))))), (58, (.iadd, (sv_N, (59, (0, []))))), (59, (.ireturn, (sv_N, (60, (0, [])))))]
noncomputable def ev_Mo_stepFrom : sv_E := (fun i => sv_lk i fl_12, (fun i => sv_lk i kc_12, (fun i => Nat.beq i 0, (true, fun pc => sv_lk pc [(3, (3, .inl n_Mo_of))]))))
noncomputable def kk_Mo_stepFrom_35 : sv_K (Int32 × sv_S) := fun pc => sv_lk pc []
set_option maxRecDepth 20000 in
theorem e_Mo_stepFrom_35 (x2 : Int32) (x3 : Int32) (z0 z1 : Option sv_V) (σ : sv_S) : sv_ex ev_Mo_stepFrom sv_rI (kk_Mo_stepFrom_35) cd_Mo_stepFrom 40 35 [z0, z1, some (.inl x2), some (.inl x3)] [] σ = f_Mo_stepFrom_35 x2 x3 σ := by
  unfold f_Mo_stepFrom_35
  delta ev_Mo_stepFrom kk_Mo_stepFrom_35 n_Mo_of
  generalize f_Mo_of = c0
  rfl
noncomputable def kk_Mo_stepFrom_21 : sv_K (Int32 × sv_S) := fun pc => sv_lk pc [(35, fun lo st σ => match lo, st with
    | [_, _, some (.inl x2), some (.inl x3)], [] => f_Mo_stepFrom_35 x2 x3 σ
    | _, _ => none)]
set_option maxRecDepth 20000 in
theorem e_Mo_stepFrom_21 (x2 : Int32) (x3 : Int32) (z1 : Option sv_V) (σ : sv_S) : sv_ex ev_Mo_stepFrom sv_rI (kk_Mo_stepFrom_21) cd_Mo_stepFrom 40 21 [some (.inr (.inr (some (30, 0)))), z1, some (.inl x2), some (.inl x3)] [] σ = f_Mo_stepFrom_21 x2 x3 σ := by
  unfold f_Mo_stepFrom_21
  delta ev_Mo_stepFrom kk_Mo_stepFrom_21 n_Mo_of
  generalize f_Mo_of = c0
  generalize f_Mo_stepFrom_35 = c1
  rfl
noncomputable def kk_Mo_stepFrom : sv_K (Int32 × sv_S) := fun pc => sv_lk pc [(21, fun lo st σ => match lo, st with
    | [some (.inr (.inr (some (30, 0)))), _, some (.inl x2), some (.inl x3)], [] => f_Mo_stepFrom_21 x2 x3 σ
    | _, _ => none),
  (35, fun lo st σ => match lo, st with
    | [_, _, some (.inl x2), some (.inl x3)], [] => f_Mo_stepFrom_35 x2 x3 σ
    | _, _ => none)]
set_option maxRecDepth 20000 in
theorem e_Mo_stepFrom (a1 : Int32) (a2 : Int32) (σ : sv_S) : sv_ex ev_Mo_stepFrom sv_rI kk_Mo_stepFrom cd_Mo_stepFrom 40 0 [some (.inr (.inr (some (30, 0)))), some (.inl a1), some (.inl a2), none] [] σ = f_Mo_stepFrom a1 a2 σ := by
  unfold f_Mo_stepFrom
  delta ev_Mo_stepFrom kk_Mo_stepFrom n_Mo_of
  generalize f_Mo_of = c0
  generalize f_Mo_stepFrom_21 = c1
  generalize f_Mo_stepFrom_35 = c2
  rfl
noncomputable def f_Mo_worth (a1 : Int32) (σ : sv_S) : Option (Int32 × sv_S) :=
  sv_b (f_Mo_of a1 (1 : Int32) σ) (fun v1 σ2 =>
    sv_b (f_Mo_of a1 (0 : Int32) σ2) (fun v3 σ4 =>
      sv_if (v3.toInt = 1)
        (some (v1 + (4 : Int32), σ4))
        (sv_if (v3.toInt = 2)
        (some ((20 : Int32) - v1, σ4))
        (sv_if (v3.toInt = 3)
        (some ((2 : Int32) * (v1 + (4 : Int32)), σ4))
        (sv_if (v3.toInt = 4)
        (some ((15 : Int32) - v1, σ4))
        (sv_if (v3.toInt = 5)
        (some ((6 : Int32), σ4))
        (some (v1, σ4))))))))
noncomputable def n_Mo_worth : List sv_V → sv_S → Option (Int32 × sv_S)
  | [.inr (.inr (some (30, 0))), .inl a1], σ => f_Mo_worth a1 σ
  | _, _ => none
def cd_Mo_worth : sv_C := [(0, (.aload_n 0, (sv_N, (1, (0, []))))), (1, (.iload_n 1, (sv_N, (2, (0, []))))), (2, (.iconst 1, (.inl (1 : Int32), (3, (0, []))))), (3, (.invokevirtual 90, (sv_N, (6, (0, []))))), (6, (.istore_n 2, (sv_N, (7, (0, []))))), (7, (.aload_n 0, (sv_N, (8, (0, []))))), (8, (.iload_n 1, (sv_N, (9, (0, []))))), (9, (.iconst 0, (.inl (0 : Int32), (10, (0, []))))), (10, (.invokevirtual 90, (sv_N, (13, (0, []))))), (13, (.tableswitch 58 1 5 #[35, 39, 44, 50, 55], (sv_N, (13, (71, [(1, 48), (2, 52), (3, 57), (4, 63), (5, 68)]))))), (48, (.iload_n 2, (sv_N, (49, (0, []))))), (49, (.iconst 4, (.inl (4 : Int32), (50, (0, []))))), (50, (.iadd, (sv_N, (51, (0, []))))), (51, (.ireturn, (sv_N, (52, (0, []))))), (52, (.bipush 20, (.inl (20 : Int32), (54, (0, []))))), (54, (.iload_n 2, (sv_N, (55, (0, []))))), (55, (.isub, (sv_N, (56, (0, []))))), (56, (.ireturn, (sv_N, (57, (0, []))))), (57, (.iconst 2, (.inl (2 : Int32), (58, (0, []))))), (58, (.iload_n 2, (sv_N, (59, (0, []))))), (59, (.iconst 4, (.inl (4 : Int32), (60, (0, []))))), (60, (.iadd, (sv_N, (61, (0, []))))), (61, (.imul, (sv_N, (62, (0, []))))), (62, (.ireturn, (sv_N, (63, (0, []))))), (63, (.bipush 15, (.inl (15 : Int32), (65, (0, []))))), (65, (.iload_n 2, (sv_N, (66, (0, []))))), (66, (.isub, (sv_N, (67, (0, []))))), (67, (.ireturn, (sv_N, (68, (0, []))))), (68, (.bipush 6, (.inl (6 : Int32), (70, (0, []))))), (70, (.ireturn, (sv_N, (71, (0, []))))), (71, (.iload_n 2, (sv_N, (72, (0, []))))), (72, (.ireturn, (sv_N, (73, (0, [])))))]
noncomputable def ev_Mo_worth : sv_E := (fun i => sv_lk i fl_12, (fun i => sv_lk i kc_12, (fun i => Nat.beq i 0, (true, fun pc => sv_lk pc [(3, (3, .inl n_Mo_of)), (10, (3, .inl n_Mo_of))]))))
noncomputable def kk_Mo_worth : sv_K (Int32 × sv_S) := fun pc => sv_lk pc []
set_option maxRecDepth 20000 in
theorem e_Mo_worth (a1 : Int32) (σ : sv_S) : sv_ex ev_Mo_worth sv_rI kk_Mo_worth cd_Mo_worth 34 0 [some (.inr (.inr (some (30, 0)))), some (.inl a1), none] [] σ = f_Mo_worth a1 σ := by
  unfold f_Mo_worth
  delta ev_Mo_worth kk_Mo_worth n_Mo_of
  generalize f_Mo_of = c0
  rfl
noncomputable def f_Mo_told (a1 : Int32) (a2 : Int32) (σ : sv_S) : Option (Int32 × sv_S) :=
  sv_b (f_Mo_isDrummer a1 σ) (fun v1 σ2 =>
    sv_if (v1 = 0)
      (some ((-1000000001 : Int32), σ2))
      (sv_if (a2.toInt = 0)
        (sv_b (f_Mo_of a1 a2 σ2) (fun v3 σ4 =>
          some (v3, σ4)))
        (sv_if (a2.toInt = 1)
        (sv_b (f_Mo_of a1 a2 σ2) (fun v5 σ6 =>
          some (v5, σ6)))
        (sv_if (a2.toInt = 2)
        (sv_b (f_Mo_of a1 a2 σ2) (fun v7 σ8 =>
          some (v7, σ8)))
        (sv_if (a2.toInt = 3)
        (sv_b (f_Mo_of a1 a2 σ2) (fun v9 σ10 =>
          some (v9, σ10)))
        (sv_if (a2.toInt = 4)
        (sv_b (f_Mo_of a1 a2 σ2) (fun v11 σ12 =>
          some (v11, σ12)))
        (sv_if (a2.toInt = 5)
        (sv_b (f_Mo_of a1 a2 σ2) (fun v13 σ14 =>
          some (v13, σ14)))
        (sv_if (a2.toInt = 6)
        (sv_b (f_Mo_of a1 (6 : Int32) σ2) (fun v15 σ16 =>
          sv_if (v15 = 0)
            (some ((-1000000005 : Int32), σ16))
            (sv_b (f_Mo_of a1 (6 : Int32) σ16) (fun v17 σ18 =>
              some (v17, σ18)))))
        (sv_if (a2.toInt = 7)
        (sv_b (f_Mo_of a1 a2 σ2) (fun v19 σ20 =>
          some (v19, σ20)))
        (sv_if (a2.toInt = 8)
        (sv_b (f_Mo_hears a1 σ2) (fun v21 σ22 =>
          sv_if (v21 = 0)
            (some ((0 : Int32), σ22))
            (some ((1 : Int32), σ22))))
        (sv_if (a2.toInt = 9)
        (sv_b (f_Mo_wakes a1 σ2) (fun v23 σ24 =>
          some (v23, σ24)))
        (sv_if (a2.toInt = 10)
        (sv_b (f_Mo_of a1 (2 : Int32) σ2) (fun v25 σ26 =>
          sv_b (f_Mo_stepFrom a1 v25 σ26) (fun v27 σ28 =>
            some (v27, σ28))))
        (sv_if (a2.toInt = 11)
        (sv_b (f_Mo_worth a1 σ2) (fun v29 σ30 =>
          some (v29, σ30)))
        (some ((-1000000001 : Int32), σ2)))))))))))))))
noncomputable def n_Mo_told : List sv_V → sv_S → Option (Int32 × sv_S)
  | [.inr (.inr (some (30, 0))), .inl a1, .inl a2], σ => f_Mo_told a1 a2 σ
  | _, _ => none
def cd_Mo_told : sv_C := [(0, (.aload_n 0, (sv_N, (1, (0, []))))), (1, (.iload_n 1, (sv_N, (2, (0, []))))), (2, (.invokevirtual 113, (sv_N, (5, (0, []))))), (5, (.ifCond .ne 6, (sv_N, (8, (11, []))))), (8, (.ldc 84, (sv_N, (10, (0, []))))), (10, (.ireturn, (sv_N, (11, (0, []))))), (11, (.iload_n 2, (sv_N, (12, (0, []))))), (12, (.tableswitch 132 0 11 #[64, 64, 64, 64, 64, 64, 71, 64, 94, 108, 114, 126], (sv_N, (12, (144, [(0, 76), (1, 76), (2, 76), (3, 76), (4, 76), (5, 76), (6, 83), (7, 76), (8, 106), (9, 120), (10, 126), (11, 138)]))))), (76, (.aload_n 0, (sv_N, (77, (0, []))))), (77, (.iload_n 1, (sv_N, (78, (0, []))))), (78, (.iload_n 2, (sv_N, (79, (0, []))))), (79, (.invokevirtual 90, (sv_N, (82, (0, []))))), (82, (.ireturn, (sv_N, (83, (0, []))))), (83, (.aload_n 0, (sv_N, (84, (0, []))))), (84, (.iload_n 1, (sv_N, (85, (0, []))))), (85, (.bipush 6, (.inl (6 : Int32), (87, (0, []))))), (87, (.invokevirtual 90, (sv_N, (90, (0, []))))), (90, (.ifCond .ne 8, (sv_N, (93, (98, []))))), (93, (.ldc 70, (sv_N, (95, (0, []))))), (95, (.goto 10, (sv_N, (98, (105, []))))), (98, (.aload_n 0, (sv_N, (99, (0, []))))), (99, (.iload_n 1, (sv_N, (100, (0, []))))), (100, (.bipush 6, (.inl (6 : Int32), (102, (0, []))))), (102, (.invokevirtual 90, (sv_N, (105, (0, []))))), (105, (.ireturn, (sv_N, (106, (0, []))))), (106, (.aload_n 0, (sv_N, (107, (0, []))))), (107, (.iload_n 1, (sv_N, (108, (0, []))))), (108, (.invokevirtual 117, (sv_N, (111, (0, []))))), (111, (.ifCond .eq 7, (sv_N, (114, (118, []))))), (114, (.iconst 1, (.inl (1 : Int32), (115, (0, []))))), (115, (.goto 4, (sv_N, (118, (119, []))))), (118, (.iconst 0, (.inl (0 : Int32), (119, (0, []))))), (119, (.ireturn, (sv_N, (120, (0, []))))), (120, (.aload_n 0, (sv_N, (121, (0, []))))), (121, (.iload_n 1, (sv_N, (122, (0, []))))), (122, (.invokevirtual 120, (sv_N, (125, (0, []))))), (125, (.ireturn, (sv_N, (126, (0, []))))), (126, (.aload_n 0, (sv_N, (127, (0, []))))), (127, (.iload_n 1, (sv_N, (128, (0, []))))), (128, (.aload_n 0, (sv_N, (129, (0, []))))), (129, (.iload_n 1, (sv_N, (130, (0, []))))), (130, (.iconst 2, (.inl (2 : Int32), (131, (0, []))))), (131, (.invokevirtual 90, (sv_N, (134, (0, []))))), (134, (.invokevirtual 123, (sv_N, (137, (0, []))))), (137, (.ireturn, (sv_N, (138, (0, []))))), (138, (.aload_n 0, (sv_N, (139, (0, []))))), (139, (.iload_n 1, (sv_N, (140, (0, []))))), (140, (.invokevirtual 126, (sv_N, (143, (0, []))))), (143, (.ireturn, (sv_N, (144, (0, []))))), (144, (.ldc 84, (sv_N, (146, (0, []))))), (146, (.ireturn, (sv_N, (147, (0, [])))))]
noncomputable def ev_Mo_told : sv_E := (fun i => sv_lk i fl_12, (fun i => sv_lk i kc_12, (fun i => Nat.beq i 0, (true, fun pc => sv_lk pc [(2, (2, .inl n_Mo_isDrummer)), (79, (3, .inl n_Mo_of)), (87, (3, .inl n_Mo_of)), (102, (3, .inl n_Mo_of)), (108, (2, .inl n_Mo_hears)), (122, (2, .inl n_Mo_wakes)), (131, (3, .inl n_Mo_of)), (134, (3, .inl n_Mo_stepFrom)), (140, (2, .inl n_Mo_worth))]))))
noncomputable def kk_Mo_told : sv_K (Int32 × sv_S) := fun pc => sv_lk pc []
set_option maxRecDepth 20000 in
theorem e_Mo_told (a1 : Int32) (a2 : Int32) (σ : sv_S) : sv_ex ev_Mo_told sv_rI kk_Mo_told cd_Mo_told 53 0 [some (.inr (.inr (some (30, 0)))), some (.inl a1), some (.inl a2)] [] σ = f_Mo_told a1 a2 σ := by
  unfold f_Mo_told
  delta ev_Mo_told kk_Mo_told n_Mo_isDrummer n_Mo_of n_Mo_hears n_Mo_wakes n_Mo_stepFrom n_Mo_worth
  generalize f_Mo_isDrummer = c0
  generalize f_Mo_of = c1
  generalize f_Mo_hears = c2
  generalize f_Mo_wakes = c3
  generalize f_Mo_stepFrom = c4
  generalize f_Mo_worth = c5
  rfl
end
