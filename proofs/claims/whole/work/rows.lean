section
-- ===== PART A: goes FIRST, ahead of the names: the tables' words, and 'selects' of the private methods out of them =====
/-- a private method of a class that the tables say can be made, by its rows of tables_1 -/
def lw_okq (q : MethodName × Nat) : Prop := (q.1.cls ≠ "java/lang/invoke/MethodHandle" ∧ q.1.cls ≠ "java/lang/invoke/VarHandle") ∧ Cond.instantiable q.1.cls q.2 ∈ tables_1 ∧ Cond.privateMethod q.1 ∈ tables_1 ∧ Cond.instanceMethod q.1 ∈ tables_1
theorem lw_p0 : lw_okq (⟨"OneStroke", "isDrummer", "(I)Z"⟩, 13) := ⟨⟨by decide +kernel, by decide +kernel⟩, List.mem_of_getElem? (i := 23) (by decide +kernel), List.mem_of_getElem? (i := 297) (by decide +kernel), List.mem_of_getElem? (i := 298) (by decide +kernel)⟩
theorem lw_p1 : lw_okq (⟨"OneStroke", "think", "()V"⟩, 13) := ⟨⟨by decide +kernel, by decide +kernel⟩, List.mem_of_getElem? (i := 23) (by decide +kernel), List.mem_of_getElem? (i := 497) (by decide +kernel), List.mem_of_getElem? (i := 498) (by decide +kernel)⟩
theorem lw_p2 : lw_okq (⟨"OneStroke", "findMend", "(I)Z"⟩, 13) := ⟨⟨by decide +kernel, by decide +kernel⟩, List.mem_of_getElem? (i := 23) (by decide +kernel), List.mem_of_getElem? (i := 544) (by decide +kernel), List.mem_of_getElem? (i := 545) (by decide +kernel)⟩
theorem lw_p3 : lw_okq (⟨"OneStroke", "findMiscounted", "(LOneStroke$Sheet;I)Z"⟩, 13) := ⟨⟨by decide +kernel, by decide +kernel⟩, List.mem_of_getElem? (i := 23) (by decide +kernel), List.mem_of_getElem? (i := 580) (by decide +kernel), List.mem_of_getElem? (i := 581) (by decide +kernel)⟩
theorem lw_p4 : lw_okq (⟨"OneStroke", "differences", "(LOneStroke$Sheet;)I"⟩, 13) := ⟨⟨by decide +kernel, by decide +kernel⟩, List.mem_of_getElem? (i := 23) (by decide +kernel), List.mem_of_getElem? (i := 584) (by decide +kernel), List.mem_of_getElem? (i := 585) (by decide +kernel)⟩
theorem lw_p5 : lw_okq (⟨"OneStroke$Tape", "isSide", "(III)Z"⟩, 9) := ⟨⟨by decide +kernel, by decide +kernel⟩, List.mem_of_getElem? (i := 168) (by decide +kernel), List.mem_of_getElem? (i := 710) (by decide +kernel), List.mem_of_getElem? (i := 711) (by decide +kernel)⟩
theorem lw_p6 : lw_okq (⟨"OneStroke$Tape", "isPiece", "(II)Z"⟩, 9) := ⟨⟨by decide +kernel, by decide +kernel⟩, List.mem_of_getElem? (i := 168) (by decide +kernel), List.mem_of_getElem? (i := 714) (by decide +kernel), List.mem_of_getElem? (i := 715) (by decide +kernel)⟩
theorem lw_p7 : lw_okq (⟨"OneStrokeModel", "comes", "(II)V"⟩, 34) := ⟨⟨by decide +kernel, by decide +kernel⟩, List.mem_of_getElem? (i := 933) (by decide +kernel), List.mem_of_getElem? (i := 1053) (by decide +kernel), List.mem_of_getElem? (i := 1054) (by decide +kernel)⟩
theorem lw_p8 : lw_okq (⟨"OneStrokeModel", "sets", "(III)V"⟩, 34) := ⟨⟨by decide +kernel, by decide +kernel⟩, List.mem_of_getElem? (i := 933) (by decide +kernel), List.mem_of_getElem? (i := 1057) (by decide +kernel), List.mem_of_getElem? (i := 1058) (by decide +kernel)⟩
theorem lw_p9 : lw_okq (⟨"OneStrokeModel", "isDrummer", "(I)Z"⟩, 34) := ⟨⟨by decide +kernel, by decide +kernel⟩, List.mem_of_getElem? (i := 933) (by decide +kernel), List.mem_of_getElem? (i := 1065) (by decide +kernel), List.mem_of_getElem? (i := 1066) (by decide +kernel)⟩
theorem lw_p10 : lw_okq (⟨"OneStrokeModel", "of", "(II)I"⟩, 34) := ⟨⟨by decide +kernel, by decide +kernel⟩, List.mem_of_getElem? (i := 933) (by decide +kernel), List.mem_of_getElem? (i := 1069) (by decide +kernel), List.mem_of_getElem? (i := 1070) (by decide +kernel)⟩
theorem lw_p11 : lw_okq (⟨"OneStrokeModel", "hears", "(I)Z"⟩, 34) := ⟨⟨by decide +kernel, by decide +kernel⟩, List.mem_of_getElem? (i := 933) (by decide +kernel), List.mem_of_getElem? (i := 1074) (by decide +kernel), List.mem_of_getElem? (i := 1075) (by decide +kernel)⟩
theorem lw_p12 : lw_okq (⟨"OneStrokeModel", "left", "(I)I"⟩, 34) := ⟨⟨by decide +kernel, by decide +kernel⟩, List.mem_of_getElem? (i := 933) (by decide +kernel), List.mem_of_getElem? (i := 1078) (by decide +kernel), List.mem_of_getElem? (i := 1079) (by decide +kernel)⟩
theorem lw_p13 : lw_okq (⟨"OneStrokeModel", "ago", "(II)I"⟩, 34) := ⟨⟨by decide +kernel, by decide +kernel⟩, List.mem_of_getElem? (i := 933) (by decide +kernel), List.mem_of_getElem? (i := 1082) (by decide +kernel), List.mem_of_getElem? (i := 1083) (by decide +kernel)⟩
theorem lw_p14 : lw_okq (⟨"OneStrokeModel", "counts", "(I)I"⟩, 34) := ⟨⟨by decide +kernel, by decide +kernel⟩, List.mem_of_getElem? (i := 933) (by decide +kernel), List.mem_of_getElem? (i := 1086) (by decide +kernel), List.mem_of_getElem? (i := 1087) (by decide +kernel)⟩
theorem lw_p15 : lw_okq (⟨"OneStrokeModel", "textAt", "(I)I"⟩, 34) := ⟨⟨by decide +kernel, by decide +kernel⟩, List.mem_of_getElem? (i := 933) (by decide +kernel), List.mem_of_getElem? (i := 1090) (by decide +kernel), List.mem_of_getElem? (i := 1091) (by decide +kernel)⟩
def lw_privs_1 : List (MethodName × Nat) := [(⟨"OneStroke", "isDrummer", "(I)Z"⟩, 13), (⟨"OneStroke", "think", "()V"⟩, 13), (⟨"OneStroke", "findMend", "(I)Z"⟩, 13), (⟨"OneStroke", "findMiscounted", "(LOneStroke$Sheet;I)Z"⟩, 13), (⟨"OneStroke", "differences", "(LOneStroke$Sheet;)I"⟩, 13), (⟨"OneStroke$Tape", "isSide", "(III)Z"⟩, 9), (⟨"OneStroke$Tape", "isPiece", "(II)Z"⟩, 9), (⟨"OneStrokeModel", "comes", "(II)V"⟩, 34), (⟨"OneStrokeModel", "sets", "(III)V"⟩, 34), (⟨"OneStrokeModel", "isDrummer", "(I)Z"⟩, 34), (⟨"OneStrokeModel", "of", "(II)I"⟩, 34), (⟨"OneStrokeModel", "hears", "(I)Z"⟩, 34), (⟨"OneStrokeModel", "left", "(I)I"⟩, 34), (⟨"OneStrokeModel", "ago", "(II)I"⟩, 34), (⟨"OneStrokeModel", "counts", "(I)I"⟩, 34), (⟨"OneStrokeModel", "textAt", "(I)I"⟩, 34)]
theorem lw_r1 : ∀ q ∈ lw_privs_1, lw_okq q := List.forall_mem_cons.mpr ⟨lw_p0, List.forall_mem_cons.mpr ⟨lw_p1, List.forall_mem_cons.mpr ⟨lw_p2, List.forall_mem_cons.mpr ⟨lw_p3, List.forall_mem_cons.mpr ⟨lw_p4, List.forall_mem_cons.mpr ⟨lw_p5, List.forall_mem_cons.mpr ⟨lw_p6, List.forall_mem_cons.mpr ⟨lw_p7, List.forall_mem_cons.mpr ⟨lw_p8, List.forall_mem_cons.mpr ⟨lw_p9, List.forall_mem_cons.mpr ⟨lw_p10, List.forall_mem_cons.mpr ⟨lw_p11, List.forall_mem_cons.mpr ⟨lw_p12, List.forall_mem_cons.mpr ⟨lw_p13, List.forall_mem_cons.mpr ⟨lw_p14, List.forall_mem_cons.mpr ⟨lw_p15, fun _ h => absurd h List.not_mem_nil⟩⟩⟩⟩⟩⟩⟩⟩⟩⟩⟩⟩⟩⟩⟩⟩
theorem lw_p16 : lw_okq (⟨"OneStrokeModel", "right", "(I)I"⟩, 34) := ⟨⟨by decide +kernel, by decide +kernel⟩, List.mem_of_getElem? (i := 933) (by decide +kernel), List.mem_of_getElem? (i := 1094) (by decide +kernel), List.mem_of_getElem? (i := 1095) (by decide +kernel)⟩
theorem lw_p17 : lw_okq (⟨"OneStrokeModel", "worked", "(I)I"⟩, 34) := ⟨⟨by decide +kernel, by decide +kernel⟩, List.mem_of_getElem? (i := 933) (by decide +kernel), List.mem_of_getElem? (i := 1098) (by decide +kernel), List.mem_of_getElem? (i := 1099) (by decide +kernel)⟩
theorem lw_p18 : lw_okq (⟨"OneStrokeModel", "wakes", "(I)I"⟩, 34) := ⟨⟨by decide +kernel, by decide +kernel⟩, List.mem_of_getElem? (i := 933) (by decide +kernel), List.mem_of_getElem? (i := 1105) (by decide +kernel), List.mem_of_getElem? (i := 1106) (by decide +kernel)⟩
theorem lw_p19 : lw_okq (⟨"OneStrokeModel", "stepFrom", "(II)I"⟩, 34) := ⟨⟨by decide +kernel, by decide +kernel⟩, List.mem_of_getElem? (i := 933) (by decide +kernel), List.mem_of_getElem? (i := 1112) (by decide +kernel), List.mem_of_getElem? (i := 1113) (by decide +kernel)⟩
theorem lw_p20 : lw_okq (⟨"OneStrokeModel", "worth", "(I)I"⟩, 34) := ⟨⟨by decide +kernel, by decide +kernel⟩, List.mem_of_getElem? (i := 933) (by decide +kernel), List.mem_of_getElem? (i := 1116) (by decide +kernel), List.mem_of_getElem? (i := 1117) (by decide +kernel)⟩
theorem lw_p21 : lw_okq (⟨"OneStrokeModel", "becomes", "(II)I"⟩, 34) := ⟨⟨by decide +kernel, by decide +kernel⟩, List.mem_of_getElem? (i := 933) (by decide +kernel), List.mem_of_getElem? (i := 1132) (by decide +kernel), List.mem_of_getElem? (i := 1133) (by decide +kernel)⟩
theorem lw_p22 : lw_okq (⟨"OneStrokeModel", "drawn", "()I"⟩, 34) := ⟨⟨by decide +kernel, by decide +kernel⟩, List.mem_of_getElem? (i := 933) (by decide +kernel), List.mem_of_getElem? (i := 1151) (by decide +kernel), List.mem_of_getElem? (i := 1152) (by decide +kernel)⟩
theorem lw_p23 : lw_okq (⟨"OneStrokeModel", "mayOrder", "(I)Z"⟩, 34) := ⟨⟨by decide +kernel, by decide +kernel⟩, List.mem_of_getElem? (i := 933) (by decide +kernel), List.mem_of_getElem? (i := 1164) (by decide +kernel), List.mem_of_getElem? (i := 1165) (by decide +kernel)⟩
theorem lw_p24 : lw_okq (⟨"OneStrokeModel", "orders", "(I)I"⟩, 34) := ⟨⟨by decide +kernel, by decide +kernel⟩, List.mem_of_getElem? (i := 933) (by decide +kernel), List.mem_of_getElem? (i := 1168) (by decide +kernel), List.mem_of_getElem? (i := 1169) (by decide +kernel)⟩
theorem lw_p25 : lw_okq (⟨"OneStrokeModel", "goesOn", "()I"⟩, 34) := ⟨⟨by decide +kernel, by decide +kernel⟩, List.mem_of_getElem? (i := 933) (by decide +kernel), List.mem_of_getElem? (i := 1181) (by decide +kernel), List.mem_of_getElem? (i := 1182) (by decide +kernel)⟩
theorem lw_p26 : lw_okq (⟨"OneStrokeModel", "laysBy", "()V"⟩, 34) := ⟨⟨by decide +kernel, by decide +kernel⟩, List.mem_of_getElem? (i := 933) (by decide +kernel), List.mem_of_getElem? (i := 1193) (by decide +kernel), List.mem_of_getElem? (i := 1194) (by decide +kernel)⟩
theorem lw_p27 : lw_okq (⟨"OneStrokeModel", "laysBack", "()V"⟩, 34) := ⟨⟨by decide +kernel, by decide +kernel⟩, List.mem_of_getElem? (i := 933) (by decide +kernel), List.mem_of_getElem? (i := 1197) (by decide +kernel), List.mem_of_getElem? (i := 1198) (by decide +kernel)⟩
theorem lw_p28 : lw_okq (⟨"OneStrokeModel", "firstOf", "(I)I"⟩, 34) := ⟨⟨by decide +kernel, by decide +kernel⟩, List.mem_of_getElem? (i := 933) (by decide +kernel), List.mem_of_getElem? (i := 1205) (by decide +kernel), List.mem_of_getElem? (i := 1206) (by decide +kernel)⟩
theorem lw_p29 : lw_okq (⟨"OneStrokeModel", "layFirsts", "(I)V"⟩, 34) := ⟨⟨by decide +kernel, by decide +kernel⟩, List.mem_of_getElem? (i := 933) (by decide +kernel), List.mem_of_getElem? (i := 1220) (by decide +kernel), List.mem_of_getElem? (i := 1221) (by decide +kernel)⟩
theorem lw_p30 : lw_okq (⟨"OneStrokeModel", "spreadOf", "()I"⟩, 34) := ⟨⟨by decide +kernel, by decide +kernel⟩, List.mem_of_getElem? (i := 933) (by decide +kernel), List.mem_of_getElem? (i := 1224) (by decide +kernel), List.mem_of_getElem? (i := 1225) (by decide +kernel)⟩
theorem lw_p31 : lw_okq (⟨"OneStrokeModel", "farOf", "(II)I"⟩, 34) := ⟨⟨by decide +kernel, by decide +kernel⟩, List.mem_of_getElem? (i := 933) (by decide +kernel), List.mem_of_getElem? (i := 1242) (by decide +kernel), List.mem_of_getElem? (i := 1243) (by decide +kernel)⟩
def lw_privs_2 : List (MethodName × Nat) := [(⟨"OneStrokeModel", "right", "(I)I"⟩, 34), (⟨"OneStrokeModel", "worked", "(I)I"⟩, 34), (⟨"OneStrokeModel", "wakes", "(I)I"⟩, 34), (⟨"OneStrokeModel", "stepFrom", "(II)I"⟩, 34), (⟨"OneStrokeModel", "worth", "(I)I"⟩, 34), (⟨"OneStrokeModel", "becomes", "(II)I"⟩, 34), (⟨"OneStrokeModel", "drawn", "()I"⟩, 34), (⟨"OneStrokeModel", "mayOrder", "(I)Z"⟩, 34), (⟨"OneStrokeModel", "orders", "(I)I"⟩, 34), (⟨"OneStrokeModel", "goesOn", "()I"⟩, 34), (⟨"OneStrokeModel", "laysBy", "()V"⟩, 34), (⟨"OneStrokeModel", "laysBack", "()V"⟩, 34), (⟨"OneStrokeModel", "firstOf", "(I)I"⟩, 34), (⟨"OneStrokeModel", "layFirsts", "(I)V"⟩, 34), (⟨"OneStrokeModel", "spreadOf", "()I"⟩, 34), (⟨"OneStrokeModel", "farOf", "(II)I"⟩, 34)]
theorem lw_r2 : ∀ q ∈ lw_privs_2, lw_okq q := List.forall_mem_cons.mpr ⟨lw_p16, List.forall_mem_cons.mpr ⟨lw_p17, List.forall_mem_cons.mpr ⟨lw_p18, List.forall_mem_cons.mpr ⟨lw_p19, List.forall_mem_cons.mpr ⟨lw_p20, List.forall_mem_cons.mpr ⟨lw_p21, List.forall_mem_cons.mpr ⟨lw_p22, List.forall_mem_cons.mpr ⟨lw_p23, List.forall_mem_cons.mpr ⟨lw_p24, List.forall_mem_cons.mpr ⟨lw_p25, List.forall_mem_cons.mpr ⟨lw_p26, List.forall_mem_cons.mpr ⟨lw_p27, List.forall_mem_cons.mpr ⟨lw_p28, List.forall_mem_cons.mpr ⟨lw_p29, List.forall_mem_cons.mpr ⟨lw_p30, List.forall_mem_cons.mpr ⟨lw_p31, fun _ h => absurd h List.not_mem_nil⟩⟩⟩⟩⟩⟩⟩⟩⟩⟩⟩⟩⟩⟩⟩⟩
theorem lw_p32 : lw_okq (⟨"OneStrokeModel", "strokesOfAll", "()I"⟩, 34) := ⟨⟨by decide +kernel, by decide +kernel⟩, List.mem_of_getElem? (i := 933) (by decide +kernel), List.mem_of_getElem? (i := 1259) (by decide +kernel), List.mem_of_getElem? (i := 1260) (by decide +kernel)⟩
theorem lw_p33 : lw_okq (⟨"OneStrokeModel", "parse", "()I"⟩, 34) := ⟨⟨by decide +kernel, by decide +kernel⟩, List.mem_of_getElem? (i := 933) (by decide +kernel), List.mem_of_getElem? (i := 1275) (by decide +kernel), List.mem_of_getElem? (i := 1276) (by decide +kernel)⟩
theorem lw_p34 : lw_okq (⟨"OneStrokeModel", "nextToken", "()V"⟩, 34) := ⟨⟨by decide +kernel, by decide +kernel⟩, List.mem_of_getElem? (i := 933) (by decide +kernel), List.mem_of_getElem? (i := 1279) (by decide +kernel), List.mem_of_getElem? (i := 1280) (by decide +kernel)⟩
theorem lw_p35 : lw_okq (⟨"OneStrokeModel", "isLetter", "(I)Z"⟩, 34) := ⟨⟨by decide +kernel, by decide +kernel⟩, List.mem_of_getElem? (i := 933) (by decide +kernel), List.mem_of_getElem? (i := 1283) (by decide +kernel), List.mem_of_getElem? (i := 1284) (by decide +kernel)⟩
theorem lw_p36 : lw_okq (⟨"OneStrokeModel", "isDigit", "(I)Z"⟩, 34) := ⟨⟨by decide +kernel, by decide +kernel⟩, List.mem_of_getElem? (i := 933) (by decide +kernel), List.mem_of_getElem? (i := 1289) (by decide +kernel), List.mem_of_getElem? (i := 1290) (by decide +kernel)⟩
theorem lw_p37 : lw_okq (⟨"OneStrokeModel", "key", "()I"⟩, 34) := ⟨⟨by decide +kernel, by decide +kernel⟩, List.mem_of_getElem? (i := 933) (by decide +kernel), List.mem_of_getElem? (i := 1295) (by decide +kernel), List.mem_of_getElem? (i := 1296) (by decide +kernel)⟩
theorem lw_p38 : lw_okq (⟨"OneStrokeModel", "isWordAt", "(IIII)Z"⟩, 34) := ⟨⟨by decide +kernel, by decide +kernel⟩, List.mem_of_getElem? (i := 933) (by decide +kernel), List.mem_of_getElem? (i := 1299) (by decide +kernel), List.mem_of_getElem? (i := 1300) (by decide +kernel)⟩
theorem lw_p39 : lw_okq (⟨"OneStrokeModel", "isLong", "(IIIIII)Z"⟩, 34) := ⟨⟨by decide +kernel, by decide +kernel⟩, List.mem_of_getElem? (i := 933) (by decide +kernel), List.mem_of_getElem? (i := 1303) (by decide +kernel), List.mem_of_getElem? (i := 1304) (by decide +kernel)⟩
theorem lw_p40 : lw_okq (⟨"OneStrokeModel", "either", "(I)Z"⟩, 34) := ⟨⟨by decide +kernel, by decide +kernel⟩, List.mem_of_getElem? (i := 933) (by decide +kernel), List.mem_of_getElem? (i := 1307) (by decide +kernel), List.mem_of_getElem? (i := 1308) (by decide +kernel)⟩
theorem lw_p41 : lw_okq (⟨"OneStrokeModel", "both", "(I)Z"⟩, 34) := ⟨⟨by decide +kernel, by decide +kernel⟩, List.mem_of_getElem? (i := 933) (by decide +kernel), List.mem_of_getElem? (i := 1311) (by decide +kernel), List.mem_of_getElem? (i := 1312) (by decide +kernel)⟩
theorem lw_p42 : lw_okq (⟨"OneStrokeModel", "test", "(I)Z"⟩, 34) := ⟨⟨by decide +kernel, by decide +kernel⟩, List.mem_of_getElem? (i := 933) (by decide +kernel), List.mem_of_getElem? (i := 1315) (by decide +kernel), List.mem_of_getElem? (i := 1316) (by decide +kernel)⟩
theorem lw_p43 : lw_okq (⟨"OneStrokeModel", "sum", "(I)Z"⟩, 34) := ⟨⟨by decide +kernel, by decide +kernel⟩, List.mem_of_getElem? (i := 933) (by decide +kernel), List.mem_of_getElem? (i := 1319) (by decide +kernel), List.mem_of_getElem? (i := 1320) (by decide +kernel)⟩
theorem lw_p44 : lw_okq (⟨"OneStrokeModel", "term", "(I)Z"⟩, 34) := ⟨⟨by decide +kernel, by decide +kernel⟩, List.mem_of_getElem? (i := 933) (by decide +kernel), List.mem_of_getElem? (i := 1323) (by decide +kernel), List.mem_of_getElem? (i := 1324) (by decide +kernel)⟩
theorem lw_p45 : lw_okq (⟨"OneStrokeModel", "part0", "(I)Z"⟩, 34) := ⟨⟨by decide +kernel, by decide +kernel⟩, List.mem_of_getElem? (i := 933) (by decide +kernel), List.mem_of_getElem? (i := 1327) (by decide +kernel), List.mem_of_getElem? (i := 1328) (by decide +kernel)⟩
theorem lw_p46 : lw_okq (⟨"OneStrokeModel", "step", "(II)V"⟩, 34) := ⟨⟨by decide +kernel, by decide +kernel⟩, List.mem_of_getElem? (i := 933) (by decide +kernel), List.mem_of_getElem? (i := 1331) (by decide +kernel), List.mem_of_getElem? (i := 1332) (by decide +kernel)⟩
theorem lw_p47 : lw_okq (⟨"OneStrokeModel", "isSign", "(I)Z"⟩, 34) := ⟨⟨by decide +kernel, by decide +kernel⟩, List.mem_of_getElem? (i := 933) (by decide +kernel), List.mem_of_getElem? (i := 1338) (by decide +kernel), List.mem_of_getElem? (i := 1339) (by decide +kernel)⟩
def lw_privs_3 : List (MethodName × Nat) := [(⟨"OneStrokeModel", "strokesOfAll", "()I"⟩, 34), (⟨"OneStrokeModel", "parse", "()I"⟩, 34), (⟨"OneStrokeModel", "nextToken", "()V"⟩, 34), (⟨"OneStrokeModel", "isLetter", "(I)Z"⟩, 34), (⟨"OneStrokeModel", "isDigit", "(I)Z"⟩, 34), (⟨"OneStrokeModel", "key", "()I"⟩, 34), (⟨"OneStrokeModel", "isWordAt", "(IIII)Z"⟩, 34), (⟨"OneStrokeModel", "isLong", "(IIIIII)Z"⟩, 34), (⟨"OneStrokeModel", "either", "(I)Z"⟩, 34), (⟨"OneStrokeModel", "both", "(I)Z"⟩, 34), (⟨"OneStrokeModel", "test", "(I)Z"⟩, 34), (⟨"OneStrokeModel", "sum", "(I)Z"⟩, 34), (⟨"OneStrokeModel", "term", "(I)Z"⟩, 34), (⟨"OneStrokeModel", "part0", "(I)Z"⟩, 34), (⟨"OneStrokeModel", "step", "(II)V"⟩, 34), (⟨"OneStrokeModel", "isSign", "(I)Z"⟩, 34)]
theorem lw_r3 : ∀ q ∈ lw_privs_3, lw_okq q := List.forall_mem_cons.mpr ⟨lw_p32, List.forall_mem_cons.mpr ⟨lw_p33, List.forall_mem_cons.mpr ⟨lw_p34, List.forall_mem_cons.mpr ⟨lw_p35, List.forall_mem_cons.mpr ⟨lw_p36, List.forall_mem_cons.mpr ⟨lw_p37, List.forall_mem_cons.mpr ⟨lw_p38, List.forall_mem_cons.mpr ⟨lw_p39, List.forall_mem_cons.mpr ⟨lw_p40, List.forall_mem_cons.mpr ⟨lw_p41, List.forall_mem_cons.mpr ⟨lw_p42, List.forall_mem_cons.mpr ⟨lw_p43, List.forall_mem_cons.mpr ⟨lw_p44, List.forall_mem_cons.mpr ⟨lw_p45, List.forall_mem_cons.mpr ⟨lw_p46, List.forall_mem_cons.mpr ⟨lw_p47, fun _ h => absurd h List.not_mem_nil⟩⟩⟩⟩⟩⟩⟩⟩⟩⟩⟩⟩⟩⟩⟩⟩
theorem lw_p48 : lw_okq (⟨"OneStrokeModel", "isText", "(I)Z"⟩, 34) := ⟨⟨by decide +kernel, by decide +kernel⟩, List.mem_of_getElem? (i := 933) (by decide +kernel), List.mem_of_getElem? (i := 1346) (by decide +kernel), List.mem_of_getElem? (i := 1347) (by decide +kernel)⟩
theorem lw_p49 : lw_okq (⟨"OneStrokeModel", "setAside", "([I[I)V"⟩, 34) := ⟨⟨by decide +kernel, by decide +kernel⟩, List.mem_of_getElem? (i := 933) (by decide +kernel), List.mem_of_getElem? (i := 1418) (by decide +kernel), List.mem_of_getElem? (i := 1419) (by decide +kernel)⟩
theorem lw_p50 : lw_okq (⟨"OneStrokeModel", "countsOfAll", "()I"⟩, 34) := ⟨⟨by decide +kernel, by decide +kernel⟩, List.mem_of_getElem? (i := 933) (by decide +kernel), List.mem_of_getElem? (i := 1422) (by decide +kernel), List.mem_of_getElem? (i := 1423) (by decide +kernel)⟩
theorem lw_p51 : lw_okq (⟨"OneStrokeModel", "counting", "()I"⟩, 34) := ⟨⟨by decide +kernel, by decide +kernel⟩, List.mem_of_getElem? (i := 933) (by decide +kernel), List.mem_of_getElem? (i := 1438) (by decide +kernel), List.mem_of_getElem? (i := 1439) (by decide +kernel)⟩
def lw_privs_4 : List (MethodName × Nat) := [(⟨"OneStrokeModel", "isText", "(I)Z"⟩, 34), (⟨"OneStrokeModel", "setAside", "([I[I)V"⟩, 34), (⟨"OneStrokeModel", "countsOfAll", "()I"⟩, 34), (⟨"OneStrokeModel", "counting", "()I"⟩, 34)]
theorem lw_r4 : ∀ q ∈ lw_privs_4, lw_okq q := List.forall_mem_cons.mpr ⟨lw_p48, List.forall_mem_cons.mpr ⟨lw_p49, List.forall_mem_cons.mpr ⟨lw_p50, List.forall_mem_cons.mpr ⟨lw_p51, fun _ h => absurd h List.not_mem_nil⟩⟩⟩⟩
def lw_privs : List (MethodName × Nat) := lw_privs_1 ++ (lw_privs_2 ++ (lw_privs_3 ++ (lw_privs_4)))
def lw_tbl : List Cond := k2_sels lw_privs ++ tables_1
theorem lw_privs_ok : ∀ q ∈ lw_privs, lw_okq q := by
  show ∀ q ∈ lw_privs_1 ++ (lw_privs_2 ++ (lw_privs_3 ++ (lw_privs_4))), lw_okq q
  exact List.forall_mem_append.mpr ⟨lw_r1, List.forall_mem_append.mpr ⟨lw_r2, List.forall_mem_append.mpr ⟨lw_r3, lw_r4⟩⟩⟩
theorem goodIn_r {big : List Cond} (ws : List Cond) (ps : List Nat) (hp : ws = ps.filterMap (fun i => big[i]?)) (h : ws.all goodWord = true) : GoodIn big ws := by
  intro w hw
  have h1 := List.all_eq_true.mp h w hw
  rw [hp] at hw
  obtain ⟨i, -, hi⟩ := List.mem_filterMap.mp hw
  have hm : w ∈ big := by first | exact List.mem_of_getElem? hi | exact List.getElem?_mem hi
  exact ⟨hm, good_of_word h1⟩
theorem goodIn_app {big a b : List Cond} (ha : GoodIn big a) (hb : GoodIn big b) : GoodIn big (a ++ b) := fun w h => (List.mem_append.mp h).elim (ha w) (hb w)
theorem goodIn_ca {big a b : List Cond} {c : Cond} (ha : GoodIn big (c :: a)) (hb : GoodIn big b) : GoodIn big (c :: (a ++ b)) := fun w h => (List.mem_cons.mp h).elim (fun e => ha w (List.mem_cons.mpr (Or.inl e))) (fun h => (List.mem_append.mp h).elim (fun h => ha w (List.mem_cons.mpr (Or.inr h))) (hb w))
theorem goodIn_sub {big ws : List Cond} (hm : ∀ w ∈ ws, w ∈ big) (h : ws.all goodWord = true) : GoodIn big ws := fun w hw => ⟨hm w hw, good_of_word (List.all_eq_true.mp h w hw)⟩
def RX0 : String := "OneStroke$Deaf"
def TX0 : u_T := fun k => match k with
  | _ => ("", "", "", false)
def tyX0 : Nat → FieldType := fun k => match k with
  | _ => .int
abbrev wsX00 : List Cond := u_ws RX0 TX0 0
theorem nmX0 : ∀ a, a < 0 → ∀ b, b < 0 → a ≠ b → (TX0 a).2.1 ≠ (TX0 b).2.1 := by decide +kernel
theorem tyX0_ok : ∀ k, k < 0 → parseFieldDescriptor (TX0 k).2.2.1 = some (tyX0 k) := by decide +kernel
abbrev cX0_init : ByteArray := prog_2_method_1_code
def yX0_init : MethodName := ⟨RX0, "<init>", "()V"⟩
abbrev cX0_hears : ByteArray := prog_2_method_2_code
def yX0_hears : MethodName := ⟨RX0, "hears", "(LOneStroke$Line;I)Z"⟩
abbrev cX0_worth : ByteArray := prog_2_method_3_code
def yX0_worth : MethodName := ⟨RX0, "worth", "(I)I"⟩
def RX1 : String := "OneStroke$Drummer"
def TX1 : u_T := fun k => match k with
  | 0 => ("OneStroke$Drummer", "kind", "I", false)
  | 1 => ("OneStroke$Drummer", "start", "I", false)
  | 2 => ("OneStroke$Drummer", "count", "I", false)
  | 3 => ("OneStroke$Drummer", "ago1", "I", false)
  | 4 => ("OneStroke$Drummer", "ago2", "I", false)
  | 5 => ("OneStroke$Drummer", "strokes", "I", false)
  | 6 => ("OneStroke$Drummer", "apart", "I", false)
  | _ => ("OneStroke$Drummer", "first", "I", false)
def tyX1 : Nat → FieldType := fun k => match k with
  | 0 => .int
  | 1 => .int
  | 2 => .int
  | 3 => .int
  | 4 => .int
  | 5 => .int
  | 6 => .int
  | _ => .int
abbrev wsX10 : List Cond := u_ws RX1 TX1 8
theorem nmX1 : ∀ a, a < 8 → ∀ b, b < 8 → a ≠ b → (TX1 a).2.1 ≠ (TX1 b).2.1 := by decide +kernel
theorem tyX1_ok : ∀ k, k < 8 → parseFieldDescriptor (TX1 k).2.2.1 = some (tyX1 k) := by decide +kernel
abbrev cX1_init : ByteArray := prog_3_method_1_code
def yX1_init : MethodName := ⟨RX1, "<init>", "()V"⟩
abbrev cX1_begin : ByteArray := prog_3_method_2_code
def yX1_begin : MethodName := ⟨RX1, "begin", "(II)V"⟩
abbrev cX1_fallStill : ByteArray := prog_3_method_3_code
def yX1_fallStill : MethodName := ⟨RX1, "fallStill", "()V"⟩
abbrev cX1_setAs : ByteArray := prog_3_method_4_code
def yX1_setAs : MethodName := ⟨RX1, "setAs", "(LOneStroke$Drummer;)V"⟩
abbrev cX1_countAgo : ByteArray := prog_3_method_5_code
def yX1_countAgo : MethodName := ⟨RX1, "countAgo", "(I)I"⟩
abbrev cX1_moves : ByteArray := prog_3_method_6_code
def yX1_moves : MethodName := ⟨RX1, "moves", "(II)Z"⟩
def RX2 : String := "OneStroke$Eager"
def TX2 : u_T := fun k => match k with
  | _ => ("", "", "", false)
def tyX2 : Nat → FieldType := fun k => match k with
  | _ => .int
abbrev wsX20 : List Cond := u_ws RX2 TX2 0
theorem nmX2 : ∀ a, a < 0 → ∀ b, b < 0 → a ≠ b → (TX2 a).2.1 ≠ (TX2 b).2.1 := by decide +kernel
theorem tyX2_ok : ∀ k, k < 0 → parseFieldDescriptor (TX2 k).2.2.1 = some (tyX2 k) := by decide +kernel
abbrev cX2_init : ByteArray := prog_4_method_1_code
def yX2_init : MethodName := ⟨RX2, "<init>", "()V"⟩
abbrev cX2_wakesFrom : ByteArray := prog_4_method_2_code
def yX2_wakesFrom : MethodName := ⟨RX2, "wakesFrom", "(I)I"⟩
abbrev cX2_worth : ByteArray := prog_4_method_3_code
def yX2_worth : MethodName := ⟨RX2, "worth", "(I)I"⟩
def RX3 : String := "OneStroke$Kind"
def TX3 : u_T := fun k => match k with
  | _ => ("", "", "", false)
def tyX3 : Nat → FieldType := fun k => match k with
  | _ => .int
abbrev wsX30 : List Cond := u_ws RX3 TX3 0
theorem nmX3 : ∀ a, a < 0 → ∀ b, b < 0 → a ≠ b → (TX3 a).2.1 ≠ (TX3 b).2.1 := by decide +kernel
theorem tyX3_ok : ∀ k, k < 0 → parseFieldDescriptor (TX3 k).2.2.1 = some (tyX3 k) := by decide +kernel
abbrev cX3_init : ByteArray := prog_5_method_1_code
def yX3_init : MethodName := ⟨RX3, "<init>", "()V"⟩
abbrev cX3_hears : ByteArray := prog_5_method_2_code
def yX3_hears : MethodName := ⟨RX3, "hears", "(LOneStroke$Line;I)Z"⟩
abbrev cX3_wakesFrom : ByteArray := prog_5_method_3_code
def yX3_wakesFrom : MethodName := ⟨RX3, "wakesFrom", "(I)I"⟩
abbrev cX3_stepFrom : ByteArray := prog_5_method_4_code
def yX3_stepFrom : MethodName := ⟨RX3, "stepFrom", "(II)I"⟩
abbrev cX3_worth : ByteArray := prog_5_method_5_code
def yX3_worth : MethodName := ⟨RX3, "worth", "(I)I"⟩
def RX4 : String := "OneStroke$Late"
def TX4 : u_T := fun k => match k with
  | _ => ("", "", "", false)
def tyX4 : Nat → FieldType := fun k => match k with
  | _ => .int
abbrev wsX40 : List Cond := u_ws RX4 TX4 0
theorem nmX4 : ∀ a, a < 0 → ∀ b, b < 0 → a ≠ b → (TX4 a).2.1 ≠ (TX4 b).2.1 := by decide +kernel
theorem tyX4_ok : ∀ k, k < 0 → parseFieldDescriptor (TX4 k).2.2.1 = some (tyX4 k) := by decide +kernel
abbrev cX4_init : ByteArray := prog_6_method_1_code
def yX4_init : MethodName := ⟨RX4, "<init>", "()V"⟩
abbrev cX4_wakesFrom : ByteArray := prog_6_method_2_code
def yX4_wakesFrom : MethodName := ⟨RX4, "wakesFrom", "(I)I"⟩
abbrev cX4_worth : ByteArray := prog_6_method_3_code
def yX4_worth : MethodName := ⟨RX4, "worth", "(I)I"⟩
def RX5 : String := "OneStroke$Line"
def TX5 : u_T := fun k => match k with
  | 0 => ("OneStroke$Line", "kinds", "[LOneStroke$Kind;", true)
  | 1 => ("OneStroke$Line", "drummers", "[LOneStroke$Drummer;", true)
  | 2 => ("OneStroke$Line", "texts", "[LOneStroke$Text;", true)
  | 3 => ("OneStroke$Line", "laws", "[I", true)
  | 4 => ("OneStroke$Line", "size", "I", false)
  | 5 => ("OneStroke$Line", "beat", "I", false)
  | 6 => ("OneStroke$Line", "miss", "I", false)
  | 7 => ("OneStroke$Line", "z", "I", false)
  | _ => ("OneStroke$Line", "textCount", "I", false)
def tyX5 : Nat → FieldType := fun k => match k with
  | 0 => .array (.object "OneStroke$Kind")
  | 1 => .array (.object "OneStroke$Drummer")
  | 2 => .array (.object "OneStroke$Text")
  | 3 => .array .int
  | 4 => .int
  | 5 => .int
  | 6 => .int
  | 7 => .int
  | _ => .int
abbrev wsX50 : List Cond := u_ws RX5 TX5 9
theorem nmX5 : ∀ a, a < 9 → ∀ b, b < 9 → a ≠ b → (TX5 a).2.1 ≠ (TX5 b).2.1 := by decide +kernel
theorem tyX5_ok : ∀ k, k < 9 → parseFieldDescriptor (TX5 k).2.2.1 = some (tyX5 k) := by decide +kernel
abbrev cX5_init : ByteArray := prog_7_method_1_code
def yX5_init : MethodName := ⟨RX5, "<init>", "([LOneStroke$Kind;)V"⟩
abbrev cX5_become : ByteArray := prog_7_method_2_code
def yX5_become : MethodName := ⟨RX5, "become", "(LOneStroke$Line;)V"⟩
abbrev cX5_join : ByteArray := prog_7_method_3_code
def yX5_join : MethodName := ⟨RX5, "join", "(II)I"⟩
abbrev cX5_kindOf : ByteArray := prog_7_method_4_code
def yX5_kindOf : MethodName := ⟨RX5, "kindOf", "(LOneStroke$Drummer;)LOneStroke$Kind;"⟩
abbrev cX5_takeLaw : ByteArray := prog_7_method_5_code
def yX5_takeLaw : MethodName := ⟨RX5, "takeLaw", "(LOneStroke$Text;)I"⟩
abbrev cX5_lawOf : ByteArray := prog_7_method_6_code
def yX5_lawOf : MethodName := ⟨RX5, "lawOf", "(I)LOneStroke$Text;"⟩
abbrev cX5_draw : ByteArray := prog_7_method_7_code
def yX5_draw : MethodName := ⟨RX5, "draw", "()I"⟩
abbrev cX5_soundFrom : ByteArray := prog_7_method_8_code
def yX5_soundFrom : MethodName := ⟨RX5, "soundFrom", "(II)I"⟩
abbrev cX5_hearGives : ByteArray := prog_7_method_9_code
def yX5_hearGives : MethodName := ⟨RX5, "hearGives", "(I)I"⟩
abbrev cX5_wakesTo : ByteArray := prog_7_method_10_code
def yX5_wakesTo : MethodName := ⟨RX5, "wakesTo", "(I)I"⟩
abbrev cX5_wake : ByteArray := prog_7_method_11_code
def yX5_wake : MethodName := ⟨RX5, "wake", "(I)V"⟩
abbrev cX5_passOne : ByteArray := prog_7_method_12_code
def yX5_passOne : MethodName := ⟨RX5, "passOne", "()I"⟩
abbrev cX5_nextCount : ByteArray := prog_7_method_13_code
def yX5_nextCount : MethodName := ⟨RX5, "nextCount", "(IZ)I"⟩
abbrev cX5_pass : ByteArray := prog_7_method_14_code
def yX5_pass : MethodName := ⟨RX5, "pass", "(I)I"⟩
abbrev cX5_firstWithStriking : ByteArray := prog_7_method_15_code
def yX5_firstWithStriking : MethodName := ⟨RX5, "firstWithStriking", "(I)I"⟩
abbrev cX5_mostAtOnce : ByteArray := prog_7_method_16_code
def yX5_mostAtOnce : MethodName := ⟨RX5, "mostAtOnce", "(I)I"⟩
abbrev cX5_spreadIn : ByteArray := prog_7_method_17_code
def yX5_spreadIn : MethodName := ⟨RX5, "spreadIn", "(I)I"⟩
abbrev cX5_beatsBetween : ByteArray := prog_7_method_18_code
def yX5_beatsBetween : MethodName := ⟨RX5, "beatsBetween", "(II)I"⟩
abbrev cX5_counting : ByteArray := prog_7_method_19_code
def yX5_counting : MethodName := ⟨RX5, "counting", "()I"⟩
abbrev cX5_countsOfAll : ByteArray := prog_7_method_20_code
def yX5_countsOfAll : MethodName := ⟨RX5, "countsOfAll", "()I"⟩
abbrev cX5_strokesOfAll : ByteArray := prog_7_method_21_code
def yX5_strokesOfAll : MethodName := ⟨RX5, "strokesOfAll", "()I"⟩
def RX6 : String := "OneStroke$Sheet"
def TX6 : u_T := fun k => match k with
  | 0 => ("OneStroke$Sheet", "sort", "I", false)
  | 1 => ("OneStroke$Sheet", "size", "I", false)
  | _ => ("OneStroke$Sheet", "places", "[I", true)
def tyX6 : Nat → FieldType := fun k => match k with
  | 0 => .int
  | 1 => .int
  | _ => .array .int
abbrev wsX60 : List Cond := u_ws RX6 TX6 3
theorem nmX6 : ∀ a, a < 3 → ∀ b, b < 3 → a ≠ b → (TX6 a).2.1 ≠ (TX6 b).2.1 := by decide +kernel
theorem tyX6_ok : ∀ k, k < 3 → parseFieldDescriptor (TX6 k).2.2.1 = some (tyX6 k) := by decide +kernel
abbrev cX6_init : ByteArray := prog_8_method_1_code
def yX6_init : MethodName := ⟨RX6, "<init>", "()V"⟩
abbrev cX6_begin : ByteArray := prog_8_method_2_code
def yX6_begin : MethodName := ⟨RX6, "begin", "(II)V"⟩
abbrev cX6_fillAs : ByteArray := prog_8_method_3_code
def yX6_fillAs : MethodName := ⟨RX6, "fillAs", "(LOneStroke$Sheet;)V"⟩
abbrev cX6_isMissing : ByteArray := prog_8_method_4_code
def yX6_isMissing : MethodName := ⟨RX6, "isMissing", "()Z"⟩
abbrev cX6_hasPlace : ByteArray := prog_8_method_5_code
def yX6_hasPlace : MethodName := ⟨RX6, "hasPlace", "(I)Z"⟩
abbrev cX6_hasPlaces : ByteArray := prog_8_method_6_code
def yX6_hasPlaces : MethodName := ⟨RX6, "hasPlaces", "(II)Z"⟩
abbrev cX6_hasNumber : ByteArray := prog_8_method_7_code
def yX6_hasNumber : MethodName := ⟨RX6, "hasNumber", "(I)Z"⟩
def RX7 : String := "OneStroke$Sleepy"
def TX7 : u_T := fun k => match k with
  | _ => ("", "", "", false)
def tyX7 : Nat → FieldType := fun k => match k with
  | _ => .int
abbrev wsX70 : List Cond := u_ws RX7 TX7 0
theorem nmX7 : ∀ a, a < 0 → ∀ b, b < 0 → a ≠ b → (TX7 a).2.1 ≠ (TX7 b).2.1 := by decide +kernel
theorem tyX7_ok : ∀ k, k < 0 → parseFieldDescriptor (TX7 k).2.2.1 = some (tyX7 k) := by decide +kernel
abbrev cX7_init : ByteArray := prog_9_method_1_code
def yX7_init : MethodName := ⟨RX7, "<init>", "()V"⟩
abbrev cX7_stepFrom : ByteArray := prog_9_method_2_code
def yX7_stepFrom : MethodName := ⟨RX7, "stepFrom", "(II)I"⟩
abbrev cX7_worth : ByteArray := prog_9_method_3_code
def yX7_worth : MethodName := ⟨RX7, "worth", "(I)I"⟩
def RX8 : String := "OneStroke$Tape"
def TX8 : u_T := fun k => match k with
  | 0 => ("OneStroke$Tape", "bytes", "[B", true)
  | 1 => ("OneStroke$Tape", "length", "I", false)
  | 2 => ("OneStroke$Tape", "from", "I", false)
  | 3 => ("OneStroke$Tape", "after", "I", false)
  | 4 => ("OneStroke$Tape", "token", "I", false)
  | 5 => ("OneStroke$Tape", "key", "I", false)
  | 6 => ("OneStroke$Tape", "operands", "I", false)
  | 7 => ("OneStroke$Tape", "codeCount", "I", false)
  | _ => ("OneStroke$Tape", "codes", "[I", true)
def tyX8 : Nat → FieldType := fun k => match k with
  | 0 => .array .byte
  | 1 => .int
  | 2 => .int
  | 3 => .int
  | 4 => .int
  | 5 => .int
  | 6 => .int
  | 7 => .int
  | _ => .array .int
abbrev wsX80 : List Cond := u_ws RX8 TX8 9
theorem nmX8 : ∀ a, a < 9 → ∀ b, b < 9 → a ≠ b → (TX8 a).2.1 ≠ (TX8 b).2.1 := by decide +kernel
theorem tyX8_ok : ∀ k, k < 9 → parseFieldDescriptor (TX8 k).2.2.1 = some (tyX8 k) := by decide +kernel
abbrev cX8_init : ByteArray := prog_10_method_1_code
def yX8_init : MethodName := ⟨RX8, "<init>", "()V"⟩
abbrev cX8_takeIn : ByteArray := prog_10_method_2_code
def yX8_takeIn : MethodName := ⟨RX8, "takeIn", "(I)V"⟩
abbrev cX8_readText : ByteArray := prog_10_method_3_code
def yX8_readText : MethodName := ⟨RX8, "readText", "()LOneStroke$Text;"⟩
abbrev cX8_isText : ByteArray := prog_10_method_4_code
def yX8_isText : MethodName := ⟨RX8, "isText", "()Z"⟩
abbrev cX8_isKey : ByteArray := prog_10_method_5_code
def yX8_isKey : MethodName := ⟨RX8, "isKey", "()Z"⟩
abbrev cX8_isTheWord : ByteArray := prog_10_method_6_code
def yX8_isTheWord : MethodName := ⟨RX8, "isTheWord", "(Ljava/lang/String;)Z"⟩
abbrev cX8_isSide : ByteArray := prog_10_method_7_code
def yX8_isSide : MethodName := ⟨RX8, "isSide", "(III)Z"⟩
abbrev cX8_levelOf : ByteArray := prog_10_method_8_code
def yX8_levelOf : MethodName := ⟨RX8, "levelOf", "(I)I"⟩
abbrev cX8_isPiece : ByteArray := prog_10_method_9_code
def yX8_isPiece : MethodName := ⟨RX8, "isPiece", "(II)Z"⟩
abbrev cX8_isName : ByteArray := prog_10_method_10_code
def yX8_isName : MethodName := ⟨RX8, "isName", "()Z"⟩
abbrev cX8_number : ByteArray := prog_10_method_11_code
def yX8_number : MethodName := ⟨RX8, "number", "()I"⟩
abbrev cX8_takes : ByteArray := prog_10_method_12_code
def yX8_takes : MethodName := ⟨RX8, "takes", "(I)Z"⟩
abbrev cX8_write : ByteArray := prog_10_method_13_code
def yX8_write : MethodName := ⟨RX8, "write", "(I)V"⟩
abbrev cX8_next : ByteArray := prog_10_method_14_code
def yX8_next : MethodName := ⟨RX8, "next", "()V"⟩
abbrev cX8_isWord : ByteArray := prog_10_method_15_code
def yX8_isWord : MethodName := ⟨RX8, "isWord", "()Z"⟩
abbrev cX8_byteAt : ByteArray := prog_10_method_16_code
def yX8_byteAt : MethodName := ⟨RX8, "byteAt", "(I)I"⟩
abbrev cX8_isLetter : ByteArray := prog_10_method_17_code
def yX8_isLetter : MethodName := ⟨RX8, "isLetter", "(I)Z"⟩
abbrev cX8_isDigit : ByteArray := prog_10_method_18_code
def yX8_isDigit : MethodName := ⟨RX8, "isDigit", "(I)Z"⟩
def RX9 : String := "OneStroke$Text"
def TX9 : u_T := fun k => match k with
  | 0 => ("OneStroke$Text", "key", "I", true)
  | 1 => ("OneStroke$Text", "operands", "I", true)
  | 2 => ("OneStroke$Text", "codes", "[I", true)
  | _ => ("OneStroke$Text", "stack", "[I", true)
def tyX9 : Nat → FieldType := fun k => match k with
  | 0 => .int
  | 1 => .int
  | 2 => .array .int
  | _ => .array .int
abbrev wsX90 : List Cond := u_ws RX9 TX9 4
theorem nmX9 : ∀ a, a < 4 → ∀ b, b < 4 → a ≠ b → (TX9 a).2.1 ≠ (TX9 b).2.1 := by decide +kernel
theorem tyX9_ok : ∀ k, k < 4 → parseFieldDescriptor (TX9 k).2.2.1 = some (tyX9 k) := by decide +kernel
abbrev cX9_init : ByteArray := prog_11_method_1_code
def yX9_init : MethodName := ⟨RX9, "<init>", "(II[I)V"⟩
abbrev cX9_wordOf : ByteArray := prog_11_method_2_code
def yX9_wordOf : MethodName := ⟨RX9, "wordOf", "(I)Ljava/lang/String;"⟩
abbrev cX9_namesOf : ByteArray := prog_11_method_3_code
def yX9_namesOf : MethodName := ⟨RX9, "namesOf", "(I)Ljava/lang/String;"⟩
abbrev cX9_gives : ByteArray := prog_11_method_4_code
def yX9_gives : MethodName := ⟨RX9, "gives", "(III)I"⟩
abbrev cX9_joined : ByteArray := prog_11_method_5_code
def yX9_joined : MethodName := ⟨RX9, "joined", "(III)I"⟩
def RX10 : String := "OneStroke$Traitor"
def TX10 : u_T := fun k => match k with
  | _ => ("", "", "", false)
def tyX10 : Nat → FieldType := fun k => match k with
  | _ => .int
abbrev wsX100 : List Cond := u_ws RX10 TX10 0
theorem nmX10 : ∀ a, a < 0 → ∀ b, b < 0 → a ≠ b → (TX10 a).2.1 ≠ (TX10 b).2.1 := by decide +kernel
theorem tyX10_ok : ∀ k, k < 0 → parseFieldDescriptor (TX10 k).2.2.1 = some (tyX10 k) := by decide +kernel
abbrev cX10_init : ByteArray := prog_12_method_1_code
def yX10_init : MethodName := ⟨RX10, "<init>", "()V"⟩
abbrev cX10_stepFrom : ByteArray := prog_12_method_2_code
def yX10_stepFrom : MethodName := ⟨RX10, "stepFrom", "(II)I"⟩
abbrev cX10_worth : ByteArray := prog_12_method_3_code
def yX10_worth : MethodName := ⟨RX10, "worth", "(I)I"⟩
def RX11 : String := "OneStroke"
def TX11 : u_T := fun k => match k with
  | 0 => ("OneStroke", "now", "LOneStroke$Line;", true)
  | 1 => ("OneStroke", "image", "LOneStroke$Line;", true)
  | 2 => ("OneStroke", "thought", "LOneStroke$Line;", true)
  | 3 => ("OneStroke", "imageKept", "Z", false)
  | 4 => ("OneStroke", "tape", "LOneStroke$Tape;", true)
  | 5 => ("OneStroke", "sheets", "[LOneStroke$Sheet;", true)
  | 6 => ("OneStroke", "held", "[I", true)
  | 7 => ("OneStroke", "heldNumbers", "[I", true)
  | 8 => ("OneStroke", "heldDrummers", "[LOneStroke$Drummer;", true)
  | 9 => ("OneStroke", "heldSheets", "[LOneStroke$Sheet;", true)
  | 10 => ("OneStroke", "waiting", "[I", true)
  | 11 => ("OneStroke", "waits", "I", false)
  | _ => ("OneStroke", "found", "[I", true)
def tyX11 : Nat → FieldType := fun k => match k with
  | 0 => .object "OneStroke$Line"
  | 1 => .object "OneStroke$Line"
  | 2 => .object "OneStroke$Line"
  | 3 => .boolean
  | 4 => .object "OneStroke$Tape"
  | 5 => .array (.object "OneStroke$Sheet")
  | 6 => .array .int
  | 7 => .array .int
  | 8 => .array (.object "OneStroke$Drummer")
  | 9 => .array (.object "OneStroke$Sheet")
  | 10 => .array .int
  | 11 => .int
  | _ => .array .int
abbrev wsX110 : List Cond := u_ws RX11 TX11 13
theorem nmX11 : ∀ a, a < 13 → ∀ b, b < 13 → a ≠ b → (TX11 a).2.1 ≠ (TX11 b).2.1 := by decide +kernel
theorem tyX11_ok : ∀ k, k < 13 → parseFieldDescriptor (TX11 k).2.2.1 = some (tyX11 k) := by decide +kernel
abbrev cX11_init : ByteArray := prog_1_method_1_code
def yX11_init : MethodName := ⟨RX11, "<init>", "()V"⟩
abbrev cX11_drummer : ByteArray := prog_1_method_2_code
def yX11_drummer : MethodName := ⟨RX11, "drummer", "(II)I"⟩
abbrev cX11_told : ByteArray := prog_1_method_3_code
def yX11_told : MethodName := ⟨RX11, "told", "(II)I"⟩
abbrev cX11_as : ByteArray := prog_1_method_4_code
def yX11_as : MethodName := ⟨RX11, "as", "(II)I"⟩
abbrev cX11_turns : ByteArray := prog_1_method_5_code
def yX11_turns : MethodName := ⟨RX11, "turns", "(II)I"⟩
abbrev cX11_set : ByteArray := prog_1_method_6_code
def yX11_set : MethodName := ⟨RX11, "set", "(III)I"⟩
abbrev cX11_miss : ByteArray := prog_1_method_7_code
def yX11_miss : MethodName := ⟨RX11, "miss", "(I)I"⟩
abbrev cX11_deal : ByteArray := prog_1_method_8_code
def yX11_deal : MethodName := ⟨RX11, "deal", "(I)I"⟩
abbrev cX11_seed : ByteArray := prog_1_method_9_code
def yX11_seed : MethodName := ⟨RX11, "seed", "(I)I"⟩
abbrev cX11_order : ByteArray := prog_1_method_10_code
def yX11_order : MethodName := ⟨RX11, "order", "(I)I"⟩
abbrev cX11_hush : ByteArray := prog_1_method_11_code
def yX11_hush : MethodName := ⟨RX11, "hush", "()I"⟩
abbrev cX11_beats : ByteArray := prog_1_method_12_code
def yX11_beats : MethodName := ⟨RX11, "beats", "(I)I"⟩
abbrev cX11_behind : ByteArray := prog_1_method_13_code
def yX11_behind : MethodName := ⟨RX11, "behind", "(III)I"⟩
abbrev cX11_soon : ByteArray := prog_1_method_14_code
def yX11_soon : MethodName := ⟨RX11, "soon", "()I"⟩
abbrev cX11_all : ByteArray := prog_1_method_15_code
def yX11_all : MethodName := ⟨RX11, "all", "()I"⟩
abbrev cX11_spread : ByteArray := prog_1_method_16_code
def yX11_spread : MethodName := ⟨RX11, "spread", "(I)I"⟩
abbrev cX11_toWhom : ByteArray := prog_1_method_17_code
def yX11_toWhom : MethodName := ⟨RX11, "toWhom", "(I)I"⟩
abbrev cX11_mend : ByteArray := prog_1_method_18_code
def yX11_mend : MethodName := ⟨RX11, "mend", "(II)I"⟩
abbrev cX11_far : ByteArray := prog_1_method_19_code
def yX11_far : MethodName := ⟨RX11, "far", "(II)I"⟩
abbrev cX11_reach : ByteArray := prog_1_method_20_code
def yX11_reach : MethodName := ⟨RX11, "reach", "(II)I"⟩
abbrev cX11_edge : ByteArray := prog_1_method_21_code
def yX11_edge : MethodName := ⟨RX11, "edge", "(I)I"⟩
abbrev cX11_miscounted : ByteArray := prog_1_method_22_code
def yX11_miscounted : MethodName := ⟨RX11, "miscounted", "(III)I"⟩
abbrev cX11_fine : ByteArray := prog_1_method_23_code
def yX11_fine : MethodName := ⟨RX11, "fine", "()I"⟩
abbrev cX11_feed : ByteArray := prog_1_method_24_code
def yX11_feed : MethodName := ⟨RX11, "feed", "(III)I"⟩
abbrev cX11_trim : ByteArray := prog_1_method_25_code
def yX11_trim : MethodName := ⟨RX11, "trim", "(I)I"⟩
abbrev cX11_text : ByteArray := prog_1_method_26_code
def yX11_text : MethodName := ⟨RX11, "text", "()I"⟩
abbrev cX11_textTold : ByteArray := prog_1_method_27_code
def yX11_textTold : MethodName := ⟨RX11, "textTold", "(II)I"⟩
abbrev cX11_why : ByteArray := prog_1_method_28_code
def yX11_why : MethodName := ⟨RX11, "why", "(I)I"⟩
abbrev cX11_sheet : ByteArray := prog_1_method_29_code
def yX11_sheet : MethodName := ⟨RX11, "sheet", "(III)I"⟩
abbrev cX11_mark : ByteArray := prog_1_method_30_code
def yX11_mark : MethodName := ⟨RX11, "mark", "(III)I"⟩
abbrev cX11_pour : ByteArray := prog_1_method_31_code
def yX11_pour : MethodName := ⟨RX11, "pour", "(I)I"⟩
abbrev cX11_reads : ByteArray := prog_1_method_32_code
def yX11_reads : MethodName := ⟨RX11, "reads", "(II)I"⟩
abbrev cX11_copy : ByteArray := prog_1_method_33_code
def yX11_copy : MethodName := ⟨RX11, "copy", "(IIIII)I"⟩
abbrev cX11_lay : ByteArray := prog_1_method_34_code
def yX11_lay : MethodName := ⟨RX11, "lay", "(III)I"⟩
abbrev cX11_ask : ByteArray := prog_1_method_35_code
def yX11_ask : MethodName := ⟨RX11, "ask", "(II)I"⟩
abbrev cX11_item : ByteArray := prog_1_method_36_code
def yX11_item : MethodName := ⟨RX11, "item", "(II)I"⟩
abbrev cX11_rest : ByteArray := prog_1_method_37_code
def yX11_rest : MethodName := ⟨RX11, "rest", "(II)I"⟩
abbrev cX11_tell : ByteArray := prog_1_method_38_code
def yX11_tell : MethodName := ⟨RX11, "tell", "(I)I"⟩
abbrev cX11_check : ByteArray := prog_1_method_39_code
def yX11_check : MethodName := ⟨RX11, "check", "(I)I"⟩
abbrev cX11_keep : ByteArray := prog_1_method_40_code
def yX11_keep : MethodName := ⟨RX11, "keep", "()I"⟩
abbrev cX11_back : ByteArray := prog_1_method_41_code
def yX11_back : MethodName := ⟨RX11, "back", "()I"⟩
abbrev cX11_count : ByteArray := prog_1_method_42_code
def yX11_count : MethodName := ⟨RX11, "count", "(I)I"⟩
abbrev cX11_isWithin : ByteArray := prog_1_method_43_code
def yX11_isWithin : MethodName := ⟨RX11, "isWithin", "(III)Z"⟩
abbrev cX11_isKind : ByteArray := prog_1_method_44_code
def yX11_isKind : MethodName := ⟨RX11, "isKind", "(I)Z"⟩
abbrev cX11_isSheet : ByteArray := prog_1_method_45_code
def yX11_isSheet : MethodName := ⟨RX11, "isSheet", "(I)Z"⟩
abbrev cX11_isSlot : ByteArray := prog_1_method_46_code
def yX11_isSlot : MethodName := ⟨RX11, "isSlot", "(I)Z"⟩
abbrev cX11_isDrummer : ByteArray := prog_1_method_47_code
def yX11_isDrummer : MethodName := ⟨RX11, "isDrummer", "(I)Z"⟩
abbrev cX11_isOf : ByteArray := prog_1_method_48_code
def yX11_isOf : MethodName := ⟨RX11, "isOf", "(II)Z"⟩
abbrev cX11_withinStarts : ByteArray := prog_1_method_49_code
def yX11_withinStarts : MethodName := ⟨RX11, "withinStarts", "(I)I"⟩
abbrev cX11_think : ByteArray := prog_1_method_50_code
def yX11_think : MethodName := ⟨RX11, "think", "()V"⟩
abbrev cX11_findMend : ByteArray := prog_1_method_51_code
def yX11_findMend : MethodName := ⟨RX11, "findMend", "(I)Z"⟩
abbrev cX11_findMiscounted : ByteArray := prog_1_method_52_code
def yX11_findMiscounted : MethodName := ⟨RX11, "findMiscounted", "(LOneStroke$Sheet;I)Z"⟩
abbrev cX11_differences : ByteArray := prog_1_method_53_code
def yX11_differences : MethodName := ⟨RX11, "differences", "(LOneStroke$Sheet;)I"⟩
def RX12 : String := "OneStrokeModel"
def TX12 : u_T := fun k => match k with
  | 0 => ("OneStrokeModel", "s", "[I", true)
  | 1 => ("OneStrokeModel", "image", "[I", true)
  | 2 => ("OneStrokeModel", "aside", "[I", true)
  | 3 => ("OneStrokeModel", "hasImage", "Z", false)
  | 4 => ("OneStrokeModel", "tSort", "[I", true)
  | 5 => ("OneStrokeModel", "tSize", "[I", true)
  | 6 => ("OneStrokeModel", "tNumber", "[I", true)
  | 7 => ("OneStrokeModel", "held", "[I", true)
  | 8 => ("OneStrokeModel", "heldNumber", "[I", true)
  | 9 => ("OneStrokeModel", "heldWorth", "[I", true)
  | 10 => ("OneStrokeModel", "heldSize", "[I", true)
  | 11 => ("OneStrokeModel", "heldRow", "[I", true)
  | 12 => ("OneStrokeModel", "was", "[I", true)
  | 13 => ("OneStrokeModel", "close", "[I", true)
  | 14 => ("OneStrokeModel", "firstIn", "[I", true)
  | 15 => ("OneStrokeModel", "mostAtOnce", "I", false)
  | 16 => ("OneStrokeModel", "tape", "[I", true)
  | 17 => ("OneStrokeModel", "taped", "I", false)
  | 18 => ("OneStrokeModel", "begin", "I", false)
  | 19 => ("OneStrokeModel", "behind", "I", false)
  | 20 => ("OneStrokeModel", "token", "I", false)
  | 21 => ("OneStrokeModel", "number", "I", false)
  | 22 => ("OneStrokeModel", "letter", "I", false)
  | 23 => ("OneStrokeModel", "deep", "I", false)
  | 24 => ("OneStrokeModel", "turned", "I", false)
  | 25 => ("OneStrokeModel", "laid", "I", false)
  | 26 => ("OneStrokeModel", "laidAt", "I", false)
  | 27 => ("OneStrokeModel", "said", "I", false)
  | 28 => ("OneStrokeModel", "named", "[I", true)
  | 29 => ("OneStrokeModel", "pile", "[I", true)
  | 30 => ("OneStrokeModel", "carried", "[I", true)
  | 31 => ("OneStrokeModel", "waits", "[I", true)
  | 32 => ("OneStrokeModel", "waiting", "I", false)
  | _ => ("OneStrokeModel", "rowDue", "[I", true)
def tyX12 : Nat → FieldType := fun k => match k with
  | 0 => .array .int
  | 1 => .array .int
  | 2 => .array .int
  | 3 => .boolean
  | 4 => .array .int
  | 5 => .array .int
  | 6 => .array .int
  | 7 => .array .int
  | 8 => .array .int
  | 9 => .array .int
  | 10 => .array .int
  | 11 => .array .int
  | 12 => .array .int
  | 13 => .array .int
  | 14 => .array .int
  | 15 => .int
  | 16 => .array .int
  | 17 => .int
  | 18 => .int
  | 19 => .int
  | 20 => .int
  | 21 => .int
  | 22 => .int
  | 23 => .int
  | 24 => .int
  | 25 => .int
  | 26 => .int
  | 27 => .int
  | 28 => .array .int
  | 29 => .array .int
  | 30 => .array .int
  | 31 => .array .int
  | 32 => .int
  | _ => .array .int
abbrev wsX120 : List Cond := u_ws RX12 TX12 34
theorem nmX12 : ∀ a, a < 34 → ∀ b, b < 34 → a ≠ b → (TX12 a).2.1 ≠ (TX12 b).2.1 := by decide +kernel
theorem tyX12_ok : ∀ k, k < 34 → parseFieldDescriptor (TX12 k).2.2.1 = some (tyX12 k) := by decide +kernel
abbrev cX12_init : ByteArray := prog_14_method_1_code
def yX12_init : MethodName := ⟨RX12, "<init>", "()V"⟩
abbrev cX12_isIn : ByteArray := prog_14_method_2_code
def yX12_isIn : MethodName := ⟨RX12, "isIn", "(JJJ)Z"⟩
abbrev cX12_orNone : ByteArray := prog_14_method_3_code
def yX12_orNone : MethodName := ⟨RX12, "orNone", "(I)I"⟩
abbrev cX12_held : ByteArray := prog_14_method_4_code
def yX12_held : MethodName := ⟨RX12, "held", "(III)I"⟩
abbrev cX12_off : ByteArray := prog_14_method_5_code
def yX12_off : MethodName := ⟨RX12, "off", "(II)I"⟩
abbrev cX12_becomes : ByteArray := prog_14_method_6_code
def yX12_becomes : MethodName := ⟨RX12, "becomes", "(II)I"⟩
abbrev cX12_textAt : ByteArray := prog_14_method_7_code
def yX12_textAt : MethodName := ⟨RX12, "textAt", "(I)I"⟩
abbrev cX12_of : ByteArray := prog_14_method_8_code
def yX12_of : MethodName := ⟨RX12, "of", "(II)I"⟩
abbrev cX12_sets : ByteArray := prog_14_method_9_code
def yX12_sets : MethodName := ⟨RX12, "sets", "(III)V"⟩
abbrev cX12_isDrummer : ByteArray := prog_14_method_10_code
def yX12_isDrummer : MethodName := ⟨RX12, "isDrummer", "(I)Z"⟩
abbrev cX12_isText : ByteArray := prog_14_method_11_code
def yX12_isText : MethodName := ⟨RX12, "isText", "(I)Z"⟩
abbrev cX12_drawn : ByteArray := prog_14_method_12_code
def yX12_drawn : MethodName := ⟨RX12, "drawn", "()I"⟩
abbrev cX12_comes : ByteArray := prog_14_method_13_code
def yX12_comes : MethodName := ⟨RX12, "comes", "(II)V"⟩
abbrev cX12_drummer : ByteArray := prog_14_method_14_code
def yX12_drummer : MethodName := ⟨RX12, "drummer", "(II)I"⟩
abbrev cX12_ago : ByteArray := prog_14_method_15_code
def yX12_ago : MethodName := ⟨RX12, "ago", "(II)I"⟩
abbrev cX12_left : ByteArray := prog_14_method_16_code
def yX12_left : MethodName := ⟨RX12, "left", "(I)I"⟩
abbrev cX12_right : ByteArray := prog_14_method_17_code
def yX12_right : MethodName := ⟨RX12, "right", "(I)I"⟩
abbrev cX12_hears : ByteArray := prog_14_method_18_code
def yX12_hears : MethodName := ⟨RX12, "hears", "(I)Z"⟩
abbrev cX12_wakes : ByteArray := prog_14_method_19_code
def yX12_wakes : MethodName := ⟨RX12, "wakes", "(I)I"⟩
abbrev cX12_stepFrom : ByteArray := prog_14_method_20_code
def yX12_stepFrom : MethodName := ⟨RX12, "stepFrom", "(II)I"⟩
abbrev cX12_worth : ByteArray := prog_14_method_21_code
def yX12_worth : MethodName := ⟨RX12, "worth", "(I)I"⟩
abbrev cX12_told : ByteArray := prog_14_method_22_code
def yX12_told : MethodName := ⟨RX12, "told", "(II)I"⟩
abbrev cX12_isOf : ByteArray := prog_14_method_23_code
def yX12_isOf : MethodName := ⟨RX12, "isOf", "(II)Z"⟩
abbrev cX12_as : ByteArray := prog_14_method_24_code
def yX12_as : MethodName := ⟨RX12, "as", "(II)I"⟩
abbrev cX12_turns : ByteArray := prog_14_method_25_code
def yX12_turns : MethodName := ⟨RX12, "turns", "(II)I"⟩
abbrev cX12_set : ByteArray := prog_14_method_26_code
def yX12_set : MethodName := ⟨RX12, "set", "(III)I"⟩
abbrev cX12_miss : ByteArray := prog_14_method_27_code
def yX12_miss : MethodName := ⟨RX12, "miss", "(I)I"⟩
abbrev cX12_deal : ByteArray := prog_14_method_28_code
def yX12_deal : MethodName := ⟨RX12, "deal", "(I)I"⟩
abbrev cX12_seed : ByteArray := prog_14_method_29_code
def yX12_seed : MethodName := ⟨RX12, "seed", "(I)I"⟩
abbrev cX12_mayOrder : ByteArray := prog_14_method_30_code
def yX12_mayOrder : MethodName := ⟨RX12, "mayOrder", "(I)Z"⟩
abbrev cX12_orders : ByteArray := prog_14_method_31_code
def yX12_orders : MethodName := ⟨RX12, "orders", "(I)I"⟩
abbrev cX12_order : ByteArray := prog_14_method_32_code
def yX12_order : MethodName := ⟨RX12, "order", "(I)I"⟩
abbrev cX12_hush : ByteArray := prog_14_method_33_code
def yX12_hush : MethodName := ⟨RX12, "hush", "()I"⟩
abbrev cX12_goesOn : ByteArray := prog_14_method_34_code
def yX12_goesOn : MethodName := ⟨RX12, "goesOn", "()I"⟩
abbrev cX12_ones : ByteArray := prog_14_method_35_code
def yX12_ones : MethodName := ⟨RX12, "ones", "(I)I"⟩
abbrev cX12_beats : ByteArray := prog_14_method_36_code
def yX12_beats : MethodName := ⟨RX12, "beats", "(I)I"⟩
abbrev cX12_laysBy : ByteArray := prog_14_method_37_code
def yX12_laysBy : MethodName := ⟨RX12, "laysBy", "()V"⟩
abbrev cX12_laysBack : ByteArray := prog_14_method_38_code
def yX12_laysBack : MethodName := ⟨RX12, "laysBack", "()V"⟩
abbrev cX12_behind : ByteArray := prog_14_method_39_code
def yX12_behind : MethodName := ⟨RX12, "behind", "(III)I"⟩
abbrev cX12_firstOf : ByteArray := prog_14_method_40_code
def yX12_firstOf : MethodName := ⟨RX12, "firstOf", "(I)I"⟩
abbrev cX12_soon : ByteArray := prog_14_method_41_code
def yX12_soon : MethodName := ⟨RX12, "soon", "()I"⟩
abbrev cX12_all : ByteArray := prog_14_method_42_code
def yX12_all : MethodName := ⟨RX12, "all", "()I"⟩
abbrev cX12_layFirsts : ByteArray := prog_14_method_43_code
def yX12_layFirsts : MethodName := ⟨RX12, "layFirsts", "(I)V"⟩
abbrev cX12_spreadOf : ByteArray := prog_14_method_44_code
def yX12_spreadOf : MethodName := ⟨RX12, "spreadOf", "()I"⟩
abbrev cX12_spread : ByteArray := prog_14_method_45_code
def yX12_spread : MethodName := ⟨RX12, "spread", "(I)I"⟩
abbrev cX12_toWhom : ByteArray := prog_14_method_46_code
def yX12_toWhom : MethodName := ⟨RX12, "toWhom", "(I)I"⟩
abbrev cX12_mend : ByteArray := prog_14_method_47_code
def yX12_mend : MethodName := ⟨RX12, "mend", "(II)I"⟩
abbrev cX12_farOf : ByteArray := prog_14_method_48_code
def yX12_farOf : MethodName := ⟨RX12, "farOf", "(II)I"⟩
abbrev cX12_far : ByteArray := prog_14_method_49_code
def yX12_far : MethodName := ⟨RX12, "far", "(II)I"⟩
abbrev cX12_reach : ByteArray := prog_14_method_50_code
def yX12_reach : MethodName := ⟨RX12, "reach", "(II)I"⟩
abbrev cX12_edge : ByteArray := prog_14_method_51_code
def yX12_edge : MethodName := ⟨RX12, "edge", "(I)I"⟩
abbrev cX12_strokesOfAll : ByteArray := prog_14_method_52_code
def yX12_strokesOfAll : MethodName := ⟨RX12, "strokesOfAll", "()I"⟩
abbrev cX12_fine : ByteArray := prog_14_method_53_code
def yX12_fine : MethodName := ⟨RX12, "fine", "()I"⟩
abbrev cX12_feed : ByteArray := prog_14_method_54_code
def yX12_feed : MethodName := ⟨RX12, "feed", "(III)I"⟩
abbrev cX12_trim : ByteArray := prog_14_method_55_code
def yX12_trim : MethodName := ⟨RX12, "trim", "(I)I"⟩
abbrev cX12_isLetter : ByteArray := prog_14_method_56_code
def yX12_isLetter : MethodName := ⟨RX12, "isLetter", "(I)Z"⟩
abbrev cX12_isDigit : ByteArray := prog_14_method_57_code
def yX12_isDigit : MethodName := ⟨RX12, "isDigit", "(I)Z"⟩
abbrev cX12_nextToken : ByteArray := prog_14_method_58_code
def yX12_nextToken : MethodName := ⟨RX12, "nextToken", "()V"⟩
abbrev cX12_isSign : ByteArray := prog_14_method_59_code
def yX12_isSign : MethodName := ⟨RX12, "isSign", "(I)Z"⟩
abbrev cX12_isWordAt : ByteArray := prog_14_method_60_code
def yX12_isWordAt : MethodName := ⟨RX12, "isWordAt", "(IIII)Z"⟩
abbrev cX12_isLong : ByteArray := prog_14_method_61_code
def yX12_isLong : MethodName := ⟨RX12, "isLong", "(IIIIII)Z"⟩
abbrev cX12_key : ByteArray := prog_14_method_62_code
def yX12_key : MethodName := ⟨RX12, "key", "()I"⟩
abbrev cX12_isName : ByteArray := prog_14_method_63_code
def yX12_isName : MethodName := ⟨RX12, "isName", "(II)Z"⟩
abbrev cX12_step : ByteArray := prog_14_method_64_code
def yX12_step : MethodName := ⟨RX12, "step", "(II)V"⟩
abbrev cX12_either : ByteArray := prog_14_method_65_code
def yX12_either : MethodName := ⟨RX12, "either", "(I)Z"⟩
abbrev cX12_both : ByteArray := prog_14_method_66_code
def yX12_both : MethodName := ⟨RX12, "both", "(I)Z"⟩
abbrev cX12_test : ByteArray := prog_14_method_67_code
def yX12_test : MethodName := ⟨RX12, "test", "(I)Z"⟩
abbrev cX12_sum : ByteArray := prog_14_method_68_code
def yX12_sum : MethodName := ⟨RX12, "sum", "(I)Z"⟩
abbrev cX12_term : ByteArray := prog_14_method_69_code
def yX12_term : MethodName := ⟨RX12, "term", "(I)Z"⟩
abbrev cX12_part0 : ByteArray := prog_14_method_70_code
def yX12_part0 : MethodName := ⟨RX12, "part0", "(I)Z"⟩
abbrev cX12_parse : ByteArray := prog_14_method_71_code
def yX12_parse : MethodName := ⟨RX12, "parse", "()I"⟩
abbrev cX12_text : ByteArray := prog_14_method_72_code
def yX12_text : MethodName := ⟨RX12, "text", "()I"⟩
abbrev cX12_textTold : ByteArray := prog_14_method_73_code
def yX12_textTold : MethodName := ⟨RX12, "textTold", "(II)I"⟩
abbrev cX12_counts : ByteArray := prog_14_method_74_code
def yX12_counts : MethodName := ⟨RX12, "counts", "(I)I"⟩
abbrev cX12_why : ByteArray := prog_14_method_75_code
def yX12_why : MethodName := ⟨RX12, "why", "(I)I"⟩
abbrev cX12_joined : ByteArray := prog_14_method_76_code
def yX12_joined : MethodName := ⟨RX12, "joined", "(III)I"⟩
abbrev cX12_worked : ByteArray := prog_14_method_77_code
def yX12_worked : MethodName := ⟨RX12, "worked", "(I)I"⟩
abbrev cX12_isSheet : ByteArray := prog_14_method_78_code
def yX12_isSheet : MethodName := ⟨RX12, "isSheet", "(I)Z"⟩
abbrev cX12_sheet : ByteArray := prog_14_method_79_code
def yX12_sheet : MethodName := ⟨RX12, "sheet", "(III)I"⟩
abbrev cX12_mark : ByteArray := prog_14_method_80_code
def yX12_mark : MethodName := ⟨RX12, "mark", "(III)I"⟩
abbrev cX12_pour : ByteArray := prog_14_method_81_code
def yX12_pour : MethodName := ⟨RX12, "pour", "(I)I"⟩
abbrev cX12_reads : ByteArray := prog_14_method_82_code
def yX12_reads : MethodName := ⟨RX12, "reads", "(II)I"⟩
abbrev cX12_miscounted : ByteArray := prog_14_method_83_code
def yX12_miscounted : MethodName := ⟨RX12, "miscounted", "(III)I"⟩
abbrev cX12_copy : ByteArray := prog_14_method_84_code
def yX12_copy : MethodName := ⟨RX12, "copy", "(IIIII)I"⟩
abbrev cX12_isSlot : ByteArray := prog_14_method_85_code
def yX12_isSlot : MethodName := ⟨RX12, "isSlot", "(I)Z"⟩
abbrev cX12_lay : ByteArray := prog_14_method_86_code
def yX12_lay : MethodName := ⟨RX12, "lay", "(III)I"⟩
abbrev cX12_ask : ByteArray := prog_14_method_87_code
def yX12_ask : MethodName := ⟨RX12, "ask", "(II)I"⟩
abbrev cX12_item : ByteArray := prog_14_method_88_code
def yX12_item : MethodName := ⟨RX12, "item", "(II)I"⟩
abbrev cX12_rest : ByteArray := prog_14_method_89_code
def yX12_rest : MethodName := ⟨RX12, "rest", "(II)I"⟩
abbrev cX12_tell : ByteArray := prog_14_method_90_code
def yX12_tell : MethodName := ⟨RX12, "tell", "(I)I"⟩
abbrev cX12_setAside : ByteArray := prog_14_method_91_code
def yX12_setAside : MethodName := ⟨RX12, "setAside", "([I[I)V"⟩
abbrev cX12_countsOfAll : ByteArray := prog_14_method_92_code
def yX12_countsOfAll : MethodName := ⟨RX12, "countsOfAll", "()I"⟩
abbrev cX12_check : ByteArray := prog_14_method_93_code
def yX12_check : MethodName := ⟨RX12, "check", "(I)I"⟩
abbrev cX12_keep : ByteArray := prog_14_method_94_code
def yX12_keep : MethodName := ⟨RX12, "keep", "()I"⟩
abbrev cX12_back : ByteArray := prog_14_method_95_code
def yX12_back : MethodName := ⟨RX12, "back", "()I"⟩
abbrev cX12_counting : ByteArray := prog_14_method_96_code
def yX12_counting : MethodName := ⟨RX12, "counting", "()I"⟩
abbrev cX12_count : ByteArray := prog_14_method_97_code
def yX12_count : MethodName := ⟨RX12, "count", "(I)I"⟩
def RJ11 : String := "java/lang/Character"
def TJ11 : u_T := fun k => match k with
  | _ => ("", "", "", false)
def tyJ11 : Nat → FieldType := fun k => match k with
  | _ => .int
theorem nmJ11 : ∀ a, a < 0 → ∀ b, b < 0 → a ≠ b → (TJ11 a).2.1 ≠ (TJ11 b).2.1 := by decide +kernel
theorem tyJ11_ok : ∀ k, k < 0 → parseFieldDescriptor (TJ11 k).2.2.1 = some (tyJ11 k) := by decide +kernel
abbrev cJ11_isValidCodePoint_9a6ad : ByteArray := prog_15_method_11_code
def yJ11_isValidCodePoint_9a6ad : MethodName := ⟨RJ11, "isValidCodePoint", "(I)Z"⟩
abbrev cJ11_highSurrogate_5068e : ByteArray := prog_15_method_28_code
def yJ11_highSurrogate_5068e : MethodName := ⟨RJ11, "highSurrogate", "(I)C"⟩
abbrev cJ11_lowSurrogate_5068e : ByteArray := prog_15_method_29_code
def yJ11_lowSurrogate_5068e : MethodName := ⟨RJ11, "lowSurrogate", "(I)C"⟩
def RJ9 : String := "java/lang/Math"
def TJ9 : u_T := fun k => match k with
  | _ => ("", "", "", false)
def tyJ9 : Nat → FieldType := fun k => match k with
  | _ => .int
theorem nmJ9 : ∀ a, a < 0 → ∀ b, b < 0 → a ≠ b → (TJ9 a).2.1 ≠ (TJ9 b).2.1 := by decide +kernel
theorem tyJ9_ok : ∀ k, k < 0 → parseFieldDescriptor (TJ9 k).2.2.1 = some (tyJ9 k) := by decide +kernel
abbrev cJ9_abs_0f7a4 : ByteArray := prog_17_method_59_code
def yJ9_abs_0f7a4 : MethodName := ⟨RJ9, "abs", "(I)I"⟩
abbrev cJ9_max_7cf53 : ByteArray := prog_17_method_65_code
def yJ9_max_7cf53 : MethodName := ⟨RJ9, "max", "(II)I"⟩
abbrev cJ9_min_7cf53 : ByteArray := prog_17_method_69_code
def yJ9_min_7cf53 : MethodName := ⟨RJ9, "min", "(II)I"⟩
def RJ0 : String := "java/lang/String"
def TJ0 : u_T := fun k => match k with
  | _ => ("", "", "", false)
def tyJ0 : Nat → FieldType := fun k => match k with
  | _ => .int
theorem nmJ0 : ∀ a, a < 0 → ∀ b, b < 0 → a ≠ b → (TJ0 a).2.1 ≠ (TJ0 b).2.1 := by decide +kernel
theorem tyJ0_ok : ∀ k, k < 0 → parseFieldDescriptor (TJ0 k).2.2.1 = some (tyJ0 k) := by decide +kernel
abbrev cJ0_length_8abf5 : ByteArray := prog_18_method_54_code
def yJ0_length_8abf5 : MethodName := ⟨RJ0, "length", "()I"⟩
abbrev cJ0_charAt_5068e : ByteArray := prog_18_method_56_code
def yJ0_charAt_5068e : MethodName := ⟨RJ0, "charAt", "(I)C"⟩
abbrev cJ0_indexOf_0f7a4 : ByteArray := prog_18_method_79_code
def yJ0_indexOf_0f7a4 : MethodName := ⟨RJ0, "indexOf", "(I)I"⟩
abbrev cJ0_indexOf_7cf53 : ByteArray := prog_18_method_80_code
def yJ0_indexOf_7cf53 : MethodName := ⟨RJ0, "indexOf", "(II)I"⟩
abbrev cJ0_coder_7d493 : ByteArray := prog_18_method_152_code
def yJ0_coder_7d493 : MethodName := ⟨RJ0, "coder", "()B"⟩
abbrev cJ0_isLatin1_aae02 : ByteArray := prog_18_method_154_code
def yJ0_isLatin1_aae02 : MethodName := ⟨RJ0, "isLatin1", "()Z"⟩
abbrev cJ0_checkIndex_df160 : ByteArray := prog_18_method_155_code
def yJ0_checkIndex_df160 : MethodName := ⟨RJ0, "checkIndex", "(II)V"⟩
abbrev cJ0_checkBoundsBeginEnd_23922 : ByteArray := prog_18_method_158_code
def yJ0_checkBoundsBeginEnd_23922 : MethodName := ⟨RJ0, "checkBoundsBeginEnd", "(III)V"⟩
def RJ1 : String := "java/lang/StringLatin1"
def TJ1 : u_T := fun k => match k with
  | _ => ("", "", "", false)
def tyJ1 : Nat → FieldType := fun k => match k with
  | _ => .int
theorem nmJ1 : ∀ a, a < 0 → ∀ b, b < 0 → a ≠ b → (TJ1 a).2.1 ≠ (TJ1 b).2.1 := by decide +kernel
theorem tyJ1_ok : ∀ k, k < 0 → parseFieldDescriptor (TJ1 k).2.2.1 = some (tyJ1 k) := by decide +kernel
abbrev cJ1_charAt_3b067 : ByteArray := prog_19_method_2_code
def yJ1_charAt_3b067 : MethodName := ⟨RJ1, "charAt", "([BI)C"⟩
abbrev cJ1_canEncode_9a6ad : ByteArray := prog_19_method_4_code
def yJ1_canEncode_9a6ad : MethodName := ⟨RJ1, "canEncode", "(I)Z"⟩
abbrev cJ1_indexOf_4cfef : ByteArray := prog_19_method_22_code
def yJ1_indexOf_4cfef : MethodName := ⟨RJ1, "indexOf", "([BIII)I"⟩
abbrev cJ1_indexOfChar_4cfef : ByteArray := prog_19_method_23_code
def yJ1_indexOfChar_4cfef : MethodName := ⟨RJ1, "indexOfChar", "([BIII)I"⟩
def RJ2 : String := "java/lang/StringUTF16"
def TJ2 : u_T := fun k => match k with
  | _ => ("", "", "", false)
def tyJ2 : Nat → FieldType := fun k => match k with
  | _ => .int
theorem nmJ2 : ∀ a, a < 0 → ∀ b, b < 0 → a ≠ b → (TJ2 a).2.1 ≠ (TJ2 b).2.1 := by decide +kernel
theorem tyJ2_ok : ∀ k, k < 0 → parseFieldDescriptor (TJ2 k).2.2.1 = some (tyJ2 k) := by decide +kernel
abbrev cJ2_getChar_3b067 : ByteArray := prog_20_method_5_code
def yJ2_getChar_3b067 : MethodName := ⟨RJ2, "getChar", "([BI)C"⟩
abbrev cJ2_length_9d52b : ByteArray := prog_20_method_6_code
def yJ2_length_9d52b : MethodName := ⟨RJ2, "length", "([B)I"⟩
abbrev cJ2_indexOf_4cfef : ByteArray := prog_20_method_40_code
def yJ2_indexOf_4cfef : MethodName := ⟨RJ2, "indexOf", "([BIII)I"⟩
abbrev cJ2_indexOfChar_4cfef : ByteArray := prog_20_method_47_code
def yJ2_indexOfChar_4cfef : MethodName := ⟨RJ2, "indexOfChar", "([BIII)I"⟩
abbrev cJ2_indexOfCharUnsafe_4cfef : ByteArray := prog_20_method_48_code
def yJ2_indexOfCharUnsafe_4cfef : MethodName := ⟨RJ2, "indexOfCharUnsafe", "([BIII)I"⟩
abbrev cJ2_indexOfSupplementary_4cfef : ByteArray := prog_20_method_49_code
def yJ2_indexOfSupplementary_4cfef : MethodName := ⟨RJ2, "indexOfSupplementary", "([BIII)I"⟩
abbrev cJ2_charAt_3b067 : ByteArray := prog_20_method_83_code
def yJ2_charAt_3b067 : MethodName := ⟨RJ2, "charAt", "([BI)C"⟩
abbrev cJ2_checkIndex_2214a : ByteArray := prog_20_method_91_code
def yJ2_checkIndex_2214a : MethodName := ⟨RJ2, "checkIndex", "(I[B)V"⟩
abbrev cJ2_checkBoundsBeginEnd_d044e : ByteArray := prog_20_method_93_code
def yJ2_checkBoundsBeginEnd_d044e : MethodName := ⟨RJ2, "checkBoundsBeginEnd", "(II[B)V"⟩
def RJ10 : String := "java/lang/System"
def TJ10 : u_T := fun k => match k with
  | _ => ("", "", "", false)
def tyJ10 : Nat → FieldType := fun k => match k with
  | _ => .int
theorem nmJ10 : ∀ a, a < 0 → ∀ b, b < 0 → a ≠ b → (TJ10 a).2.1 ≠ (TJ10 b).2.1 := by decide +kernel
theorem tyJ10_ok : ∀ k, k < 0 → parseFieldDescriptor (TJ10 k).2.2.1 = some (tyJ10 k) := by decide +kernel
def RJ7 : String := "java/util/Arrays"
def TJ7 : u_T := fun k => match k with
  | _ => ("", "", "", false)
def tyJ7 : Nat → FieldType := fun k => match k with
  | _ => .int
theorem nmJ7 : ∀ a, a < 0 → ∀ b, b < 0 → a ≠ b → (TJ7 a).2.1 ≠ (TJ7 b).2.1 := by decide +kernel
theorem tyJ7_ok : ∀ k, k < 0 → parseFieldDescriptor (TJ7 k).2.2.1 = some (tyJ7 k) := by decide +kernel
abbrev cJ7_fill_53178 : ByteArray := prog_22_method_103_code
def yJ7_fill_53178 : MethodName := ⟨RJ7, "fill", "([II)V"⟩
abbrev cJ7_copyOf_59c91 : ByteArray := prog_22_method_123_code
def yJ7_copyOf_59c91 : MethodName := ⟨RJ7, "copyOf", "([II)[I"⟩
def RJ3 : String := "jdk/internal/util/Preconditions"
def TJ3 : u_T := fun k => match k with
  | _ => ("", "", "", false)
def tyJ3 : Nat → FieldType := fun k => match k with
  | _ => .int
theorem nmJ3 : ∀ a, a < 0 → ∀ b, b < 0 → a ≠ b → (TJ3 a).2.1 ≠ (TJ3 b).2.1 := by decide +kernel
theorem tyJ3_ok : ∀ k, k < 0 → parseFieldDescriptor (TJ3 k).2.2.1 = some (tyJ3 k) := by decide +kernel
abbrev cJ3_checkIndex_8e157 : ByteArray := prog_23_method_11_code
def yJ3_checkIndex_8e157 : MethodName := ⟨RJ3, "checkIndex", "(IILjava/util/function/BiFunction;)I"⟩
abbrev cJ3_checkFromToIndex_8c36e : ByteArray := prog_23_method_12_code
def yJ3_checkFromToIndex_8c36e : MethodName := ⟨RJ3, "checkFromToIndex", "(IIILjava/util/function/BiFunction;)I"⟩
def RL : String := "OneStrokeLaw"
abbrev cL_law : ByteArray := code
def yL_law : MethodName := ⟨RL, "law", "([I)Z"⟩
abbrev vwCl : List vw_C := [(RX0, TX0, 0), (RX1, TX1, 8), (RX2, TX2, 0), (RX3, TX3, 0), (RX4, TX4, 0), (RX5, TX5, 9), (RX6, TX6, 3), (RX7, TX7, 0), (RX8, TX8, 9), (RX9, TX9, 4), (RX10, TX10, 0), (RX11, TX11, 13), (RX12, TX12, 34)]
end
section
/-! ===== an interpreter over abstract cells: a cell is (role, number); all that changes are ints; references are fixed by the layout (but texts) ===== -/
abbrev sv_V : Type := Int32 ⊕ (Int64 ⊕ Option (Nat × Nat))
abbrev sv_S : Type := Nat → Nat → Nat → Int32
abbrev sv_I (n : Int32) : sv_V := .inl n
abbrev sv_L (n : Int64) : sv_V := .inr (.inl n)
abbrev sv_N : sv_V := .inr (.inr none)
abbrev sv_R (r i : Nat) : sv_V := .inr (.inr (some (r, i)))
def sv_up (σ : sv_S) (r i k : Nat) (n : Int32) : sv_S := fun r' i' k' => if r' = r ∧ i' = i ∧ k' = k then n else σ r' i' k'
def sv_c (ad : Nat → Nat → Nat) : sv_V → Value
  | .inl n => .int n
  | .inr (.inl n) => .long n
  | .inr (.inr none) => .null
  | .inr (.inr (some (r, i))) => .ref (ad r i)
/-- the class (its place in vwCl) or the element type of a cell: 0 int, 1 byte, 2 Drummer, 3 Text, 4 Kind, 5 Sheet, 6 the static row ABOVE, 7 a text constant -/
def sv_kd (r i : Nat) : Nat ⊕ Nat := match r with
  | 0 => .inl 11
  | 1 => .inl 5
  | 2 => .inl 1
  | 3 => .inr 2
  | 4 => .inr 3
  | 5 => .inr 0
  | 6 => .inr 4
  | 7 => .inl (match i with
    | 0 => 3
    | 1 => 7
    | 2 => 2
    | 3 => 4
    | 4 => 10
    | _ => 0)
  | 8 => .inl 8
  | 9 => .inr 1
  | 10 => .inr 0
  | 11 => .inr 5
  | 12 => .inl 6
  | 13 => .inr 0
  | 14 => .inr 0
  | 15 => .inr 0
  | 16 => .inr 0
  | 17 => .inr 0
  | 18 => .inl 9
  | 19 => .inr 0
  | 20 => .inr 0
  | 21 => .inr 6
  | 23 => .inr 7
  | 30 => .inl 12
  | 31 => .inr 0
  | _ => .inr 9
/-- fields of OneStrokeModel that are rows -/
def sv_ar (k : Nat) : Bool := match k with
  | 3 => false
  | 15 => false
  | 17 => false
  | 18 => false
  | 19 => false
  | 20 => false
  | 21 => false
  | 22 => false
  | 23 => false
  | 24 => false
  | 25 => false
  | 26 => false
  | 27 => false
  | 32 => false
  | _ => true
/-- a field that is a reference: to which cell -/
def sv_fr (c i k : Nat) : Option (Nat × Nat) := match c with
  | 11 => (match k with
    | 0 => some (1, 0)
    | 1 => some (1, 1)
    | 2 => some (1, 2)
    | 4 => some (8, 0)
    | 5 => some (11, 0)
    | 6 => some (14, 0)
    | 7 => some (15, 0)
    | 8 => some (3, 3)
    | 9 => some (11, 1)
    | 10 => some (16, 0)
    | 12 => some (17, 0)
    | _ => none)
  | 5 => (match k with
    | 0 => some (6, 0)
    | 1 => some (3, i)
    | 2 => some (4, i)
    | 3 => some (5, i)
    | _ => none)
  | 8 => (match k with
    | 0 => some (9, 0)
    | 8 => some (10, 0)
    | _ => none)
  | 6 => (match k with
    | 2 => some (13, i)
    | _ => none)
  | 9 => (match k with
    | 2 => some (19, i)
    | 3 => some (20, i)
    | _ => none)
  | 12 => bif sv_ar k then some (31, k) else none
  | _ => none
/-- what may be put into a field: 0 an int, 1 a boolean, 2 nothing -/
def sv_ft (c k : Nat) : Nat := match c with
  | 11 => (match k with
    | 3 => 1
    | 11 => 0
    | _ => 2)
  | 5 => (match k with
    | 0 => 2
    | 1 => 2
    | 2 => 2
    | 3 => 2
    | _ => 0)
  | 1 => 0
  | 8 => (match k with
    | 0 => 2
    | 8 => 2
    | _ => 0)
  | 6 => (match k with
    | 2 => 2
    | _ => 0)
  | 12 => (match k with
    | 3 => 1
    | _ => bif sv_ar k then 2 else 0)
  | _ => 2
/-- how many fields an object of a class has -/
def sv_nf (c : Nat) : Nat := match c with
  | 1 => 8
  | 5 => 9
  | 6 => 3
  | 8 => 9
  | 9 => 4
  | 11 => 13
  | 12 => 34
  | _ => 0
/-- a choice that computing doesn't look into -/
noncomputable def sv_if {α : Type} (c : Prop) (a b : α) : α := @ite α c (Classical.propDecidable c) a b
noncomputable def sv_tx {α : Type} (n : Int32) (k0 : α) (k1 : Nat → α) : α := sv_if (n = 0) k0 (k1 (n.toNatClampNeg - 1))
def sv_df (c i k : Nat) (n : Int32) : sv_V := match sv_fr c i k with
  | some q => .inr (.inr (some q))
  | none => .inl n
/-- the value in a place of a row -/
noncomputable def sv_de (t i k : Nat) (n : Int32) : sv_V := match t with
  | 2 => sv_R 2 (10 * i + k)
  | 3 => sv_tx n sv_N (fun t => sv_R 18 t)
  | 4 => sv_R 7 k
  | 5 => sv_R 12 (4 * i + k)
  | _ => .inl n
noncomputable def sv_dc (r i k : Nat) (n : Int32) : sv_V := match sv_kd r i with
  | .inl c => sv_df c i k n
  | .inr t => sv_de t i k n
def sv_ab (k : Nat) : Int32 := match k with
  | 0 => -1
  | 1 => 0
  | 2 => 0
  | 3 => 1
  | 4 => 2
  | _ => 0
/-- how many texts there are -/
def sv_ct (σ : sv_S) : Nat := (σ 22 0 0).toNatClampNeg
/-- rows of OneStrokeModel: how long -/
def sv_ml (k : Nat) : Nat := match k with
  | 0 => 3086
  | 1 => 3086
  | 2 => 3086
  | 4 => 4
  | 5 => 4
  | 6 => 96
  | 7 => 5
  | 8 => 5
  | 9 => 5
  | 10 => 5
  | 11 => 120
  | 12 => 10
  | 13 => 86
  | 14 => 10
  | 16 => 96
  | 28 => 128
  | 29 => 100
  | 30 => 24
  | 31 => 60
  | _ => 60
def sv_ln (r i : Nat) (σ : sv_S) : Nat := match r with
  | 3 => (match i with
    | 3 => 5
    | _ => 10)
  | 4 => 14
  | 5 => 3
  | 6 => 6
  | 9 => 96
  | 10 => 96
  | 11 => (match i with
    | 0 => 4
    | _ => 5)
  | 13 => 24
  | 14 => 5
  | 15 => 5
  | 16 => 60
  | 17 => 3
  | 19 => (σ 18 i 9).toNatClampNeg
  | 20 => (σ 18 i 1).toNatClampNeg
  | 21 => 6
  | 31 => sv_ml i
  | _ => 0
/-- how many cells of a role there are, if there are n texts -/
def sv_nb (n r : Nat) : Nat := match r with
  | 0 => 1
  | 1 => 3
  | 2 => 35
  | 3 => 4
  | 4 => 3
  | 5 => 3
  | 6 => 1
  | 7 => 6
  | 8 => 1
  | 9 => 1
  | 10 => 1
  | 11 => 2
  | 12 => 9
  | 13 => 9
  | 14 => 1
  | 15 => 1
  | 16 => 1
  | 17 => 1
  | 18 => n
  | 19 => n
  | 20 => n
  | 21 => 1
  | 23 => 6
  | 30 => 1
  | 31 => 34
  | _ => 0
def sv_lv (n r i : Nat) : Prop := i < sv_nb n r ∧ (r = 31 → sv_ar i = true)
def sv_ok (n : Nat) (v : sv_V) : Prop := match v with
  | .inr (.inr (some (r, i))) => sv_lv n r i
  | _ => True
/-- by its number out of a list -/
def sv_lk {α : Type} (i : Nat) : List (Nat × α) → Option α
  | [] => none
  | q :: l => bif Nat.beq i q.1 then some q.2 else sv_lk i l
/-! the code of a method, its links, its calls -/
/-- a row of the code: the instruction, its constant, the next pc, a branch's target, a switch's targets -/
abbrev sv_W : Type := Instr × (sv_V × (Nat × (Nat × List (Int × Nat))))
abbrev sv_C : Type := List (Nat × sv_W)
def sv_at (pc : Nat) : sv_C → Option sv_W
  | [] => none
  | q :: l => bif Nat.beq pc q.1 then some q.2 else sv_at pc l
abbrev sv_Lo : Type := List (Option sv_V)
def sv_ga : sv_Lo → Nat → Option sv_V
  | [], _ => none
  | a :: _, 0 => a
  | _ :: l, n + 1 => sv_ga l n
def sv_se : sv_Lo → Nat → sv_V → sv_Lo
  | [], _, _ => []
  | _ :: l, 0, v => some v :: l
  | a :: l, n + 1, v => a :: sv_se l n v
/-- what a call does: an int; nothing; a cell of a role; a text or null -/
abbrev sv_F : Type := (List sv_V → sv_S → Option (Int32 × sv_S)) ⊕ ((List sv_V → sv_S → Option sv_S) ⊕ ((Nat × (List sv_V → sv_S → Option (Nat × sv_S))) ⊕ (List sv_V → sv_S → Option (Option Nat × sv_S))))
/-- links of a method: fields (class, slot), constants, the static row, whether locals hold no longs, calls by their pc (how many values they take) -/
abbrev sv_E : Type := (Nat → Option (Nat × Nat)) × ((Nat → Option sv_V) × ((Nat → Bool) × (Bool × (Nat → Option (Nat × sv_F)))))
def sv_b {α β : Type} (x : Option (α × sv_S)) (k : α → sv_S → Option β) : Option β := match x with
  | some (a, σ) => k a σ
  | none => none
def sv_b0 {β : Type} (x : Option sv_S) (k : sv_S → Option β) : Option β := match x with
  | some σ => k σ
  | none => none
def sv_bT {β : Type} (x : Option (Option Nat × sv_S)) (k0 : sv_S → Option β) (k1 : Nat → sv_S → Option β) : Option β := match x with
  | some (none, σ) => k0 σ
  | some (some t, σ) => k1 t σ
  | none => none
noncomputable def sv_g {β : Type} (c : Prop) (x : Option β) : Option β := sv_if c x none
/-- an index within -/
abbrev sv_in (i : Int32) (n : Nat) : Prop := 0 ≤ i.toInt ∧ i.toInt < n
def sv_tk : Nat → List sv_V → List sv_V → Option (List sv_V × List sv_V)
  | 0, acc, st => some (acc, st)
  | n + 1, acc, v :: st => sv_tk n (v :: acc) st
  | _ + 1, _, [] => none
def sv_sm (st : List sv_V) : Bool := match st with
  | [] => true
  | [_] => true
  | [_, _] => true
  | [_, _, _] => true
  | [_, _, _, _] => true
  | _ => false
/-- a switch -/
noncomputable def sv_sw {β : Type} (x : Int) (d : Nat) (go : Nat → Option β) : List (Int × Nat) → Option β
  | [] => go d
  | q :: l => sv_if (x = q.1) (go q.2) (sv_sw x d go l)
/-- a branch -/
noncomputable def sv_br {β : Type} (c : ClassFile.Cond) (x y : Int32) (t f : Option β) : Option β := match c with
  | .eq => sv_if (x = y) t f
  | .ne => sv_if (x = y) f t
  | .lt => sv_if (x < y) t f
  | .ge => sv_if (y ≤ x) t f
  | .gt => sv_if (y < x) t f
  | .le => sv_if (x ≤ y) t f
/-- a call -/
noncomputable def sv_cl {β : Type} (E : sv_E) (pc nx : Nat) (lo : sv_Lo) (st : List sv_V) (σ : sv_S) (go : Nat → sv_Lo → List sv_V → sv_S → Option β) : Option β :=
  match E.2.2.2.2 pc with
  | none => none
  | some (n, f) => match sv_tk n [] st with
    | none => none
    | some (as, rest) => bif sv_sm rest then (match f with
      | .inl F => sv_b (F as σ) (fun v σ => go nx lo (.inl v :: rest) σ)
      | .inr (.inl F) => sv_b0 (F as σ) (fun σ => go nx lo rest σ)
      | .inr (.inr (.inl F)) => sv_b (F.2 as σ) (fun i σ => go nx lo (sv_R F.1 i :: rest) σ)
      | .inr (.inr (.inr F)) => sv_bT (F as σ) (fun σ => go nx lo (sv_N :: rest) σ) (fun t σ => go nx lo (sv_R 18 t :: rest) σ)) else none
/-- one instruction -/
noncomputable def sv_i {β : Type} (E : sv_E) (rt : sv_V → sv_S → Option β) (pc : Nat) (cv : sv_V) (nx tg : Nat) (sw : List (Int × Nat)) (lo : sv_Lo) (st : List sv_V) (σ : sv_S) (go : Nat → sv_Lo → List sv_V → sv_S → Option β) : Instr → Option β
  | .iconst _ => go nx lo (cv :: st) σ
  | .bipush _ => go nx lo (cv :: st) σ
  | .sipush _ => go nx lo (cv :: st) σ
  | .lconst _ => go nx lo (cv :: st) σ
  | .aconst_null => go nx lo (sv_N :: st) σ
  | .ldc i => (match E.2.1 i with
    | some (.inl n) => go nx lo (.inl n :: st) σ
    | some (.inr (.inr (some (r, i)))) => go nx lo (sv_R r i :: st) σ
    | _ => none)
  | .ldc_w i => (match E.2.1 i with
    | some (.inl n) => go nx lo (.inl n :: st) σ
    | _ => none)
  | .ldc2_w i => (match E.2.1 i with
    | some (.inr (.inl n)) => go nx lo (sv_L n :: st) σ
    | _ => none)
  | .iload_n k => (match sv_ga lo k with
    | some (.inl n) => go nx lo (.inl n :: st) σ
    | _ => none)
  | .iload k => (match sv_ga lo k with
    | some (.inl n) => go nx lo (.inl n :: st) σ
    | _ => none)
  | .lload_n k => (match sv_ga lo k with
    | some (.inr (.inl n)) => go nx lo (sv_L n :: st) σ
    | _ => none)
  | .lload k => (match sv_ga lo k with
    | some (.inr (.inl n)) => go nx lo (sv_L n :: st) σ
    | _ => none)
  | .aload_n k => (match sv_ga lo k with
    | some (.inr (.inr (some (r, i)))) => go nx lo (sv_R r i :: st) σ
    | _ => none)
  | .aload k => (match sv_ga lo k with
    | some (.inr (.inr (some (r, i)))) => go nx lo (sv_R r i :: st) σ
    | _ => none)
  | .istore_n k => (match st with
    | .inl n :: st => bif E.2.2.2.1 && Nat.ble (k + 1) lo.length then go nx (sv_se lo k (.inl n)) st σ else none
    | _ => none)
  | .istore k => (match st with
    | .inl n :: st => bif E.2.2.2.1 && Nat.ble (k + 1) lo.length then go nx (sv_se lo k (.inl n)) st σ else none
    | _ => none)
  | .astore_n k => (match st with
    | .inr (.inr (some (r, i))) :: st => bif E.2.2.2.1 && Nat.ble (k + 1) lo.length then go nx (sv_se lo k (sv_R r i)) st σ else none
    | _ => none)
  | .astore k => (match st with
    | .inr (.inr (some (r, i))) :: st => bif E.2.2.2.1 && Nat.ble (k + 1) lo.length then go nx (sv_se lo k (sv_R r i)) st σ else none
    | _ => none)
  | .iinc k _ => (match sv_ga lo k, cv with
    | some (.inl n), .inl d => bif E.2.2.2.1 then go nx (sv_se lo k (.inl (n + d))) st σ else none
    | _, _ => none)
  | .iadd => (match st with
    | .inl y :: .inl x :: st => go nx lo (.inl (x + y) :: st) σ
    | _ => none)
  | .isub => (match st with
    | .inl y :: .inl x :: st => go nx lo (.inl (x - y) :: st) σ
    | _ => none)
  | .imul => (match st with
    | .inl y :: .inl x :: st => go nx lo (.inl (x * y) :: st) σ
    | _ => none)
  | .iand => (match st with
    | .inl y :: .inl x :: st => go nx lo (.inl (x &&& y) :: st) σ
    | _ => none)
  | .ior => (match st with
    | .inl y :: .inl x :: st => go nx lo (.inl (x ||| y) :: st) σ
    | _ => none)
  | .idiv => (match st with
    | .inl y :: .inl x :: st => sv_g (¬ y = 0) (go nx lo (.inl (x / y) :: st) σ)
    | _ => none)
  | .irem => (match st with
    | .inl y :: .inl x :: st => sv_g (¬ y = 0) (go nx lo (.inl (x - x / y * y) :: st) σ)
    | _ => none)
  | .ineg => (match st with
    | .inl x :: st => go nx lo (.inl (-x) :: st) σ
    | _ => none)
  | .ishl => (match st with
    | .inl y :: .inl x :: st => go nx lo (.inl (x <<< (y &&& 31)) :: st) σ
    | _ => none)
  | .ishr => (match st with
    | .inl y :: .inl x :: st => go nx lo (.inl (x >>> (y &&& 31)) :: st) σ
    | _ => none)
  | .iushr => (match st with
    | .inl y :: .inl x :: st => go nx lo (.inl ((x.toUInt32 >>> (y.toUInt32 &&& Int32.toUInt32 31)).toInt32) :: st) σ
    | _ => none)
  | .i2l => (match st with
    | .inl x :: st => go nx lo (sv_L x.toInt64 :: st) σ
    | _ => none)
  | .i2b => (match st with
    | .inl x :: st => go nx lo (.inl x.toInt8.toInt32 :: st) σ
    | _ => none)
  | .i2s => (match st with
    | .inl x :: st => go nx lo (.inl x.toInt16.toInt32 :: st) σ
    | _ => none)
  | .i2c => (match st with
    | .inl x :: st => go nx lo (.inl (x.toUInt32 % 65536).toInt32 :: st) σ
    | _ => none)
  | .ladd => (match st with
    | .inr (.inl y) :: .inr (.inl x) :: st => go nx lo (sv_L (x + y) :: st) σ
    | _ => none)
  | .lcmp => (match st with
    | .inr (.inl y) :: .inr (.inl x) :: st => go nx lo (.inl (lg_cmp x y) :: st) σ
    | _ => none)
  | .dup => (match st with
    | .inl x :: st => go nx lo (.inl x :: .inl x :: st) σ
    | .inr (.inr (some (r, i))) :: st => go nx lo (sv_R r i :: sv_R r i :: st) σ
    | _ => none)
  | .dup2 => (match st with
    | .inl x :: .inr (.inr (some (r, i))) :: st => go nx lo (.inl x :: sv_R r i :: .inl x :: sv_R r i :: st) σ
    | _ => none)
  | .pop => (match st with
    | .inl _ :: st => go nx lo st σ
    | _ => none)
  | .goto _ => go tg lo st σ
  | .ifCond c _ => (match st with
    | .inl x :: st => sv_br c x 0 (go tg lo st σ) (go nx lo st σ)
    | _ => none)
  | .if_icmp c _ => (match st with
    | .inl y :: .inl x :: st => sv_br c x y (go tg lo st σ) (go nx lo st σ)
    | _ => none)
  | .ifnull _ => (match st with
    | .inr (.inr none) :: st => go tg lo st σ
    | .inr (.inr (some _)) :: st => go nx lo st σ
    | _ => none)
  | .ifnonnull _ => (match st with
    | .inr (.inr none) :: st => go nx lo st σ
    | .inr (.inr (some _)) :: st => go tg lo st σ
    | _ => none)
  | .tableswitch _ _ _ _ => (match st with
    | .inl x :: st => sv_sw x.toInt tg (fun t => go t lo st σ) sw
    | _ => none)
  | .lookupswitch _ _ => (match st with
    | .inl x :: st => sv_sw x.toInt tg (fun t => go t lo st σ) sw
    | _ => none)
  | .getfield i => (match E.1 i, st with
    | some (c, k), .inr (.inr (some (r, j))) :: st => (match sv_kd r j with
      | .inl c' => bif Nat.beq c' c then (match sv_fr c j k with
        | some (r', j') => go nx lo (sv_R r' j' :: st) σ
        | none => go nx lo (.inl (σ r j k) :: st) σ) else none
      | .inr _ => none)
    | _, _ => none)
  | .putfield i => (match E.1 i, st with
    | some (c, k), .inl n :: .inr (.inr (some (r, j))) :: st => (match sv_kd r j with
      | .inl c' => bif Nat.beq c' c then (match sv_ft c k with
        | 0 => go nx lo st (sv_up σ r j k n)
        | 1 => sv_g (n = 0 ∨ n = 1) (go nx lo st (sv_up σ r j k n))
        | _ => none) else none
      | .inr _ => none)
    | _, _ => none)
  | .getstatic i => bif E.2.2.1 i then go nx lo (sv_R 21 0 :: st) σ else none
  | .arraylength => (match st with
    | .inr (.inr (some (r, j))) :: st => (match sv_kd r j with
      | .inr t => bif Nat.ble t 6 then go nx lo (.inl (nI (sv_ln r j σ)) :: st) σ else none
      | .inl _ => none)
    | _ => none)
  | .iaload => (match st with
    | .inl x :: .inr (.inr (some (r, j))) :: st => (match sv_kd r j with
      | .inr 0 => sv_g (sv_in x (sv_ln r j σ)) (go nx lo (.inl (σ r j x.toNatClampNeg) :: st) σ)
      | .inr 6 => sv_g (sv_in x 6) (go nx lo (.inl (sv_ab x.toNatClampNeg) :: st) σ)
      | _ => none)
    | _ => none)
  | .iastore => (match st with
    | .inl n :: .inl x :: .inr (.inr (some (r, j))) :: st => (match sv_kd r j with
      | .inr 0 => sv_g (sv_in x (sv_ln r j σ)) (go nx lo st (sv_up σ r j x.toNatClampNeg n))
      | _ => none)
    | _ => none)
  | .baload => (match st with
    | .inl x :: .inr (.inr (some (r, j))) :: st => (match sv_kd r j with
      | .inr 1 => sv_g (sv_in x (sv_ln r j σ)) (go nx lo (.inl (σ r j x.toNatClampNeg) :: st) σ)
      | _ => none)
    | _ => none)
  | .bastore => (match st with
    | .inl n :: .inl x :: .inr (.inr (some (r, j))) :: st => (match sv_kd r j with
      | .inr 1 => sv_g (sv_in x (sv_ln r j σ)) (go nx lo st (sv_up σ r j x.toNatClampNeg n.toInt8.toInt32))
      | _ => none)
    | _ => none)
  | .aaload => (match st with
    | .inl x :: .inr (.inr (some (r, j))) :: st => (match sv_kd r j with
      | .inr 2 => sv_g (sv_in x (sv_ln r j σ)) (go nx lo (sv_R 2 (10 * j + x.toNatClampNeg) :: st) σ)
      | .inr 3 => sv_g (sv_in x (sv_ln r j σ)) (sv_tx (σ r j x.toNatClampNeg) (go nx lo (sv_N :: st) σ) (fun t => sv_g (t < sv_ct σ) (go nx lo (sv_R 18 t :: st) σ)))
      | .inr 4 => sv_g (sv_in x (sv_ln r j σ)) (go nx lo (sv_R 7 x.toNatClampNeg :: st) σ)
      | .inr 5 => sv_g (sv_in x (sv_ln r j σ)) (go nx lo (sv_R 12 (4 * j + x.toNatClampNeg) :: st) σ)
      | _ => none)
    | _ => none)
  | .aastore => (match st with
    | .inr (.inr none) :: .inl x :: .inr (.inr (some (r, j))) :: st => (match sv_kd r j with
      | .inr 3 => sv_g (sv_in x (sv_ln r j σ)) (go nx lo st (sv_up σ r j x.toNatClampNeg 0))
      | _ => none)
    | .inr (.inr (some (18, t))) :: .inl x :: .inr (.inr (some (r, j))) :: st => (match sv_kd r j with
      | .inr 3 => sv_g (sv_in x (sv_ln r j σ)) (go nx lo st (sv_up σ r j x.toNatClampNeg (nI (t + 1))))
      | _ => none)
    | _ => none)
  | .invokevirtual _ => sv_cl E pc nx lo st σ go
  | .invokestatic _ => sv_cl E pc nx lo st σ go
  | .invokespecial _ => sv_cl E pc nx lo st σ go
  | .ireturn => (match st with
    | [.inl n] => rt (.inl n) σ
    | _ => none)
  | .areturn => (match st with
    | [.inr (.inr none)] => rt sv_N σ
    | [.inr (.inr (some (r, i)))] => rt (sv_R r i) σ
    | _ => none)
  | .return_ => (match st with
    | [] => rt (sv_L 0) σ
    | _ => none)
  | _ => none
/-- places at which a run is cut, and what is said to follow there -/
abbrev sv_K (β : Type) : Type := Nat → Option (sv_Lo → List sv_V → sv_S → Option β)
/-- a run of at most n instructions -/
noncomputable def sv_ex {β : Type} (E : sv_E) (rt : sv_V → sv_S → Option β) (K : sv_K β) (cd : sv_C) : Nat → Nat → sv_Lo → List sv_V → sv_S → Option β
  | 0, _, _, _, _ => none
  | n + 1, pc, lo, st, σ => match sv_at pc cd with
    | none => none
    | some (ins, (cv, (nx, (tg, sw)))) => sv_i E rt pc cv nx tg sw lo st σ (fun pc lo st σ => match K pc with
      | some k => k lo st σ
      | none => sv_ex E rt K cd n pc lo st σ) ins
/-- the length of an instruction (0: not asked) -/
def sv_il : Instr → Nat
  | .bipush _ => 2
  | .sipush _ => 3
  | .ldc _ => 2
  | .ldc_w _ => 3
  | .ldc2_w _ => 3
  | .iload _ => 2
  | .lload _ => 2
  | .aload _ => 2
  | .istore _ => 2
  | .astore _ => 2
  | .iinc _ _ => 3
  | .goto _ => 3
  | .ifCond _ _ => 3
  | .if_icmp _ _ => 3
  | .ifnull _ => 3
  | .ifnonnull _ => 3
  | .tableswitch _ _ _ _ => 0
  | .lookupswitch _ _ => 0
  | .getfield _ => 3
  | .putfield _ => 3
  | .getstatic _ => 3
  | .invokevirtual _ => 3
  | .invokestatic _ => 3
  | .invokespecial _ => 3
  | _ => 1
def sv_tk1 (pc : Nat) (l : Int) : List Int → List (Int × Nat) → Bool
  | [], [] => true
  | o :: os, q :: qs => decide (q.1 = l) && decide ((pc : Int) + o = (q.2 : Int)) && sv_tk1 pc (l + 1) os qs
  | _, _ => false
def sv_tk2 (pc : Nat) : List (Int × Int) → List (Int × Nat) → Bool
  | [], [] => true
  | o :: os, q :: qs => decide (q.1 = o.1) && decide ((pc : Int) + o.2 = (q.2 : Int)) && sv_tk2 pc os qs
  | _, _ => false
/-- what the code's row must say of a switch, of a constant, of a branch -/
def sv_sk (pc : Nat) (cv : sv_V) (tg : Nat) (sw : List (Int × Nat)) : Instr → Bool
  | .tableswitch d l h offs => decide ((offs.toList.length : Int) = h + 1 - l) && decide ((pc : Int) + d = (tg : Int)) && sv_tk1 pc l offs.toList sw
  | .lookupswitch d ps => (ps.toList.zip (ps.toList.drop 1)).all (fun (a, next) => a.1 < next.1) && decide ((pc : Int) + d = (tg : Int)) && sv_tk2 pc ps.toList sw
  | .iconst n => decide (cv = .inl (Int32.ofInt n))
  | .bipush n => decide (cv = .inl (Int8.ofInt n).toInt32)
  | .sipush n => decide (cv = .inl (Int16.ofInt n).toInt32)
  | .iinc _ n => decide (cv = .inl (Int32.ofInt n))
  | .lconst n => decide (cv = .inr (.inl (Int64.ofNat (n : Nat))))
  | .goto o => decide ((pc : Int) + o = (tg : Int))
  | .ifCond _ o => decide ((pc : Int) + o = (tg : Int))
  | .if_icmp _ o => decide ((pc : Int) + o = (tg : Int))
  | .ifnull o => decide ((pc : Int) + o = (tg : Int))
  | .ifnonnull o => decide ((pc : Int) + o = (tg : Int))
  | _ => true
def sv_dk (cc : ByteArray) (q : Nat × sv_W) : Bool := match decode cc q.1 with
  | .ok (ins, len) => decide (ins = q.2.1) && ((Nat.beq (sv_il ins) 0 || Nat.beq (sv_il ins) len) && (Nat.beq q.2.2.2.1 (q.1 + sv_il ins) && sv_sk q.1 q.2.2.1 q.2.2.2.2.1 q.2.2.2.2.2 ins))
  | _ => false
end
section
/-! ===== the interpreter is right: words, worlds, locals ===== -/
def gw_tbl : List Cond := lw_tbl.filter goodWord
theorem gw_mem {w : Cond} (h : w ∈ lw_tbl) (g : goodWord w = true) : w ∈ gw_tbl := List.mem_filter.mpr ⟨h, g⟩
theorem gw_at {w : Cond} (i : Nat) (h : lw_tbl[i]? = some w) (g : goodWord w = true) : w ∈ gw_tbl := gw_mem (List.mem_of_getElem? h) g
theorem gw_good (w : Cond) (h : w ∈ gw_tbl) : (w.onTables && w.keeps) = true ∨ ∃ ty, w = .arrayClass ty := good_of_word (List.mem_filter.mp h).2
/-- how far a run goes at most -/
def sv_fu : Nat := 4000
noncomputable def sv_rI (v : sv_V) (σ : sv_S) : Option (Int32 × sv_S) := match v with
  | .inl n => some (n, σ)
  | _ => none
noncomputable def sv_rZ (v : sv_V) (σ : sv_S) : Option (Int32 × sv_S) := match v with
  | .inl n => sv_g (n = 0 ∨ n = 1) (some (n, σ))
  | _ => none
noncomputable def sv_rV (v : sv_V) (σ : sv_S) : Option sv_S := match v with
  | .inr (.inl _) => some σ
  | _ => none
noncomputable def sv_rR (q : Nat) (v : sv_V) (σ : sv_S) : Option (Nat × sv_S) := match v with
  | .inr (.inr (some (r, i))) => bif Nat.beq r q then some (i, σ) else none
  | _ => none
noncomputable def sv_rT (v : sv_V) (σ : sv_S) : Option (Option Nat × sv_S) := match v with
  | .inr (.inr none) => some (none, σ)
  | .inr (.inr (some (r, i))) => bif Nat.beq r 18 then some (some i, σ) else none
  | _ => none
theorem sv_if_t {α : Type} {c : Prop} {a b : α} (h : c) : sv_if c a b = a := by unfold sv_if; exact if_pos h
theorem sv_if_f {α : Type} {c : Prop} {a b : α} (h : ¬ c) : sv_if c a b = b := by unfold sv_if; exact if_neg h
theorem sv_if_some {α : Type} {c : Prop} {a b : Option α} {x : α} (h : sv_if c a b = some x) : (c ∧ a = some x) ∨ (¬ c ∧ b = some x) := by
  by_cases hc : c
  · rw [sv_if_t hc] at h; exact Or.inl ⟨hc, h⟩
  · rw [sv_if_f hc] at h; exact Or.inr ⟨hc, h⟩
theorem sv_g_some {α : Type} {c : Prop} {a : Option α} {x : α} (h : sv_g c a = some x) : c ∧ a = some x := by
  unfold sv_g at h
  rcases sv_if_some h with h | h
  · exact h
  · exact absurd h.2 (by simp)
theorem sv_g_t {α : Type} {c : Prop} {a : Option α} (h : c) : sv_g c a = a := sv_if_t h
/-! a store's places -/
theorem sv_up_self (σ : sv_S) (r i k : Nat) (n : Int32) : sv_up σ r i k n r i k = n := by simp [sv_up]
theorem sv_up_k {σ : sv_S} {r i k j : Nat} {n : Int32} (h : j ≠ k) : sv_up σ r i k n r i j = σ r i j := by simp [sv_up, h]
theorem sv_up_o {σ : sv_S} {r i k r' i' : Nat} {n : Int32} (h : ¬ (r' = r ∧ i' = i)) : sv_up σ r i k n r' i' = σ r' i' := by
  funext j
  simp only [sv_up]
  rw [if_neg]
  rintro ⟨h1, h2, -⟩
  exact h ⟨h1, h2⟩
theorem sv_ct_up {σ : sv_S} {r i k : Nat} {n : Int32} (h : r ≠ 22) : sv_ct (sv_up σ r i k n) = sv_ct σ := by
  unfold sv_ct
  rw [sv_up_o (fun q => h q.1.symm)]
theorem sv_ln_up {σ : sv_S} {r i k r' i' : Nat} {n : Int32} (h : r ≠ 18) : sv_ln r' i' (sv_up σ r i k n) = sv_ln r' i' σ := by
  have e : ∀ j, sv_up σ r i k n 18 j = σ 18 j := fun j => sv_up_o (fun q => h q.1.symm)
  unfold sv_ln
  split <;> first | rfl | rw [e]
/-- a value that isn't a long -/
def sv_1 (v : sv_V) : Prop := match v with
  | .inr (.inl _) => False
  | _ => True
theorem sv_1_cat {ad : Nat → Nat → Nat} {v : sv_V} (h : sv_1 v) : (sv_c ad v).category = 1 := by
  rcases v with n | n | _ | ⟨r, i⟩
  · rfl
  · exact absurd h (fun q => q)
  · rfl
  · rfl
/-! locals -/
theorem sv_ga_se : ∀ (lo : sv_Lo) (i j : Nat) (v : sv_V), i < lo.length → sv_ga (sv_se lo i v) j = if j = i then some v else sv_ga lo j
  | [], i, j, v, h => absurd h (Nat.not_lt_zero _)
  | a :: lo, 0, 0, v, _ => rfl
  | a :: lo, 0, j + 1, v, _ => rfl
  | a :: lo, i + 1, 0, v, _ => rfl
  | a :: lo, i + 1, j + 1, v, h => by
    show sv_ga (sv_se lo i v) j = _
    rw [sv_ga_se lo i j v (Nat.lt_of_succ_lt_succ h)]
    by_cases hj : j = i
    · rw [if_pos hj, if_pos (by rw [hj])]
    · rw [if_neg hj, if_neg (fun q => hj (Nat.succ.inj q))]; rfl
theorem sv_se_len : ∀ (lo : sv_Lo) (i : Nat) (v : sv_V), (sv_se lo i v).length = lo.length
  | [], _, _ => rfl
  | _ :: _, 0, _ => rfl
  | _ :: lo, i + 1, v => by
    show (sv_se lo i v).length + 1 = lo.length + 1
    rw [sv_se_len lo i v]
theorem sv_ga_lt : ∀ (lo : sv_Lo) (i : Nat) (v : sv_V), sv_ga lo i = some v → i < lo.length
  | [], i, v, h => by cases i <;> cases h
  | _ :: _, 0, _, _ => Nat.zero_lt_succ _
  | _ :: lo, i + 1, v, h => Nat.succ_lt_succ (sv_ga_lt lo i v h)
def sv_ll (ad : Nat → Nat → Nat) : Nat → sv_Lo → List (Nat × Value)
  | _, [] => []
  | k, some v :: l => (k, sv_c ad v) :: sv_ll ad (k + 1) l
  | k, none :: l => sv_ll ad (k + 1) l
theorem sv_ll_in {ad : Nat → Nat → Nat} : ∀ (lo : sv_Lo) (k i : Nat) (v : sv_V), sv_ga lo i = some v → (k + i, sv_c ad v) ∈ sv_ll ad k lo
  | [], k, i, v, h => by cases i <;> cases h
  | a :: lo, k, 0, v, h => by
    have h : a = some v := h
    subst h
    exact List.mem_cons_self
  | a :: lo, k, i + 1, v, h => by
    have ih := sv_ll_in (ad := ad) lo (k + 1) i v h
    rw [Nat.add_assoc, Nat.add_comm 1 i] at ih
    cases a with
    | none => exact ih
    | some w => exact List.mem_cons_of_mem _ ih
theorem sv_ll_of {ad : Nat → Nat → Nat} : ∀ (lo : sv_Lo) (k : Nat) (q : Nat × Value), q ∈ sv_ll ad k lo → ∃ i v, q = (k + i, sv_c ad v) ∧ sv_ga lo i = some v
  | [], k, q, h => by cases h
  | none :: lo, k, q, h => by
    obtain ⟨i, v, h1, h2⟩ := sv_ll_of lo (k + 1) q h
    exact ⟨i + 1, v, by rw [h1, Nat.add_assoc, Nat.add_comm 1 i], h2⟩
  | some w :: lo, k, q, h => by
    rcases List.mem_cons.mp h with h | h
    · exact ⟨0, w, h, rfl⟩
    · obtain ⟨i, v, h1, h2⟩ := sv_ll_of lo (k + 1) q h
      exact ⟨i + 1, v, by rw [h1, Nat.add_assoc, Nat.add_comm 1 i], h2⟩
/-- the machine's locals hold what the list says -/
def sv_lh (ad : Nat → Nat → Nat) (ls : Array Slot) (nL : Nat) (lo : sv_Lo) : Prop := lo.length = nL ∧ lv_has ls nL (sv_ll ad 0 lo)
theorem sv_lh.at {ad : Nat → Nat → Nat} {ls : Array Slot} {nL : Nat} {lo : sv_Lo} (h : sv_lh ad ls nL lo) {i : Nat} {v : sv_V} (hi : sv_ga lo i = some v) : ls[i]? = some (.val (sv_c ad v)) := by
  have h1 := h.2.2.2 _ (sv_ll_in (ad := ad) lo 0 i v hi)
  simpa using h1
theorem sv_lh.put {ad : Nat → Nat → Nat} {ls' : Array Slot} {nL i : Nat} {lo : sv_Lo} {v : sv_V} (hl : lo.length = nL) (hi : i < nL) (h1 : ∀ j w, sv_ga lo j = some w → sv_1 w)
    (h : lv_has ls' nL ((i, sv_c ad v) :: (sv_ll ad 0 lo).filter (fun q => !(q.1 == i) && !(q.1 + 1 == i && q.2.category == 2)))) : sv_lh ad ls' nL (sv_se lo i v) := by
  refine ⟨by rw [sv_se_len]; exact hl, h.1, h.2.1, fun q hq => ?_⟩
  obtain ⟨j, w, rfl, hj⟩ := sv_ll_of _ 0 q hq
  rw [sv_ga_se lo i j v (by rw [hl]; exact hi)] at hj
  by_cases hji : j = i
  · rw [if_pos hji] at hj
    have hw : v = w := Option.some.inj hj
    subst hw
    subst hji
    have := h.2.2 (j, sv_c ad v) List.mem_cons_self
    simpa using this
  · rw [if_neg hji] at hj
    have hm : (0 + j, sv_c ad w) ∈ (sv_ll ad 0 lo).filter (fun q => !(q.1 == i) && !(q.1 + 1 == i && q.2.category == 2)) := by
      refine List.mem_filter.mpr ⟨sv_ll_in lo 0 j w hj, ?_⟩
      have hc := sv_1_cat (ad := ad) (h1 j w hj)
      simp [hji, hc]
    exact h.2.2 _ (List.mem_cons_of_mem _ hm)
/-! cells -/
def sv_my (r : Nat) : Prop := r ≠ 21 ∧ r ≠ 23
def sv_cell (ad : Nat → Nat → Nat) (dC : Nat → ClassId) (dI : Nat → Nat → Nat) (cA : Nat → ClassId) (σ : sv_S) (r i : Nat) (H : Heap) : Prop := match sv_kd r i with
  | .inl k => t_OB (ad r i) (dC k) (sv_nf k) (dI k) H (fun j => sv_c ad (sv_df k i j (σ r i j)))
  | .inr t => H[ad r i]? = some (arrV (cA t) (sv_ln r i σ) (fun j => sv_c ad (sv_de t i j (σ r i j))))
def sv_rep (base : Nat) (ad : Nat → Nat → Nat) (dC : Nat → ClassId) (dI : Nat → Nat → Nat) (cA : Nat → ClassId) (σ : sv_S) (H : Heap) : Prop :=
  (∀ r i, sv_lv (sv_ct σ) r i → sv_my r → base ≤ ad r i ∧ sv_cell ad dC dI cA σ r i H) ∧
  ∀ r i r' i', sv_lv (sv_ct σ) r i → sv_lv (sv_ct σ) r' i' → sv_my r → sv_my r' → ad r i = ad r' i' → r = r' ∧ i = i'
theorem sv_cell.ob {ad : Nat → Nat → Nat} {dC : Nat → ClassId} {dI : Nat → Nat → Nat} {cA : Nat → ClassId} {σ : sv_S} {r i k : Nat} {H : Heap} (h : sv_cell ad dC dI cA σ r i H) (hk : sv_kd r i = .inl k) : t_OB (ad r i) (dC k) (sv_nf k) (dI k) H (fun j => sv_c ad (sv_df k i j (σ r i j))) := by
  unfold sv_cell at h
  rw [hk] at h
  exact h
theorem sv_cell.ar {ad : Nat → Nat → Nat} {dC : Nat → ClassId} {dI : Nat → Nat → Nat} {cA : Nat → ClassId} {σ : sv_S} {r i t : Nat} {H : Heap} (h : sv_cell ad dC dI cA σ r i H) (hk : sv_kd r i = .inr t) : H[ad r i]? = some (arrV (cA t) (sv_ln r i σ) (fun j => sv_c ad (sv_de t i j (σ r i j)))) := by
  unfold sv_cell at h
  rw [hk] at h
  exact h
theorem sv_cell.kept {ad : Nat → Nat → Nat} {dC : Nat → ClassId} {dI : Nat → Nat → Nat} {cA : Nat → ClassId} {σ σ' : sv_S} {r i : Nat} {H H1 : Heap} (h : sv_cell ad dC dI cA σ r i H) (hs : σ' r i = σ r i) (hn : sv_ln r i σ' = sv_ln r i σ) (hq : H1[ad r i]? = H[ad r i]?) : sv_cell ad dC dI cA σ' r i H1 := by
  unfold sv_cell at h ⊢
  rw [hs, hn]
  split
  · rename_i k hk
    rw [hk] at h
    exact t_OB.kept h hq
  · rename_i t ht
    rw [ht] at h
    exact hq.trans h
/-- a write to one place -/
theorem sv_rep.up {base : Nat} {ad : Nat → Nat → Nat} {dC : Nat → ClassId} {dI : Nat → Nat → Nat} {cA : Nat → ClassId} {σ : sv_S} {H H1 : Heap} {r i k : Nat} {n : Int32} (h : sv_rep base ad dC dI cA σ H) (hl : sv_lv (sv_ct σ) r i) (hm : sv_my r) (h18 : r ≠ 18) (h22 : r ≠ 22)
    (hc : sv_cell ad dC dI cA (sv_up σ r i k n) r i H1) (hq : ∀ q : Nat, q ≠ ad r i → H1[q]? = H[q]?) : sv_rep base ad dC dI cA (sv_up σ r i k n) H1 := by
  unfold sv_rep
  rw [sv_ct_up h22]
  refine ⟨fun r' i' hl' hm' => ?_, h.2⟩
  by_cases he : r' = r ∧ i' = i
  · obtain ⟨rfl, rfl⟩ := he
    exact ⟨(h.1 r' i' hl' hm').1, hc⟩
  · refine ⟨(h.1 r' i' hl' hm').1, (h.1 r' i' hl' hm').2.kept (sv_up_o he) (sv_ln_up h18) (hq _ (fun q => he (h.2 _ _ _ _ hl' hl hm' hm q)))⟩
end
section
/-! ===== the interpreter is right: what is known of the tables, one instruction, a run ===== -/
def sv_tys (cA : Nat → ClassId) : List (ClassId × FieldType) := [(cA 0, .int), (cA 1, .byte), (cA 2, .object "OneStroke$Drummer"), (cA 3, .object "OneStroke$Text"), (cA 4, .object "OneStroke$Kind"), (cA 5, .object "OneStroke$Sheet")]
def sv_tx6 : List String := ["hear", "start", "fine", "lrn", "snb", "mb"]
def sv_tl : List Nat := [4, 5, 4, 3, 3, 2]
def sv_tb : List (List Int32) := [[104, 101, 97, 114], [115, 116, 97, 114, 116], [102, 105, 110, 101], [108, 114, 110], [115, 110, 98], [109, 98]]
def sv_nest : Cond := .methodLinkNest "OneStroke$Line" 102 ⟨"OneStroke", "withinStarts", "(I)I"⟩ "OneStroke"
/-- what is known of a state, and stays: classes, the static row, text constants -/
def sv_kn (base : Nat) (ad : Nat → Nat → Nat) (dC : Nat → ClassId) (dI : Nat → Nat → Nat) (cA : Nat → ClassId) (U : State) : Prop :=
  va_K (dC, dI) vwCl (sv_tys cA) U ∧ va_Z "OneStroke" "ABOVE" "[I" (.ref (ad 21 0)) (fun q => base ≤ q) U U.heap ∧ va_T .int (ad 21 0) 6 (fun j => .int (sv_ab j)) (fun q => base ≤ q) U U.heap ∧ va_Nw sv_nest U ∧
  (∀ i, i < 6 → vk_R "OneStroke$Text" (25 + 2 * i) (sv_tx6.getD i "") (ad 23 i) U) ∧ (∃ adV : Nat → Nat, vk_S 6 sv_tl sv_tb (ad 23) adV (fun q => base ≤ q) U U.heap) ∧ va_Z "java/lang/String" "COMPACT_STRINGS" "Z" (.int 1) (fun q => base ≤ q) U U.heap
theorem sv_kn.go {base : Nat} {ad : Nat → Nat → Nat} {dC : Nat → ClassId} {dI : Nat → Nat → Nat} {cA : Nat → ClassId} {s U : State} (h : sv_kn base ad dC dI cA s) (hW : s.WarmedH U.vm) (hq : ∀ a : Nat, a < s.heap.size → ¬ base ≤ a → U.heap[a]? = s.heap[a]?) : sv_kn base ad dC dI cA U := by
  obtain ⟨h1, h2, h3, h4, h5, ⟨adV, h6⟩, h7⟩ := h
  exact ⟨va_K.moved hW.alike h1, (va_Z.moved hW.alike h2).kept hq, (va_T.moved hW.alike h3).kept hq, va_Nw.warmM hW h4, fun i hi => vk_R.warm hW (h5 i hi), ⟨adV, (vk_S.moved hW.alike h6).kept hq⟩, (va_Z.moved hW.alike h7).kept hq⟩
theorem sv_kn.same {base : Nat} {ad : Nat → Nat → Nat} {dC : Nat → ClassId} {dI : Nat → Nat → Nat} {cA : Nat → ClassId} {s U : State} (h : sv_kn base ad dC dI cA s) (hv : U.vm = s.vm) (hh : U.heap = s.heap) : sv_kn base ad dC dI cA U := by
  obtain ⟨h1, h2, h3, h4, h5, ⟨adV, h6⟩, h7⟩ := h
  have ha : s.vm.Alike U.vm := by rw [hv]; exact Vm.Alike.refl _
  rw [← hh] at h2 h3 h6 h7
  exact ⟨va_K.moved ha h1, va_Z.moved ha h2, va_T.moved ha h3, va_Nw.same rfl hv.symm h4, fun i hi => vk_R.same hv (h5 i hi), ⟨adV, vk_S.moved ha h6⟩, va_Z.moved ha h7⟩
/-- what the tables say of a class of ours -/
def sv_ck (ci : Nat) (q : vw_C) : Prop := q.2.2 = sv_nf ci ∧ (∀ w ∈ u_ws q.1 q.2.1 q.2.2, w ∈ gw_tbl) ∧ (∃ ty : Nat → FieldType, ∀ k, k < q.2.2 → parseFieldDescriptor (q.2.1 k).2.2.1 = some (ty k)) ∧ (∀ a, a < q.2.2 → ∀ b, b < q.2.2 → a ≠ b → (q.2.1 a).2.1 ≠ (q.2.1 b).2.1) ∧
  (∀ k, k < q.2.2 → sv_ft ci k = 0 → (q.2.1 k).2.2.2 = false ∧ parseFieldDescriptor (q.2.1 k).2.2.1 = some .int) ∧ (∀ k, k < q.2.2 → sv_ft ci k = 1 → (q.2.1 k).2.2.2 = false ∧ parseFieldDescriptor (q.2.1 k).2.2.1 = some .boolean)
/-- a field's link -/
def sv_fk (own : String) (idx ci k : Nat) : Prop := ∃ q : vw_C, vwCl[ci]? = some q ∧ k < q.2.2 ∧ Cond.fieldLink own idx (q.2.1 k).1 (q.2.1 k).2.1 (q.2.1 k).2.2.1 ∈ gw_tbl
def sv_1k (own : String) (idx : Nat) (v : sv_V) : Prop := match v with
  | .inl n => Cond.constant own idx n ∈ gw_tbl
  | .inr (.inl n) => Cond.constantLong own idx n ∈ gw_tbl
  | .inr (.inr (some (r, i))) => r = 23 ∧ i < 6 ∧ own = "OneStroke$Text" ∧ idx = 25 + 2 * i
  | _ => False
theorem sv_my_obj {r i k : Nat} (h : sv_kd r i = .inl k) : sv_my r := by
  refine ⟨?_, ?_⟩ <;> (rintro rfl; simp [sv_kd] at h)
theorem sv_my_arr {r i t : Nat} (h : sv_kd r i = .inr t) (ht : t < 6) : sv_my r := by
  refine ⟨?_, ?_⟩ <;> (rintro rfl; simp [sv_kd] at h; omega)
theorem sv_no18 {r i t : Nat} (h : sv_kd r i = .inr t) (ht : t < 6) : r ≠ 18 ∧ r ≠ 22 := by
  refine ⟨?_, ?_⟩ <;> (rintro rfl; simp [sv_kd] at h; try omega)
section SV
variable {p : Program} {l : Launch} {e : Env} {R : Room} {s : State} {m : MethodId} {args : Array Value} {below : List Frame} {meth : Method} {c : Code} {H : Heap} {locs : List Loc} {cells slots : Nat} {Q : State → Prop}
variable {cc : ByteArray} {pc : Nat} {ls : Array Slot} {rest : List Value} {base : Nat} {ad : Nat → Nat → Nat} {dC : Nat → ClassId} {dI : Nat → Nat → Nat} {cA : Nat → ClassId} {σ : sv_S} {own : String} {r i : Nat}
theorem sv_get (hx : p.tables.exec = Jvm.exec) (hb : c.code = cc) (hts : ∀ w ∈ gw_tbl, w.before args s = true) (hown : s.vm.findClass own = some m.cls) (hK : va_K (dC, dI) vwCl (sv_tys cA) s) (hR : sv_rep base ad dC dI cA σ H) (hl : sv_lv (sv_ct σ) r i) {ci k idx : Nat} (hk : sv_kd r i = .inl ci) (hck : ∀ q, vwCl[ci]? = some q → sv_ck ci q) (hf : sv_fk own idx ci k) (hdg : decode cc pc = .ok (.getfield idx, 3))
    (kk : W p l e R s m args below meth c H locs cells slots Q (F0 m (pc + 3) ls (sv_c ad (sv_df ci i k (σ r i k)) :: rest))) : W p l e R s m args below meth c H locs cells slots Q (F0 m pc ls (.ref (ad r i) :: rest)) := by
  obtain ⟨cell, q1, q2, q3, q4⟩ := (hR.1 r i hl (sv_my_obj hk)).2.ob hk
  obtain ⟨q, hq, hkN, hlink⟩ := hf
  obtain ⟨hN, hin, -⟩ := hck q hq
  obtain ⟨hS, hfc, kC, hkC, hkind⟩ := hK.1 ci _ hq
  obtain ⟨cf, kf, fi, f, hi, hsl⟩ := hS k hkN
  refine W.getf hx hb hown (hts _ hlink) hi (u_facts hfc hkC (u_lays hts hin hkN) hi).1 q1 (by rw [q3]; exact fun h => by cases h) (v := sv_c ad (sv_df ci i k (σ r i k))) ?_ rfl rfl hdg kk
  rw [hsl, q4 k (by rw [← hN]; exact hkN)]
theorem sv_put (hx : p.tables.exec = Jvm.exec) (hb : c.code = cc) (hts : ∀ w ∈ gw_tbl, w.before args s = true) (hown : s.vm.findClass own = some m.cls) (hK : va_K (dC, dI) vwCl (sv_tys cA) s) (hR : sv_rep base ad dC dI cA σ H) (hS0 : va_S (fun q => base ≤ q) s.heap H locs) (hl : sv_lv (sv_ct σ) r i) {ci k idx : Nat} {n : Int32} (hk : sv_kd r i = .inl ci) (hck : ∀ q, vwCl[ci]? = some q → sv_ck ci q) (hf : sv_fk own idx ci k)
    (hfr : sv_fr ci i k = none) (h18 : r ≠ 18) (h22 : r ≠ 22) (hft : sv_ft ci k = 0 ∨ sv_ft ci k = 1 ∧ (n = 0 ∨ n = 1)) (hdg : decode cc pc = .ok (.putfield idx, 3))
    (kk : ∀ (H1 : Heap) (locs1 : List Loc), sv_rep base ad dC dI cA (sv_up σ r i k n) H1 → va_S (fun q => base ≤ q) s.heap H1 locs1 → W p l e R s m args below meth c H1 locs1 cells slots Q (F0 m (pc + 3) ls rest)) : W p l e R s m args below meth c H locs cells slots Q (F0 m pc ls (.int n :: .ref (ad r i) :: rest)) := by
  obtain ⟨hA, hcell⟩ := hR.1 r i hl (sv_my_obj hk)
  obtain ⟨cell, q1, q2, q3, q4⟩ := hcell.ob hk
  obtain ⟨q, hq, hkN, hlink⟩ := hf
  obtain ⟨hN, hin, ⟨ty0, hty⟩, hnm, hf0, hf1⟩ := hck q hq
  obtain ⟨C, T, N⟩ := q
  have hap := va_apart (own := own) hts hin ty0 hty hnm hK hq
  obtain ⟨hS, hfc, kC, hkC, hkind⟩ := hK.1 ci _ hq
  obtain ⟨cf, kf, fi, f, hi, hsl⟩ := hS k hkN
  have hlay := hts _ (hin _ (u_in_lay hkN))
  have h3 : ∃ ty, (T k).2.2.2 = false ∧ parseFieldDescriptor (T k).2.2.1 = some ty ∧ narrow ty (.int n) = .int n ∧ fits ty (.int n) = true := by
    rcases hft with h | ⟨h, hn⟩
    · exact ⟨.int, (hf0 k hkN h).1, (hf0 k hkN h).2, rfl, rfl⟩
    · refine ⟨.boolean, (hf1 k hkN h).1, (hf1 k hkN h).2, ?_⟩
      rcases hn with rfl | rfl <;> exact ⟨by decide, by decide⟩
  obtain ⟨ty, hfin, hd, hn1, hn2⟩ := h3
  unfold u_lay at hlay
  rw [if_neg (by rw [hfin]; decide)] at hlay
  have hst := (u_facts hfc hkC (u_lays hts hin hkN) hi).1
  have h6 := u_store hfc hkC hkind hlay hi hd hn1 hn2
  have hkn : k < sv_nf ci := by rw [← hN]; exact hkN
  refine W.putK hx hb (f := f) ⟨hown, hts _ hlink, ⟨_, _, _, hi⟩, hst⟩ (by rw [q2]; exact h6) q1 q3 (by rw [hsl]; exact k2_hasslot (q4 k hkn)) rfl rfl hdg fun H' e1 e2 e3 => ?_
  rw [hsl] at e1 ⊢
  have hN : N = sv_nf ci := hN
  subst hN
  refine kk H' _ (hR.up hl (sv_my_obj hk) h18 h22 ?_ e3) (hS0.put e2 e3 hA)
  unfold sv_cell
  rw [hk]
  refine t_OB.to (V := updV (fun j => sv_c ad (sv_df ci i j (σ r i j))) k (.int n)) ⟨_, e1, q2, q3, t_set q4 hap hkN (.int n)⟩ (fun j hj => ?_)
  by_cases hjk : j = k
  · subst hjk
    simp only [updV, if_true, sv_up_self]
    show Value.int n = sv_c ad (sv_df ci i j n)
    unfold sv_df
    rw [hfr]
    rfl
  · simp only [updV, if_neg hjk]
    rw [sv_up_k hjk]
theorem sv_inv {x : Int32} {n : Nat} (h : sv_in x n) : ¬ (x < 0 ∨ n ≤ x.toNatClampNeg) := vp_in_iff.mpr h
theorem sv_int {x : Int32} {n : Nat} (h : sv_in x n) : x.toNatClampNeg < n := Nat.not_le.mp fun q => sv_inv h (Or.inr q)
theorem sv_iald (hx : p.tables.exec = Jvm.exec) (hb : c.code = cc) (hK : va_K (dC, dI) vwCl (sv_tys cA) s) (hR : sv_rep base ad dC dI cA σ H) (hl : sv_lv (sv_ct σ) r i) (hk : sv_kd r i = .inr 0) {x : Int32} (hin : sv_in x (sv_ln r i σ)) (hdg : decode cc pc = .ok (.iaload, 1))
    (kk : W p l e R s m args below meth c H locs cells slots Q (F0 m (pc + 1) ls (.int (σ r i x.toNatClampNeg) :: rest))) : W p l e R s m args below meth c H locs cells slots Q (F0 m pc ls (.int x :: .ref (ad r i) :: rest)) :=
  W.iald (v := .int (σ r i x.toNatClampNeg)) hx hb ((hR.1 r i hl (sv_my_arr hk (by decide))).2.ar hk) ((hK.2 0 _ rfl).1 _ _) (fun q => by cases q) (by rw [arrV_size]; exact sv_inv hin) (by rw [arrV_read _ _ (sv_int hin)]; rfl) rfl rfl hdg kk
theorem sv_bald (hx : p.tables.exec = Jvm.exec) (hb : c.code = cc) (hK : va_K (dC, dI) vwCl (sv_tys cA) s) (hR : sv_rep base ad dC dI cA σ H) (hl : sv_lv (sv_ct σ) r i) (hk : sv_kd r i = .inr 1) {x : Int32} (hin : sv_in x (sv_ln r i σ)) (hdg : decode cc pc = .ok (.baload, 1))
    (kk : W p l e R s m args below meth c H locs cells slots Q (F0 m (pc + 1) ls (.int (σ r i x.toNatClampNeg) :: rest))) : W p l e R s m args below meth c H locs cells slots Q (F0 m pc ls (.int x :: .ref (ad r i) :: rest)) :=
  W.bald (v := .int (σ r i x.toNatClampNeg)) hx hb ((hR.1 r i hl (sv_my_arr hk (by decide))).2.ar hk) ((hK.2 1 _ rfl).1 _ _) (fun q => by cases q) (by rw [arrV_size]; exact sv_inv hin) (by rw [arrV_read _ _ (sv_int hin)]; rfl) rfl rfl hdg kk
theorem sv_aald (hx : p.tables.exec = Jvm.exec) (hb : c.code = cc) (hK : va_K (dC, dI) vwCl (sv_tys cA) s) (hR : sv_rep base ad dC dI cA σ H) (hl : sv_lv (sv_ct σ) r i) {t : Nat} {C : String} (hk : sv_kd r i = .inr t) (ht : t < 6) (hty : (sv_tys cA)[t]? = some (cA t, .object C)) {x : Int32} (hin : sv_in x (sv_ln r i σ)) (hdg : decode cc pc = .ok (.aaload, 1))
    (kk : W p l e R s m args below meth c H locs cells slots Q (F0 m (pc + 1) ls (sv_c ad (sv_de t i x.toNatClampNeg (σ r i x.toNatClampNeg)) :: rest))) : W p l e R s m args below meth c H locs cells slots Q (F0 m pc ls (.int x :: .ref (ad r i) :: rest)) :=
  W.aald (v := sv_c ad (sv_de t i x.toNatClampNeg (σ r i x.toNatClampNeg))) (ty := .object C) hx hb ((hR.1 r i hl (sv_my_arr hk ht)).2.ar hk) ((hK.2 t _ hty).1 _ _) rfl (fun q => by cases q) (by rw [arrV_size]; exact sv_inv hin) (by rw [arrV_read _ _ (sv_int hin)]) rfl rfl hdg kk
theorem sv_alen (hx : p.tables.exec = Jvm.exec) (hb : c.code = cc) (hK : va_K (dC, dI) vwCl (sv_tys cA) s) (hR : sv_rep base ad dC dI cA σ H) (hl : sv_lv (sv_ct σ) r i) {t : Nat} {ty : FieldType} (hk : sv_kd r i = .inr t) (ht : t < 6) (hty : (sv_tys cA)[t]? = some (cA t, ty)) (hdg : decode cc pc = .ok (.arraylength, 1))
    (kk : W p l e R s m args below meth c H locs cells slots Q (F0 m (pc + 1) ls (.int (nI (sv_ln r i σ)) :: rest))) : W p l e R s m args below meth c H locs cells slots Q (F0 m pc ls (.ref (ad r i) :: rest)) :=
  W.alen hx hb ((hR.1 r i hl (sv_my_arr hk ht)).2.ar hk) ((hK.2 t _ hty).1 _ _) (by rw [arrV_size]; rfl) rfl rfl hdg kk
theorem sv_iast (hx : p.tables.exec = Jvm.exec) (hb : c.code = cc) (hK : va_K (dC, dI) vwCl (sv_tys cA) s) (hR : sv_rep base ad dC dI cA σ H) (hS0 : va_S (fun q => base ≤ q) s.heap H locs) (hl : sv_lv (sv_ct σ) r i) (hk : sv_kd r i = .inr 0) {x n : Int32} (hin : sv_in x (sv_ln r i σ)) (hdg : decode cc pc = .ok (.iastore, 1))
    (kk : ∀ (H1 : Heap) (locs1 : List Loc), sv_rep base ad dC dI cA (sv_up σ r i x.toNatClampNeg n) H1 → va_S (fun q => base ≤ q) s.heap H1 locs1 → W p l e R s m args below meth c H1 locs1 cells slots Q (F0 m (pc + 1) ls rest)) : W p l e R s m args below meth c H locs cells slots Q (F0 m pc ls (.int n :: .int x :: .ref (ad r i) :: rest)) := by
  obtain ⟨hA, hcell⟩ := hR.1 r i hl (sv_my_arr hk (by decide))
  obtain ⟨h18, h22⟩ := sv_no18 hk (by decide)
  refine W.iast hx hb (hcell.ar hk) ((hK.2 0 _ rfl).1 _ _) (fun q => by cases q) (by rw [arrV_size]; exact sv_inv hin) rfl rfl hdg fun H1 e1 e2 e3 => ?_
  refine kk H1 _ (hR.up hl (sv_my_arr hk (by decide)) h18 h22 ?_ e3) (hS0.put e2 e3 hA)
  unfold sv_cell
  rw [hk]
  show H1[ad r i]? = _
  rw [e1, arrV_store, sv_ln_up h18]
  congr 2
  funext j
  by_cases hj : j = x.toNatClampNeg
  · subst hj
    simp only [updV, if_true, sv_up_self]; rfl
  · simp only [updV, if_neg hj]; rw [sv_up_k hj]
theorem sv_bast (hx : p.tables.exec = Jvm.exec) (hb : c.code = cc) (hK : va_K (dC, dI) vwCl (sv_tys cA) s) (hR : sv_rep base ad dC dI cA σ H) (hS0 : va_S (fun q => base ≤ q) s.heap H locs) (hl : sv_lv (sv_ct σ) r i) (hk : sv_kd r i = .inr 1) {x n : Int32} (hin : sv_in x (sv_ln r i σ)) (hdg : decode cc pc = .ok (.bastore, 1))
    (kk : ∀ (H1 : Heap) (locs1 : List Loc), sv_rep base ad dC dI cA (sv_up σ r i x.toNatClampNeg n.toInt8.toInt32) H1 → va_S (fun q => base ≤ q) s.heap H1 locs1 → W p l e R s m args below meth c H1 locs1 cells slots Q (F0 m (pc + 1) ls rest)) : W p l e R s m args below meth c H locs cells slots Q (F0 m pc ls (.int n :: .int x :: .ref (ad r i) :: rest)) := by
  obtain ⟨hA, hcell⟩ := hR.1 r i hl (sv_my_arr hk (by decide))
  obtain ⟨h18, h22⟩ := sv_no18 hk (by decide)
  refine W.bast hx hb (hcell.ar hk) ((hK.2 1 _ rfl).1 _ _) (fun q => by cases q) (by rw [arrV_size]; exact sv_inv hin) rfl rfl hdg fun H1 e1 e2 e3 => ?_
  refine kk H1 _ (hR.up hl (sv_my_arr hk (by decide)) h18 h22 ?_ e3) (hS0.put e2 e3 hA)
  unfold sv_cell
  rw [hk]
  show H1[ad r i]? = _
  rw [e1, arrV_store, sv_ln_up h18]
  congr 2
  funext j
  by_cases hj : j = x.toNatClampNeg
  · subst hj
    simp only [updV, if_true, sv_up_self]; rfl
  · simp only [updV, if_neg hj]; rw [sv_up_k hj]
end SV
end
section
/-! ===== the interpreter is right: one instruction ===== -/
theorem sv_cl32 (x : Int32) : x.toNatClampNeg < 2 ^ 31 := by
  have h := Int32.toInt_lt x
  have e : x.toNatClampNeg = x.toInt.toNat := rfl
  rw [e]
  omega
theorem sv_tx_nI {α : Type} {t : Nat} (ht : t + 1 < 2 ^ 31) (k0 : α) (k1 : Nat → α) : sv_tx (nI (t + 1)) k0 k1 = k1 t := by
  unfold sv_tx
  rw [sv_if_f (nI_ne0 (Nat.succ_pos t) ht), nI_clamp ht]
  rfl
theorem sv_dk_spec {cc : ByteArray} {pc : Nat} {ins : Instr} {cv : sv_V} {nx tg : Nat} {sw : List (Int × Nat)} (h : sv_dk cc (pc, (ins, (cv, (nx, (tg, sw))))) = true) : ∃ len, decode cc pc = .ok (ins, len) ∧ (sv_il ins = 0 ∨ sv_il ins = len) ∧ nx = pc + sv_il ins ∧ sv_sk pc cv tg sw ins = true := by
  unfold sv_dk at h
  dsimp only at h
  split at h
  · rename_i i0 len hd
    simp only [Bool.and_eq_true, Bool.or_eq_true, decide_eq_true_eq] at h
    obtain ⟨rfl, h1, h2, h3⟩ := h
    refine ⟨len, hd, ?_, Nat.eq_of_beq_eq_true h2, h3⟩
    rcases h1 with h1 | h1
    · exact Or.inl (Nat.eq_of_beq_eq_true h1)
    · exact Or.inr (Nat.eq_of_beq_eq_true h1)
  · cases h
theorem sv_t1 {P : sv_V → Prop} {a : sv_V} {st : List sv_V} (h : ∀ v ∈ a :: st, P v) : ∀ v ∈ st, P v := fun v q => h v (List.mem_cons_of_mem _ q)
theorem sv_cs {P : sv_V → Prop} {a : sv_V} {st : List sv_V} (ha : P a) (h : ∀ v ∈ st, P v) : ∀ v ∈ a :: st, P v := List.forall_mem_cons.mpr ⟨ha, h⟩
def sv_Wt (p : Program) (l : Launch) (e : Env) (R : Room) (s : State) (m : MethodId) (args : Array Value) (below : List Frame) (meth : Method) (c : Code) (cells slots : Nat) (Q : State → Prop) (base : Nat) (ad : Nat → Nat → Nat) (dC : Nat → ClassId) (dI : Nat → Nat → Nat) (cA : Nat → ClassId) (nl : Bool) (nL n0 : Nat) (pc : Nat) (lo : sv_Lo) (st : List sv_V) (σ : sv_S) : Prop :=
  ∀ (H : Heap) (locs : List Loc) (ls : Array Slot), sv_rep base ad dC dI cA σ H → va_S (fun q => base ≤ q) s.heap H locs → sv_lh ad ls nL lo → sv_ct σ = n0 → (∀ v ∈ st, sv_ok n0 v) → (∀ i v, sv_ga lo i = some v → sv_ok n0 v ∧ (nl = true → sv_1 v)) → W p l e R s m args below meth c H locs cells slots Q (F0 m pc ls (st.map (sv_c ad)))
/-- field references of live cells are live -/
theorem sv_fr_ok {n r i ci k : Nat} (hkN : k < sv_nf ci) (hl : sv_lv n r i) (hk : sv_kd r i = .inl ci) {q : Nat × Nat} (h : sv_fr ci i k = some q) : sv_lv n q.1 q.2 := by
  obtain ⟨h1, h2⟩ := hl
  unfold sv_kd at hk
  split at hk <;> simp only [Sum.inl.injEq, reduceCtorEq] at hk <;> subst hk <;> simp only [sv_nb] at h1
  · simp only [sv_fr] at h
    split at h <;> simp only [Option.some.injEq, reduceCtorEq] at h <;> subst h <;> exact ⟨by simp [sv_nb], by simp⟩
  · simp only [sv_fr] at h
    split at h <;> simp only [Option.some.injEq, reduceCtorEq] at h <;> subst h <;> exact ⟨by simp [sv_nb]; try omega, by simp⟩
  · simp [sv_fr] at h
  · split at h <;> simp [sv_fr] at h
  · simp only [sv_fr] at h
    split at h <;> simp only [Option.some.injEq, reduceCtorEq] at h <;> subst h <;> exact ⟨by simp [sv_nb], by simp⟩
  · simp only [sv_fr] at h
    split at h <;> simp only [Option.some.injEq, reduceCtorEq] at h <;> subst h <;> exact ⟨by simp [sv_nb]; try omega, by simp⟩
  · simp only [sv_fr] at h
    split at h <;> simp only [Option.some.injEq, reduceCtorEq] at h <;> subst h <;> exact ⟨by simp [sv_nb]; try omega, by simp⟩
  · simp only [sv_fr] at h
    cases hk : sv_ar k with
    | false => rw [hk] at h; simp at h
    | true =>
      rw [hk] at h
      simp only [cond_true, Option.some.injEq] at h
      subst h
      refine ⟨?_, fun _ => hk⟩
      exact hkN

theorem sv_ft_fr {c j k : Nat} (h : sv_ft c k = 0 ∨ sv_ft c k = 1) : sv_fr c j k = none := by
  unfold sv_ft at h
  split at h
  · split at h <;> first | rfl | omega
  · split at h
    all_goals first
      | omega
      | (simp only [sv_fr]; done)
      | rfl
  · rfl
  · split at h
    all_goals first
      | omega
      | (simp only [sv_fr]; done)
      | rfl
  · split at h
    all_goals first
      | omega
      | (simp only [sv_fr]; done)
      | rfl
  · split at h
    · rfl
    · cases hk : sv_ar k with
      | false => simp [sv_fr, hk]
      | true => rw [hk] at h; simp at h
  · omega
theorem sv_kd6 {r j : Nat} (h : sv_kd r j = .inr 6) : r = 21 := by
  unfold sv_kd at h
  split at h <;> first | rfl | (exfalso; simp at h; done)
theorem sv_tys_at (cA : Nat → ClassId) {t : Nat} (h : t < 6) : ∃ ty, (sv_tys cA)[t]? = some (cA t, ty) := by
  match t, h with
  | 0, _ => exact ⟨_, rfl⟩
  | 1, _ => exact ⟨_, rfl⟩
  | 2, _ => exact ⟨_, rfl⟩
  | 3, _ => exact ⟨_, rfl⟩
  | 4, _ => exact ⟨_, rfl⟩
  | 5, _ => exact ⟨_, rfl⟩
theorem sv_kd2 {r j : Nat} (h : sv_kd r j = .inr 2) : r = 3 := by
  unfold sv_kd at h
  split at h <;> first | rfl | (exfalso; simp at h; done)
theorem sv_kd4 {r j : Nat} (h : sv_kd r j = .inr 4) : r = 6 := by
  unfold sv_kd at h
  split at h <;> first | rfl | (exfalso; simp at h; done)
theorem sv_kd5 {r j : Nat} (h : sv_kd r j = .inr 5) : r = 11 := by
  unfold sv_kd at h
  split at h <;> first | rfl | (exfalso; simp at h; done)
theorem sv_ar_ok2 {n r j k : Nat} {σ : sv_S} (hl : sv_lv n r j) (hk : sv_kd r j = .inr 2) (h : k < sv_ln r j σ) : sv_lv n 2 (10 * j + k) := by
  obtain rfl := sv_kd2 hk
  have h1 : j < 4 := hl.1
  refine ⟨?_, by simp⟩
  show 10 * j + k < 35
  by_cases h3 : j = 3
  · subst h3
    have h : k < 5 := h
    omega
  · have h : k < 10 := by
      simp only [sv_ln] at h
      exact h
    omega
theorem sv_ar_ok4 {n r j k : Nat} {σ : sv_S} (hl : sv_lv n r j) (hk : sv_kd r j = .inr 4) (h : k < sv_ln r j σ) : sv_lv n 7 k := by
  obtain rfl := sv_kd4 hk
  exact ⟨h, by simp⟩
theorem sv_ar_ok5 {n r j k : Nat} {σ : sv_S} (hl : sv_lv n r j) (hk : sv_kd r j = .inr 5) (h : k < sv_ln r j σ) : sv_lv n 12 (4 * j + k) := by
  obtain rfl := sv_kd5 hk
  have h1 : j < 2 := hl.1
  refine ⟨?_, by simp⟩
  show 4 * j + k < 9
  simp only [sv_ln] at h
  split at h <;> omega
section SVA
variable {p : Program} {l : Launch} {e : Env} {R : Room} {s : State} {m : MethodId} {args : Array Value} {below : List Frame} {meth : Method} {c : Code} {H : Heap} {locs : List Loc} {cells slots : Nat} {Q : State → Prop}
variable {cc : ByteArray} {pc : Nat} {ls : Array Slot} {rest : List Value} {base : Nat} {ad : Nat → Nat → Nat} {dC : Nat → ClassId} {dI : Nat → Nat → Nat} {cA : Nat → ClassId} {σ : sv_S} {own : String} {r i : Nat}
theorem sv_aastN (hx : p.tables.exec = Jvm.exec) (hb : c.code = cc) (hK : va_K (dC, dI) vwCl (sv_tys cA) s) (hR : sv_rep base ad dC dI cA σ H) (hS0 : va_S (fun q => base ≤ q) s.heap H locs) (hl : sv_lv (sv_ct σ) r i) (hk : sv_kd r i = .inr 3) {x : Int32} (hin : sv_in x (sv_ln r i σ)) (hdg : decode cc pc = .ok (.aastore, 1))
    (kk : ∀ (H1 : Heap) (locs1 : List Loc), sv_rep base ad dC dI cA (sv_up σ r i x.toNatClampNeg 0) H1 → va_S (fun q => base ≤ q) s.heap H1 locs1 → W p l e R s m args below meth c H1 locs1 cells slots Q (F0 m (pc + 1) ls rest)) : W p l e R s m args below meth c H locs cells slots Q (F0 m pc ls (.null :: .int x :: .ref (ad r i) :: rest)) := by
  obtain ⟨hA, hcell⟩ := hR.1 r i hl (sv_my_arr hk (by decide))
  obtain ⟨h18, h22⟩ := sv_no18 hk (by decide)
  refine va_WaastN (C := "OneStroke$Text") hx hb (hcell.ar hk) ((hK.2 3 _ rfl).1 _ _) (fun q => by cases q) (by rw [arrV_size]; exact sv_inv hin) rfl rfl hdg fun H1 e1 e2 e3 => ?_
  refine kk H1 _ (hR.up hl (sv_my_arr hk (by decide)) h18 h22 ?_ e3) (hS0.put e2 e3 hA)
  unfold sv_cell
  rw [hk]
  show H1[ad r i]? = _
  rw [e1, arrV_store, sv_ln_up h18]
  congr 2
  funext j
  by_cases hj : j = x.toNatClampNeg
  · subst hj
    simp only [updV, if_true, sv_up_self]
    show Value.null = sv_c ad (sv_tx 0 sv_N (fun t => sv_R 18 t))
    unfold sv_tx
    rw [sv_if_t rfl]
    rfl
  · simp only [updV, if_neg hj]; rw [sv_up_k hj]
theorem sv_aastT (hx : p.tables.exec = Jvm.exec) (hb : c.code = cc) (hK : va_K (dC, dI) vwCl (sv_tys cA) s) (hR : sv_rep base ad dC dI cA σ H) (hS0 : va_S (fun q => base ≤ q) s.heap H locs) (hl : sv_lv (sv_ct σ) r i) (hk : sv_kd r i = .inr 3) {t : Nat} (ht : sv_lv (sv_ct σ) 18 t) {x : Int32} (hin : sv_in x (sv_ln r i σ)) (hdg : decode cc pc = .ok (.aastore, 1))
    (kk : ∀ (H1 : Heap) (locs1 : List Loc), sv_rep base ad dC dI cA (sv_up σ r i x.toNatClampNeg (nI (t + 1))) H1 → va_S (fun q => base ≤ q) s.heap H1 locs1 → W p l e R s m args below meth c H1 locs1 cells slots Q (F0 m (pc + 1) ls rest)) : W p l e R s m args below meth c H locs cells slots Q (F0 m pc ls (.ref (ad 18 t) :: .int x :: .ref (ad r i) :: rest)) := by
  obtain ⟨hA, hcell⟩ := hR.1 r i hl (sv_my_arr hk (by decide))
  obtain ⟨h18, h22⟩ := sv_no18 hk (by decide)
  obtain ⟨cellV, g1, g2, g3, -⟩ := (hR.1 18 t ht (sv_my_obj (i := t) (k := 9) rfl)).2.ob (k := 9) rfl
  have hcls := (hK.1 9 _ rfl).2
  obtain ⟨kA, comp, k1, k2, k3, -⟩ := (hK.2 3 _ rfl).2
  have hcomp : comp = dC 9 := Option.some.inj (k3.symm.trans hcls.1)
  subst hcomp
  have hass := va_assign hcls
  obtain ⟨kC, hkC, -⟩ := hcls.2
  have h0 : ¬ x < 0 := fun q => sv_inv hin (Or.inl q)
  refine W.aast hx hb (hcell.ar hk) (fun q h => by cases h) (fun h => by cases h) k1 k2 rfl hkC ⟨h0, by rw [arrV_size]; exact sv_int hin⟩ g1 (fun q h => by rw [g3] at h; cases h) (by rw [g2]; exact hkC) (by rw [g2]; exact hass) rfl rfl hdg fun H1 e1 e2 e3 => ?_
  refine kk H1 _ (hR.up hl (sv_my_arr hk (by decide)) h18 h22 ?_ e3) (hS0.put e2 e3 hA)
  unfold sv_cell
  rw [hk]
  show H1[ad r i]? = _
  rw [e1, arrV_store, sv_ln_up h18]
  congr 2
  funext j
  by_cases hj : j = x.toNatClampNeg
  · subst hj
    simp only [updV, if_true, sv_up_self]
    show Value.ref (ad 18 t) = sv_c ad (sv_tx (nI (t + 1)) sv_N (fun t => sv_R 18 t))
    have hb1 : t < sv_ct σ := ht.1
    have hb2 : sv_ct σ < 2 ^ 31 := sv_cl32 _
    rw [sv_tx_nI (by omega)]
    rfl
  · simp only [updV, if_neg hj]; rw [sv_up_k hj]
end SVA
theorem sv_b_some {α β : Type} {x : Option (α × sv_S)} {k : α → sv_S → Option β} {y : β} (h : sv_b x k = some y) : ∃ a σ, x = some (a, σ) ∧ k a σ = some y := by
  unfold sv_b at h
  split at h
  · exact ⟨_, _, rfl, h⟩
  · cases h
theorem sv_b0_some {β : Type} {x : Option sv_S} {k : sv_S → Option β} {y : β} (h : sv_b0 x k = some y) : ∃ σ, x = some σ ∧ k σ = some y := by
  unfold sv_b0 at h
  split at h
  · exact ⟨_, rfl, h⟩
  · cases h
theorem sv_bT_some {β : Type} {x : Option (Option Nat × sv_S)} {k0 : sv_S → Option β} {k1 : Nat → sv_S → Option β} {y : β} (h : sv_bT x k0 k1 = some y) : (∃ σ, x = some (none, σ) ∧ k0 σ = some y) ∨ ∃ t σ, x = some (some t, σ) ∧ k1 t σ = some y := by
  unfold sv_bT at h
  split at h
  · exact Or.inl ⟨_, rfl, h⟩
  · exact Or.inr ⟨_, _, rfl, h⟩
  · cases h

/-- what a call is said to do, and does -/
def sv_cok (p : Program) (l : Launch) (e : Env) (R : Room) (s : State) (m : MethodId) (args : Array Value) (below : List Frame) (meth : Method) (c : Code) (cells slots : Nat) (Q : State → Prop) (base : Nat) (ad : Nat → Nat → Nat) (dC : Nat → ClassId) (dI : Nat → Nat → Nat) (cA : Nat → ClassId) (nl : Bool) (nL n0 : Nat) (pc n : Nat) (f : sv_F) : Prop :=
  ∀ (as rest : List sv_V) (lo : sv_Lo) (σ : sv_S), as.length = n → sv_sm rest = true → match f with
    | .inl F => ∀ v σ', F as σ = some (v, σ') → sv_Wt p l e R s m args below meth c cells slots Q base ad dC dI cA nl nL n0 (pc + 3) lo (.inl v :: rest) σ' → sv_Wt p l e R s m args below meth c cells slots Q base ad dC dI cA nl nL n0 pc lo (as.reverse ++ rest) σ
    | .inr (.inl F) => ∀ σ', F as σ = some σ' → sv_Wt p l e R s m args below meth c cells slots Q base ad dC dI cA nl nL n0 (pc + 3) lo rest σ' → sv_Wt p l e R s m args below meth c cells slots Q base ad dC dI cA nl nL n0 pc lo (as.reverse ++ rest) σ
    | .inr (.inr (.inl F)) => ∀ i σ', F.2 as σ = some (i, σ') → sv_Wt p l e R s m args below meth c cells slots Q base ad dC dI cA nl nL n0 (pc + 3) lo (sv_R F.1 i :: rest) σ' → sv_Wt p l e R s m args below meth c cells slots Q base ad dC dI cA nl nL n0 pc lo (as.reverse ++ rest) σ
    | .inr (.inr (.inr F)) => (∀ σ', F as σ = some (none, σ') → sv_Wt p l e R s m args below meth c cells slots Q base ad dC dI cA nl nL n0 (pc + 3) lo (sv_N :: rest) σ' → sv_Wt p l e R s m args below meth c cells slots Q base ad dC dI cA nl nL n0 pc lo (as.reverse ++ rest) σ) ∧ (∀ t σ', F as σ = some (some t, σ') → sv_Wt p l e R s m args below meth c cells slots Q base ad dC dI cA nl nL n0 (pc + 3) lo (sv_R 18 t :: rest) σ' → sv_Wt p l e R s m args below meth c cells slots Q base ad dC dI cA nl nL n0 pc lo (as.reverse ++ rest) σ)
theorem sv_tk_spec : ∀ (n : Nat) (acc st : List sv_V) (as rest : List sv_V), sv_tk n acc st = some (as, rest) → ∃ t, t.length = n ∧ st = t ++ rest ∧ as = t.reverse ++ acc
  | 0, acc, st, as, rest, h => by
    simp only [sv_tk, Option.some.injEq, Prod.mk.injEq] at h
    obtain ⟨rfl, rfl⟩ := h
    exact ⟨[], rfl, rfl, rfl⟩
  | n + 1, acc, [], as, rest, h => by simp [sv_tk] at h
  | n + 1, acc, v :: st, as, rest, h => by
    obtain ⟨t, h1, h2, h3⟩ := sv_tk_spec n (v :: acc) st as rest h
    refine ⟨v :: t, by simp [h1], by simp [h2], by simp [h3]⟩
theorem sv_tk1_spec {pc : Nat} {x : Int} {d : Nat} {β : Type} {go : Nat → Option β} {res : β} : ∀ (offs : List Int) (l : Int) (sw : List (Int × Nat)), sv_tk1 pc l offs sw = true → sv_sw x d go sw = some res → (go d = some res ∧ (x < l ∨ l + offs.length ≤ x)) ∨ ∃ (o : Int) (t : Nat), l ≤ x ∧ offs[(x - l).toNat]? = some o ∧ (pc : Int) + o = (t : Int) ∧ x < l + offs.length ∧ go t = some res
  | [], l, [], _, h => by
    left
    refine ⟨h, ?_⟩
    by_cases hx : x < l
    · exact Or.inl hx
    · right; simp; omega
  | [], l, _ :: _, h, _ => by simp [sv_tk1] at h
  | _ :: _, l, [], h, _ => by simp [sv_tk1] at h
  | o :: offs, l, q :: sw, h, hs => by
    simp only [sv_tk1, Bool.and_eq_true, decide_eq_true_eq] at h
    obtain ⟨⟨h1, h2⟩, h3⟩ := h
    simp only [sv_sw] at hs
    rcases sv_if_some hs with ⟨hx, hg⟩ | ⟨hx, hg⟩
    · right
      refine ⟨o, q.2, by omega, ?_, h2, ?_, hg⟩
      · have : (x - l).toNat = 0 := by omega
        rw [this]; rfl
      · simp only [List.length_cons]; omega
    · rcases sv_tk1_spec offs (l + 1) sw h3 hg with ⟨g1, g2⟩ | ⟨o', t, g1, g2, g3, g4, g5⟩
      · left
        refine ⟨g1, ?_⟩
        simp only [List.length_cons]
        omega
      · right
        refine ⟨o', t, by omega, ?_, g3, by simp only [List.length_cons]; omega, g5⟩
        have : (x - l).toNat = (x - (l + 1)).toNat + 1 := by omega
        rw [this]
        simpa using g2
theorem sv_tk2_spec {pc : Nat} {x d0 : Int} {d : Nat} {β : Type} {go : Nat → Option β} {res : β} (hd : (pc : Int) + d0 = (d : Int)) : ∀ (ps : List (Int × Int)) (sw : List (Int × Nat)), sv_tk2 pc ps sw = true → sv_sw x d go sw = some res → ∃ t : Nat, (pc : Int) + Op.lookupswitch.offset ps d0 x = (t : Int) ∧ go t = some res
  | [], [], _, h => ⟨d, hd, h⟩
  | [], _ :: _, h, _ => by simp [sv_tk2] at h
  | _ :: _, [], h, _ => by simp [sv_tk2] at h
  | o :: ps, q :: sw, h, hs => by
    simp only [sv_tk2, Bool.and_eq_true, decide_eq_true_eq] at h
    obtain ⟨⟨h1, h2⟩, h3⟩ := h
    obtain ⟨a, b⟩ := o
    rw [Op.lookupswitch.offset_cons]
    simp only [sv_sw] at hs
    rcases sv_if_some hs with ⟨hx, hg⟩ | ⟨hx, hg⟩
    · rw [if_pos (by rw [hx, h1])]
      exact ⟨q.2, h2, hg⟩
    · rw [if_neg (fun k => hx (by rw [h1]; exact k.symm))]
      exact sv_tk2_spec hd ps sw h3 hg
section SVC
variable {p : Program} {l : Launch} {e : Env} {R : Room} {s : State} {m : MethodId} {args : Array Value} {below : List Frame} {meth : Method} {c : Code} {cells slots : Nat} {Q : State → Prop}
variable {base : Nat} {ad : Nat → Nat → Nat} {dC : Nat → ClassId} {dI : Nat → Nat → Nat} {cA : Nat → ClassId} {nL n0 : Nat}
theorem sv_cl_ok {E : sv_E} (hE4 : ∀ pc n f, E.2.2.2.2 pc = some (n, f) → sv_cok p l e R s m args below meth c cells slots Q base ad dC dI cA E.2.2.2.1 nL n0 pc n f) {β : Type} {res : β} {pc : Nat} {lo : sv_Lo} {st : List sv_V} {σ : sv_S} {go : Nat → sv_Lo → List sv_V → sv_S → Option β}
    (hgo : ∀ pc lo st σ, go pc lo st σ = some res → sv_Wt p l e R s m args below meth c cells slots Q base ad dC dI cA E.2.2.2.1 nL n0 pc lo st σ)
    (h : sv_cl E pc (pc + 3) lo st σ go = some res) : sv_Wt p l e R s m args below meth c cells slots Q base ad dC dI cA E.2.2.2.1 nL n0 pc lo st σ := by
  unfold sv_cl at h
  split at h
  · cases h
  rename_i n f hE
  split at h
  · cases h
  rename_i as rest htk
  obtain ⟨t, h1, h2, h3⟩ := sv_tk_spec _ _ _ _ _ htk
  have hst : st = as.reverse ++ rest := by rw [h3]; simp [h2]
  have hn : as.length = n := by rw [h3]; simp [h1]
  cases hsm : sv_sm rest with
  | false => rw [hsm] at h; cases h
  | true =>
    rw [hsm] at h
    simp only [cond_true] at h
    have hc := hE4 pc n f hE as rest lo σ hn hsm
    rw [hst]
    rcases f with F | F | F | F
    · obtain ⟨v, σ', e1, e2⟩ := sv_b_some h
      exact hc v σ' e1 (hgo _ _ _ _ e2)
    · obtain ⟨σ', e1, e2⟩ := sv_b0_some h
      exact hc σ' e1 (hgo _ _ _ _ e2)
    · obtain ⟨v, σ', e1, e2⟩ := sv_b_some h
      exact hc v σ' e1 (hgo _ _ _ _ e2)
    · rcases sv_bT_some h with ⟨σ', e1, e2⟩ | ⟨t, σ', e1, e2⟩
      · exact hc.1 σ' e1 (hgo _ _ _ _ e2)
      · exact hc.2 t σ' e1 (hgo _ _ _ _ e2)
end SVC
section SVI
variable {p : Program} {l : Launch} {e : Env} {R : Room} {s : State} {m : MethodId} {args : Array Value} {below : List Frame} {meth : Method} {c : Code} {cells slots : Nat} {Q : State → Prop}
variable {cc : ByteArray} {base : Nat} {ad : Nat → Nat → Nat} {dC : Nat → ClassId} {dI : Nat → Nat → Nat} {cA : Nat → ClassId} {own : String} {nL n0 : Nat}
set_option maxHeartbeats 4000000 in
theorem sv_i_ok (hx : p.tables.exec = Jvm.exec) (hb : c.code = cc) (hts : ∀ w ∈ gw_tbl, w.before args s = true) (hown : s.vm.findClass own = some m.cls) (hkn : sv_kn base ad dC dI cA s) (hck : ∀ ci q, vwCl[ci]? = some q → sv_ck ci q)
    {E : sv_E} (hE1 : ∀ idx q, E.1 idx = some q → sv_fk own idx q.1 q.2) (hE2 : ∀ idx v, E.2.1 idx = some v → sv_1k own idx v) (hE3 : ∀ idx, E.2.2.1 idx = true → Cond.fieldLink own idx "OneStroke" "ABOVE" "[I" ∈ gw_tbl) (hE4 : ∀ pc n f, E.2.2.2.2 pc = some (n, f) → sv_cok p l e R s m args below meth c cells slots Q base ad dC dI cA E.2.2.2.1 nL n0 pc n f)
    {β : Type} {rt : sv_V → sv_S → Option β} {res : β}
    (hrI : ∀ pc lo n σ, decode cc pc = .ok (.ireturn, 1) → rt (.inl n) σ = some res → sv_Wt p l e R s m args below meth c cells slots Q base ad dC dI cA E.2.2.2.1 nL n0 pc lo [.inl n] σ)
    (hrA : ∀ pc lo v σ, decode cc pc = .ok (.areturn, 1) → (v = sv_N ∨ ∃ r i, v = sv_R r i) → rt v σ = some res → sv_Wt p l e R s m args below meth c cells slots Q base ad dC dI cA E.2.2.2.1 nL n0 pc lo [v] σ)
    (hrV : ∀ pc lo σ, decode cc pc = .ok (.return_, 1) → rt (sv_L 0) σ = some res → sv_Wt p l e R s m args below meth c cells slots Q base ad dC dI cA E.2.2.2.1 nL n0 pc lo [] σ)
    {pc : Nat} {ins : Instr} {cv : sv_V} {nx tg : Nat} {sw : List (Int × Nat)} (hD : sv_dk cc (pc, (ins, (cv, (nx, (tg, sw))))) = true) {lo : sv_Lo} {st : List sv_V} {σ : sv_S} {go : Nat → sv_Lo → List sv_V → sv_S → Option β}
    (hgo : ∀ pc lo st σ, go pc lo st σ = some res → sv_Wt p l e R s m args below meth c cells slots Q base ad dC dI cA E.2.2.2.1 nL n0 pc lo st σ)
    (h : sv_i E rt pc cv nx tg sw lo st σ go ins = some res) : sv_Wt p l e R s m args below meth c cells slots Q base ad dC dI cA E.2.2.2.1 nL n0 pc lo st σ := by
  obtain ⟨len, hd, hlen, hnx, hsk⟩ := sv_dk_spec hD
  obtain ⟨hK, hZ, hT, hNw, hVR, hVS, hCS⟩ := id hkn
  cases ins

  case iconst v =>
    obtain rfl : 1 = len := hlen.resolve_left (fun q => absurd q (Nat.succ_ne_zero _))
    have hnx : nx = pc + 1 := hnx
    subst hnx
    simp only [sv_i] at h
    simp only [sv_sk, decide_eq_true_eq] at hsk
    subst hsk
    intro H locs ls hR hS hL hct hst hlo
    subst hct
    exact lv_iconst hx hb hd rfl (hgo _ _ _ _ h H locs ls hR hS hL rfl (sv_cs trivial hst) hlo)
  case bipush v =>
    obtain rfl : 2 = len := hlen.resolve_left (fun q => absurd q (Nat.succ_ne_zero _))
    have hnx : nx = pc + 2 := hnx
    subst hnx
    simp only [sv_i] at h
    simp only [sv_sk, decide_eq_true_eq] at hsk
    subst hsk
    intro H locs ls hR hS hL hct hst hlo
    subst hct
    exact lv_bipush hx hb hd rfl (hgo _ _ _ _ h H locs ls hR hS hL rfl (sv_cs trivial hst) hlo)
  case sipush v =>
    obtain rfl : 3 = len := hlen.resolve_left (fun q => absurd q (Nat.succ_ne_zero _))
    have hnx : nx = pc + 3 := hnx
    subst hnx
    simp only [sv_i] at h
    simp only [sv_sk, decide_eq_true_eq] at hsk
    subst hsk
    intro H locs ls hR hS hL hct hst hlo
    subst hct
    exact lv_sipush hx hb hd rfl (hgo _ _ _ _ h H locs ls hR hS hL rfl (sv_cs trivial hst) hlo)
  case lconst v =>
    obtain rfl : 1 = len := hlen.resolve_left (fun q => absurd q (Nat.succ_ne_zero _))
    have hnx : nx = pc + 1 := hnx
    subst hnx
    simp only [sv_i] at h
    simp only [sv_sk, decide_eq_true_eq] at hsk
    subst hsk
    intro H locs ls hR hS hL hct hst hlo
    subst hct
    exact lv_lconst hx hb hd rfl (hgo _ _ _ _ h H locs ls hR hS hL rfl (sv_cs trivial hst) hlo)
  case aconst_null =>
    obtain rfl : 1 = len := hlen.resolve_left (fun q => absurd q (Nat.succ_ne_zero _))
    have hnx : nx = pc + 1 := hnx
    subst hnx
    simp only [sv_i] at h
    intro H locs ls hR hS hL hct hst hlo
    subst hct
    exact lv_null hx hb hd (hgo _ _ _ _ h H locs ls hR hS hL rfl (sv_cs trivial hst) hlo)
  case ldc idx =>
    obtain rfl : 2 = len := hlen.resolve_left (fun q => absurd q (Nat.succ_ne_zero _))
    have hnx : nx = pc + 2 := hnx
    subst hnx
    simp only [sv_i] at h
    split at h
    · rename_i n hn
      intro H locs ls hR hS hL hct hst hlo
      subst hct
      exact lv_ldc hx hb hown (hts _ (hE2 _ _ hn)) hd (hgo _ _ _ _ h H locs ls hR hS hL rfl (sv_cs trivial hst) hlo)
    · rename_i r i hn
      obtain ⟨rfl, hi, rfl, rfl⟩ := hE2 _ _ hn
      intro H locs ls hR hS hL hct hst hlo
      subst hct
      exact va_ldcS hx hb hown (hVR i hi) hd (hgo _ _ _ _ h H locs ls hR hS hL rfl (sv_cs ⟨hi, by simp⟩ hst) hlo)
    · cases h
  case ldc_w idx =>
    obtain rfl : 3 = len := hlen.resolve_left (fun q => absurd q (Nat.succ_ne_zero _))
    have hnx : nx = pc + 3 := hnx
    subst hnx
    simp only [sv_i] at h
    split at h
    · rename_i n hn
      intro H locs ls hR hS hL hct hst hlo
      subst hct
      exact lv_ldcw hx hb hown (hts _ (hE2 _ _ hn)) hd (hgo _ _ _ _ h H locs ls hR hS hL rfl (sv_cs trivial hst) hlo)
    · cases h
  case ldc2_w idx =>
    obtain rfl : 3 = len := hlen.resolve_left (fun q => absurd q (Nat.succ_ne_zero _))
    have hnx : nx = pc + 3 := hnx
    subst hnx
    simp only [sv_i] at h
    split at h
    · rename_i n hn
      intro H locs ls hR hS hL hct hst hlo
      subst hct
      exact lv_ldc2 hx hb hown (hts _ (hE2 _ _ hn)) hd (hgo _ _ _ _ h H locs ls hR hS hL rfl (sv_cs trivial hst) hlo)
    · cases h
  case iload_n k =>
    obtain rfl : 1 = len := hlen.resolve_left (fun q => absurd q (Nat.succ_ne_zero _))
    have hnx : nx = pc + 1 := hnx
    subst hnx
    simp only [sv_i] at h
    split at h
    · rename_i hn
      intro H locs ls hR hS hL hct hst hlo
      subst hct
      exact lv_iload_n hx hb hd rfl (hL.at hn) (hgo _ _ _ _ h H locs ls hR hS hL rfl (sv_cs (hlo _ _ hn).1 hst) hlo)
    · cases h
  case iload k =>
    obtain rfl : 2 = len := hlen.resolve_left (fun q => absurd q (Nat.succ_ne_zero _))
    have hnx : nx = pc + 2 := hnx
    subst hnx
    simp only [sv_i] at h
    split at h
    · rename_i hn
      intro H locs ls hR hS hL hct hst hlo
      subst hct
      exact lv_iload hx hb hd (hL.at hn) (hgo _ _ _ _ h H locs ls hR hS hL rfl (sv_cs (hlo _ _ hn).1 hst) hlo)
    · cases h
  case lload_n k =>
    obtain rfl : 1 = len := hlen.resolve_left (fun q => absurd q (Nat.succ_ne_zero _))
    have hnx : nx = pc + 1 := hnx
    subst hnx
    simp only [sv_i] at h
    split at h
    · rename_i hn
      intro H locs ls hR hS hL hct hst hlo
      subst hct
      exact lv_lload_n hx hb hd rfl (hL.at hn) (hgo _ _ _ _ h H locs ls hR hS hL rfl (sv_cs (hlo _ _ hn).1 hst) hlo)
    · cases h
  case lload k =>
    obtain rfl : 2 = len := hlen.resolve_left (fun q => absurd q (Nat.succ_ne_zero _))
    have hnx : nx = pc + 2 := hnx
    subst hnx
    simp only [sv_i] at h
    split at h
    · rename_i hn
      intro H locs ls hR hS hL hct hst hlo
      subst hct
      exact lv_lload hx hb hd (hL.at hn) (hgo _ _ _ _ h H locs ls hR hS hL rfl (sv_cs (hlo _ _ hn).1 hst) hlo)
    · cases h
  case aload_n k =>
    obtain rfl : 1 = len := hlen.resolve_left (fun q => absurd q (Nat.succ_ne_zero _))
    have hnx : nx = pc + 1 := hnx
    subst hnx
    simp only [sv_i] at h
    split at h
    · rename_i hn
      intro H locs ls hR hS hL hct hst hlo
      subst hct
      exact lv_aload_n hx hb hd rfl (hL.at hn) (hgo _ _ _ _ h H locs ls hR hS hL rfl (sv_cs (hlo _ _ hn).1 hst) hlo)
    · cases h
  case aload k =>
    obtain rfl : 2 = len := hlen.resolve_left (fun q => absurd q (Nat.succ_ne_zero _))
    have hnx : nx = pc + 2 := hnx
    subst hnx
    simp only [sv_i] at h
    split at h
    · rename_i hn
      intro H locs ls hR hS hL hct hst hlo
      subst hct
      exact lv_aload hx hb hd (hL.at hn) (hgo _ _ _ _ h H locs ls hR hS hL rfl (sv_cs (hlo _ _ hn).1 hst) hlo)
    · cases h
  case istore_n k =>
    obtain rfl : 1 = len := hlen.resolve_left (fun q => absurd q (Nat.succ_ne_zero _))
    have hnx : nx = pc + 1 := hnx
    subst hnx
    simp only [sv_i] at h
    split at h
    · cases hnl : (E.2.2.2.1 && Nat.ble (k + 1) lo.length) with
      | false => rw [hnl] at h; cases h
      | true =>
        rw [hnl] at h
        simp only [cond_true] at h
        simp only [Bool.and_eq_true] at hnl
        obtain ⟨hnl, hk⟩ := hnl
        have hk := Nat.le_of_ble_eq_true hk
        intro H locs ls hR hS hL hct hst hlo
        subst hct
        have h1 : ∀ j w, sv_ga lo j = some w → sv_1 w := fun j w hj => (hlo j w hj).2 hnl
        have hk' : (k : Nat) < nL := by rw [← hL.1]; exact hk
        refine lv_istore_n hx hb hd rfl hL.2 hk' rfl (fun ls' hl' => ?_)
        have hL' := sv_lh.put (v := .inl _) hL.1 hk' h1 hl'
        refine hgo _ _ _ _ h H locs ls' hR hS hL' rfl (sv_t1 hst) (fun i v hi => ?_)
        rw [sv_ga_se lo _ i _ hk] at hi
        split at hi
        · cases hi; exact ⟨hst _ List.mem_cons_self, fun _ => trivial⟩
        · exact hlo i v hi
    · cases h
  case istore k =>
    obtain rfl : 2 = len := hlen.resolve_left (fun q => absurd q (Nat.succ_ne_zero _))
    have hnx : nx = pc + 2 := hnx
    subst hnx
    simp only [sv_i] at h
    split at h
    · cases hnl : (E.2.2.2.1 && Nat.ble (k + 1) lo.length) with
      | false => rw [hnl] at h; cases h
      | true =>
        rw [hnl] at h
        simp only [cond_true] at h
        simp only [Bool.and_eq_true] at hnl
        obtain ⟨hnl, hk⟩ := hnl
        have hk := Nat.le_of_ble_eq_true hk
        intro H locs ls hR hS hL hct hst hlo
        subst hct
        have h1 : ∀ j w, sv_ga lo j = some w → sv_1 w := fun j w hj => (hlo j w hj).2 hnl
        have hk' : (k : Nat) < nL := by rw [← hL.1]; exact hk
        refine lv_istore hx hb hd hL.2 hk' rfl (fun ls' hl' => ?_)
        have hL' := sv_lh.put (v := .inl _) hL.1 hk' h1 hl'
        refine hgo _ _ _ _ h H locs ls' hR hS hL' rfl (sv_t1 hst) (fun i v hi => ?_)
        rw [sv_ga_se lo _ i _ hk] at hi
        split at hi
        · cases hi; exact ⟨hst _ List.mem_cons_self, fun _ => trivial⟩
        · exact hlo i v hi
    · cases h
  case astore_n k =>
    obtain rfl : 1 = len := hlen.resolve_left (fun q => absurd q (Nat.succ_ne_zero _))
    have hnx : nx = pc + 1 := hnx
    subst hnx
    simp only [sv_i] at h
    split at h
    · cases hnl : (E.2.2.2.1 && Nat.ble (k + 1) lo.length) with
      | false => rw [hnl] at h; cases h
      | true =>
        rw [hnl] at h
        simp only [cond_true] at h
        simp only [Bool.and_eq_true] at hnl
        obtain ⟨hnl, hk⟩ := hnl
        have hk := Nat.le_of_ble_eq_true hk
        intro H locs ls hR hS hL hct hst hlo
        subst hct
        have h1 : ∀ j w, sv_ga lo j = some w → sv_1 w := fun j w hj => (hlo j w hj).2 hnl
        have hk' : (k : Nat) < nL := by rw [← hL.1]; exact hk
        refine lv_astore_n hx hb hd rfl hL.2 hk' rfl (fun ls' hl' => ?_)
        have hL' := sv_lh.put (v := sv_R _ _) hL.1 hk' h1 hl'
        refine hgo _ _ _ _ h H locs ls' hR hS hL' rfl (sv_t1 hst) (fun i v hi => ?_)
        rw [sv_ga_se lo _ i _ hk] at hi
        split at hi
        · cases hi; exact ⟨hst _ List.mem_cons_self, fun _ => trivial⟩
        · exact hlo i v hi
    · cases h
  case astore k =>
    obtain rfl : 2 = len := hlen.resolve_left (fun q => absurd q (Nat.succ_ne_zero _))
    have hnx : nx = pc + 2 := hnx
    subst hnx
    simp only [sv_i] at h
    split at h
    · cases hnl : (E.2.2.2.1 && Nat.ble (k + 1) lo.length) with
      | false => rw [hnl] at h; cases h
      | true =>
        rw [hnl] at h
        simp only [cond_true] at h
        simp only [Bool.and_eq_true] at hnl
        obtain ⟨hnl, hk⟩ := hnl
        have hk := Nat.le_of_ble_eq_true hk
        intro H locs ls hR hS hL hct hst hlo
        subst hct
        have h1 : ∀ j w, sv_ga lo j = some w → sv_1 w := fun j w hj => (hlo j w hj).2 hnl
        have hk' : (k : Nat) < nL := by rw [← hL.1]; exact hk
        refine lv_astore hx hb hd hL.2 hk' rfl (fun ls' hl' => ?_)
        have hL' := sv_lh.put (v := sv_R _ _) hL.1 hk' h1 hl'
        refine hgo _ _ _ _ h H locs ls' hR hS hL' rfl (sv_t1 hst) (fun i v hi => ?_)
        rw [sv_ga_se lo _ i _ hk] at hi
        split at hi
        · cases hi; exact ⟨hst _ List.mem_cons_self, fun _ => trivial⟩
        · exact hlo i v hi
    · cases h
  case iinc k d =>
    obtain rfl : 3 = len := hlen.resolve_left (fun q => absurd q (Nat.succ_ne_zero _))
    have hnx : nx = pc + 3 := hnx
    subst hnx
    simp only [sv_i] at h
    simp only [sv_sk, decide_eq_true_eq] at hsk
    subst hsk
    split at h
    · rename_i n d' hn hd'
      cases hd'
      by_cases hnl : E.2.2.2.1 = true
      · rw [hnl] at h
        simp only [cond_true] at h
        intro H locs ls hR hS hL hct hst hlo
        subst hct
        have h1 : ∀ j w, sv_ga lo j = some w → sv_1 w := fun j w hj => (hlo j w hj).2 hnl
        have hk : k < nL := by rw [← hL.1]; exact sv_ga_lt _ _ _ hn
        obtain ⟨kk, hkk⟩ := List.getElem?_of_mem (sv_ll_in (ad := ad) lo 0 k _ hn)
        rw [Nat.zero_add] at hkk
        refine lv_iinc hx hb hd hL.2 hkk rfl hk rfl (fun ls' hl' => ?_)
        have hL' := sv_lh.put (v := .inl _) hL.1 hk h1 hl'
        refine hgo _ _ _ _ h H locs ls' hR hS hL' rfl hst (fun i v hi => ?_)
        rw [sv_ga_se lo _ i _ (by rw [hL.1]; exact hk)] at hi
        split at hi
        · cases hi; exact ⟨trivial, fun _ => trivial⟩
        · exact hlo i v hi
      · rw [Bool.not_eq_true] at hnl
        rw [hnl] at h
        cases h
    · cases h
  case iadd =>
    obtain rfl : 1 = len := hlen.resolve_left (fun q => absurd q (Nat.succ_ne_zero _))
    have hnx : nx = pc + 1 := hnx
    subst hnx
    simp only [sv_i] at h
    split at h
    · intro H locs ls hR hS hL hct hst hlo
      subst hct
      exact lv_iadd hx hb hd (hgo _ _ _ _ h H locs ls hR hS hL rfl (sv_cs trivial (sv_t1 (sv_t1 hst))) hlo)
    · cases h
  case isub =>
    obtain rfl : 1 = len := hlen.resolve_left (fun q => absurd q (Nat.succ_ne_zero _))
    have hnx : nx = pc + 1 := hnx
    subst hnx
    simp only [sv_i] at h
    split at h
    · intro H locs ls hR hS hL hct hst hlo
      subst hct
      exact lv_isub hx hb hd (hgo _ _ _ _ h H locs ls hR hS hL rfl (sv_cs trivial (sv_t1 (sv_t1 hst))) hlo)
    · cases h
  case imul =>
    obtain rfl : 1 = len := hlen.resolve_left (fun q => absurd q (Nat.succ_ne_zero _))
    have hnx : nx = pc + 1 := hnx
    subst hnx
    simp only [sv_i] at h
    split at h
    · intro H locs ls hR hS hL hct hst hlo
      subst hct
      exact lv_imul hx hb hd (hgo _ _ _ _ h H locs ls hR hS hL rfl (sv_cs trivial (sv_t1 (sv_t1 hst))) hlo)
    · cases h
  case iand =>
    obtain rfl : 1 = len := hlen.resolve_left (fun q => absurd q (Nat.succ_ne_zero _))
    have hnx : nx = pc + 1 := hnx
    subst hnx
    simp only [sv_i] at h
    split at h
    · intro H locs ls hR hS hL hct hst hlo
      subst hct
      exact lv_iand hx hb hd (hgo _ _ _ _ h H locs ls hR hS hL rfl (sv_cs trivial (sv_t1 (sv_t1 hst))) hlo)
    · cases h
  case ior =>
    obtain rfl : 1 = len := hlen.resolve_left (fun q => absurd q (Nat.succ_ne_zero _))
    have hnx : nx = pc + 1 := hnx
    subst hnx
    simp only [sv_i] at h
    split at h
    · intro H locs ls hR hS hL hct hst hlo
      subst hct
      exact lv_ior hx hb hd (hgo _ _ _ _ h H locs ls hR hS hL rfl (sv_cs trivial (sv_t1 (sv_t1 hst))) hlo)
    · cases h
  case ishl =>
    obtain rfl : 1 = len := hlen.resolve_left (fun q => absurd q (Nat.succ_ne_zero _))
    have hnx : nx = pc + 1 := hnx
    subst hnx
    simp only [sv_i] at h
    split at h
    · intro H locs ls hR hS hL hct hst hlo
      subst hct
      exact lv_ishl hx hb hd (hgo _ _ _ _ h H locs ls hR hS hL rfl (sv_cs trivial (sv_t1 (sv_t1 hst))) hlo)
    · cases h
  case ishr =>
    obtain rfl : 1 = len := hlen.resolve_left (fun q => absurd q (Nat.succ_ne_zero _))
    have hnx : nx = pc + 1 := hnx
    subst hnx
    simp only [sv_i] at h
    split at h
    · intro H locs ls hR hS hL hct hst hlo
      subst hct
      exact lv_ishr hx hb hd (hgo _ _ _ _ h H locs ls hR hS hL rfl (sv_cs trivial (sv_t1 (sv_t1 hst))) hlo)
    · cases h
  case ladd =>
    obtain rfl : 1 = len := hlen.resolve_left (fun q => absurd q (Nat.succ_ne_zero _))
    have hnx : nx = pc + 1 := hnx
    subst hnx
    simp only [sv_i] at h
    split at h
    · intro H locs ls hR hS hL hct hst hlo
      subst hct
      exact lv_ladd hx hb hd (hgo _ _ _ _ h H locs ls hR hS hL rfl (sv_cs trivial (sv_t1 (sv_t1 hst))) hlo)
    · cases h
  case iushr =>
    obtain rfl : 1 = len := hlen.resolve_left (fun q => absurd q (Nat.succ_ne_zero _))
    have hnx : nx = pc + 1 := hnx
    subst hnx
    simp only [sv_i] at h
    split at h
    · intro H locs ls hR hS hL hct hst hlo
      subst hct
      exact lv_iushr hx hb hd rfl (hgo _ _ _ _ h H locs ls hR hS hL rfl (sv_cs trivial (sv_t1 (sv_t1 hst))) hlo)
    · cases h
  case lcmp =>
    obtain rfl : 1 = len := hlen.resolve_left (fun q => absurd q (Nat.succ_ne_zero _))
    have hnx : nx = pc + 1 := hnx
    subst hnx
    simp only [sv_i] at h
    split at h
    · intro H locs ls hR hS hL hct hst hlo
      subst hct
      exact W.lcmp hx hb hd (hgo _ _ _ _ h H locs ls hR hS hL rfl (sv_cs trivial (sv_t1 (sv_t1 hst))) hlo)
    · cases h
  case ineg =>
    obtain rfl : 1 = len := hlen.resolve_left (fun q => absurd q (Nat.succ_ne_zero _))
    have hnx : nx = pc + 1 := hnx
    subst hnx
    simp only [sv_i] at h
    split at h
    · intro H locs ls hR hS hL hct hst hlo
      subst hct
      exact lv_ineg hx hb hd (hgo _ _ _ _ h H locs ls hR hS hL rfl (sv_cs trivial (sv_t1 hst)) hlo)
    · cases h
  case i2l =>
    obtain rfl : 1 = len := hlen.resolve_left (fun q => absurd q (Nat.succ_ne_zero _))
    have hnx : nx = pc + 1 := hnx
    subst hnx
    simp only [sv_i] at h
    split at h
    · intro H locs ls hR hS hL hct hst hlo
      subst hct
      exact lv_i2l hx hb hd rfl (hgo _ _ _ _ h H locs ls hR hS hL rfl (sv_cs trivial (sv_t1 hst)) hlo)
    · cases h
  case i2b =>
    obtain rfl : 1 = len := hlen.resolve_left (fun q => absurd q (Nat.succ_ne_zero _))
    have hnx : nx = pc + 1 := hnx
    subst hnx
    simp only [sv_i] at h
    split at h
    · intro H locs ls hR hS hL hct hst hlo
      subst hct
      exact lv_i2b hx hb hd rfl (hgo _ _ _ _ h H locs ls hR hS hL rfl (sv_cs trivial (sv_t1 hst)) hlo)
    · cases h
  case i2s =>
    obtain rfl : 1 = len := hlen.resolve_left (fun q => absurd q (Nat.succ_ne_zero _))
    have hnx : nx = pc + 1 := hnx
    subst hnx
    simp only [sv_i] at h
    split at h
    · intro H locs ls hR hS hL hct hst hlo
      subst hct
      exact lv_i2s hx hb hd rfl (hgo _ _ _ _ h H locs ls hR hS hL rfl (sv_cs trivial (sv_t1 hst)) hlo)
    · cases h
  case i2c =>
    obtain rfl : 1 = len := hlen.resolve_left (fun q => absurd q (Nat.succ_ne_zero _))
    have hnx : nx = pc + 1 := hnx
    subst hnx
    simp only [sv_i] at h
    split at h
    · intro H locs ls hR hS hL hct hst hlo
      subst hct
      exact lv_i2c hx hb hd rfl (hgo _ _ _ _ h H locs ls hR hS hL rfl (sv_cs trivial (sv_t1 hst)) hlo)
    · cases h
  case idiv =>
    obtain rfl : 1 = len := hlen.resolve_left (fun q => absurd q (Nat.succ_ne_zero _))
    have hnx : nx = pc + 1 := hnx
    subst hnx
    simp only [sv_i] at h
    split at h
    · obtain ⟨hne, h⟩ := sv_g_some h
      intro H locs ls hR hS hL hct hst hlo
      subst hct
      exact lv_idiv hx hb hd hne (hgo _ _ _ _ h H locs ls hR hS hL rfl (sv_cs trivial (sv_t1 (sv_t1 hst))) hlo)
    · cases h
  case irem =>
    obtain rfl : 1 = len := hlen.resolve_left (fun q => absurd q (Nat.succ_ne_zero _))
    have hnx : nx = pc + 1 := hnx
    subst hnx
    simp only [sv_i] at h
    split at h
    · obtain ⟨hne, h⟩ := sv_g_some h
      intro H locs ls hR hS hL hct hst hlo
      subst hct
      exact lv_irem hx hb hd hne (hgo _ _ _ _ h H locs ls hR hS hL rfl (sv_cs trivial (sv_t1 (sv_t1 hst))) hlo)
    · cases h
  case dup =>
    obtain rfl : 1 = len := hlen.resolve_left (fun q => absurd q (Nat.succ_ne_zero _))
    have hnx : nx = pc + 1 := hnx
    subst hnx
    simp only [sv_i] at h
    split at h
    · intro H locs ls hR hS hL hct hst hlo
      subst hct
      exact lv_dup hx hb hd rfl (hgo _ _ _ _ h H locs ls hR hS hL rfl (sv_cs trivial hst) hlo)
    · intro H locs ls hR hS hL hct hst hlo
      subst hct
      exact lv_dup hx hb hd rfl (hgo _ _ _ _ h H locs ls hR hS hL rfl (sv_cs (hst _ List.mem_cons_self) hst) hlo)
    · cases h
  case dup2 =>
    obtain rfl : 1 = len := hlen.resolve_left (fun q => absurd q (Nat.succ_ne_zero _))
    have hnx : nx = pc + 1 := hnx
    subst hnx
    simp only [sv_i] at h
    split at h
    · intro H locs ls hR hS hL hct hst hlo
      subst hct
      exact lv_dup2_11 hx hb hd rfl rfl (hgo _ _ _ _ h H locs ls hR hS hL rfl (sv_cs trivial (sv_cs (hst _ (List.mem_cons_of_mem _ List.mem_cons_self)) hst)) hlo)
    · cases h
  case pop =>
    obtain rfl : 1 = len := hlen.resolve_left (fun q => absurd q (Nat.succ_ne_zero _))
    have hnx : nx = pc + 1 := hnx
    subst hnx
    simp only [sv_i] at h
    split at h
    · intro H locs ls hR hS hL hct hst hlo
      subst hct
      exact lv_pop hx hb hd rfl (hgo _ _ _ _ h H locs ls hR hS hL rfl (sv_t1 hst) hlo)
    · cases h
  case goto o =>
    obtain rfl : 3 = len := hlen.resolve_left (fun q => absurd q (Nat.succ_ne_zero _))
    have hnx : nx = pc + 3 := hnx
    subst hnx
    simp only [sv_i] at h
    simp only [sv_sk, decide_eq_true_eq] at hsk
    intro H locs ls hR hS hL hct hst hlo
    subst hct
    exact lv_goto hx hb hd hsk (hgo _ _ _ _ h H locs ls hR hS hL rfl hst hlo)
  case ifCond cnd o =>
    obtain rfl : 3 = len := hlen.resolve_left (fun q => absurd q (Nat.succ_ne_zero _))
    have hnx : nx = pc + 3 := hnx
    subst hnx
    simp only [sv_i] at h
    simp only [sv_sk, decide_eq_true_eq] at hsk
    split at h
    · intro H locs ls hR hS hL hct hst hlo
      subst hct
      have hst' := (sv_t1 hst)
      cases cnd <;> simp only [sv_br] at h
      · rcases sv_if_some h with ⟨hc, h⟩ | ⟨hc, h⟩
        · exact lv_if_eq hx hb hd hsk (fun _ => hgo _ _ _ _ h H locs ls hR hS hL rfl hst' hlo) (fun q => absurd hc q)
        · exact lv_if_eq hx hb hd hsk (fun q => absurd q hc) (fun _ => hgo _ _ _ _ h H locs ls hR hS hL rfl hst' hlo)
      · rcases sv_if_some h with ⟨hc, h⟩ | ⟨hc, h⟩
        · exact lv_if_ne hx hb hd hsk (fun q => absurd hc q) (fun _ => hgo _ _ _ _ h H locs ls hR hS hL rfl hst' hlo)
        · exact lv_if_ne hx hb hd hsk (fun _ => hgo _ _ _ _ h H locs ls hR hS hL rfl hst' hlo) (fun q => absurd q hc)
      · rcases sv_if_some h with ⟨hc, h⟩ | ⟨hc, h⟩
        · exact lv_if_lt hx hb hd hsk (fun _ => hgo _ _ _ _ h H locs ls hR hS hL rfl hst' hlo) (fun q => absurd hc q)
        · exact lv_if_lt hx hb hd hsk (fun q => absurd q hc) (fun _ => hgo _ _ _ _ h H locs ls hR hS hL rfl hst' hlo)
      · rcases sv_if_some h with ⟨hc, h⟩ | ⟨hc, h⟩
        · exact lv_if_ge hx hb hd hsk (fun _ => hgo _ _ _ _ h H locs ls hR hS hL rfl hst' hlo) (fun q => absurd hc q)
        · exact lv_if_ge hx hb hd hsk (fun q => absurd q hc) (fun _ => hgo _ _ _ _ h H locs ls hR hS hL rfl hst' hlo)
      · rcases sv_if_some h with ⟨hc, h⟩ | ⟨hc, h⟩
        · exact lv_if_gt hx hb hd hsk (fun _ => hgo _ _ _ _ h H locs ls hR hS hL rfl hst' hlo) (fun q => absurd hc q)
        · exact lv_if_gt hx hb hd hsk (fun q => absurd q hc) (fun _ => hgo _ _ _ _ h H locs ls hR hS hL rfl hst' hlo)
      · rcases sv_if_some h with ⟨hc, h⟩ | ⟨hc, h⟩
        · exact lv_if_le hx hb hd hsk (fun _ => hgo _ _ _ _ h H locs ls hR hS hL rfl hst' hlo) (fun q => absurd hc q)
        · exact lv_if_le hx hb hd hsk (fun q => absurd q hc) (fun _ => hgo _ _ _ _ h H locs ls hR hS hL rfl hst' hlo)
    · cases h
  case if_icmp cnd o =>
    obtain rfl : 3 = len := hlen.resolve_left (fun q => absurd q (Nat.succ_ne_zero _))
    have hnx : nx = pc + 3 := hnx
    subst hnx
    simp only [sv_i] at h
    simp only [sv_sk, decide_eq_true_eq] at hsk
    split at h
    · intro H locs ls hR hS hL hct hst hlo
      subst hct
      have hst' := (sv_t1 (sv_t1 hst))
      cases cnd <;> simp only [sv_br] at h
      · rcases sv_if_some h with ⟨hc, h⟩ | ⟨hc, h⟩
        · exact lv_icmp_eq hx hb hd hsk (fun _ => hgo _ _ _ _ h H locs ls hR hS hL rfl hst' hlo) (fun q => absurd hc q)
        · exact lv_icmp_eq hx hb hd hsk (fun q => absurd q hc) (fun _ => hgo _ _ _ _ h H locs ls hR hS hL rfl hst' hlo)
      · rcases sv_if_some h with ⟨hc, h⟩ | ⟨hc, h⟩
        · exact lv_icmp_ne hx hb hd hsk (fun q => absurd hc q) (fun _ => hgo _ _ _ _ h H locs ls hR hS hL rfl hst' hlo)
        · exact lv_icmp_ne hx hb hd hsk (fun _ => hgo _ _ _ _ h H locs ls hR hS hL rfl hst' hlo) (fun q => absurd q hc)
      · rcases sv_if_some h with ⟨hc, h⟩ | ⟨hc, h⟩
        · exact lv_icmp_lt hx hb hd hsk (fun _ => hgo _ _ _ _ h H locs ls hR hS hL rfl hst' hlo) (fun q => absurd hc q)
        · exact lv_icmp_lt hx hb hd hsk (fun q => absurd q hc) (fun _ => hgo _ _ _ _ h H locs ls hR hS hL rfl hst' hlo)
      · rcases sv_if_some h with ⟨hc, h⟩ | ⟨hc, h⟩
        · exact lv_icmp_ge hx hb hd hsk (fun _ => hgo _ _ _ _ h H locs ls hR hS hL rfl hst' hlo) (fun q => absurd hc q)
        · exact lv_icmp_ge hx hb hd hsk (fun q => absurd q hc) (fun _ => hgo _ _ _ _ h H locs ls hR hS hL rfl hst' hlo)
      · rcases sv_if_some h with ⟨hc, h⟩ | ⟨hc, h⟩
        · exact lv_icmp_gt hx hb hd hsk (fun _ => hgo _ _ _ _ h H locs ls hR hS hL rfl hst' hlo) (fun q => absurd hc q)
        · exact lv_icmp_gt hx hb hd hsk (fun q => absurd q hc) (fun _ => hgo _ _ _ _ h H locs ls hR hS hL rfl hst' hlo)
      · rcases sv_if_some h with ⟨hc, h⟩ | ⟨hc, h⟩
        · exact lv_icmp_le hx hb hd hsk (fun _ => hgo _ _ _ _ h H locs ls hR hS hL rfl hst' hlo) (fun q => absurd hc q)
        · exact lv_icmp_le hx hb hd hsk (fun q => absurd q hc) (fun _ => hgo _ _ _ _ h H locs ls hR hS hL rfl hst' hlo)
    · cases h
  case ifnull o =>
    obtain rfl : 3 = len := hlen.resolve_left (fun q => absurd q (Nat.succ_ne_zero _))
    have hnx : nx = pc + 3 := hnx
    subst hnx
    simp only [sv_i] at h
    simp only [sv_sk, decide_eq_true_eq] at hsk
    split at h
    · intro H locs ls hR hS hL hct hst hlo
      subst hct
      exact lv_ifnullN hx hb hd hsk (hgo _ _ _ _ h H locs ls hR hS hL rfl (sv_t1 hst) hlo)
    · intro H locs ls hR hS hL hct hst hlo
      subst hct
      exact lv_ifnull hx hb hd (hgo _ _ _ _ h H locs ls hR hS hL rfl (sv_t1 hst) hlo)
    · cases h
  case ifnonnull o =>
    obtain rfl : 3 = len := hlen.resolve_left (fun q => absurd q (Nat.succ_ne_zero _))
    have hnx : nx = pc + 3 := hnx
    subst hnx
    simp only [sv_i] at h
    simp only [sv_sk, decide_eq_true_eq] at hsk
    split at h
    · intro H locs ls hR hS hL hct hst hlo
      subst hct
      exact lv_ifnonnullN hx hb hd (hgo _ _ _ _ h H locs ls hR hS hL rfl (sv_t1 hst) hlo)
    · intro H locs ls hR hS hL hct hst hlo
      subst hct
      exact lv_ifnonnull hx hb hd hsk (hgo _ _ _ _ h H locs ls hR hS hL rfl (sv_t1 hst) hlo)
    · cases h
  case tableswitch d lw hg offs =>
    simp only [sv_i] at h
    simp only [sv_sk, Bool.and_eq_true, decide_eq_true_eq] at hsk
    obtain ⟨⟨hq1, hq2⟩, hq3⟩ := hsk
    split at h
    · intro H locs ls hR hS hL hct hst hlo
      subst hct
      rcases sv_tk1_spec _ _ _ hq3 h with ⟨g1, g2⟩ | ⟨o, t, g1, g2, g3, g4, g5⟩
      · exact lv_tableOut hx hb hd (by omega) hq2 (hgo _ _ _ _ g1 H locs ls hR hS hL rfl (sv_t1 hst) hlo)
      · refine lv_tableIn hx hb hd (by omega) (by omega) ?_ g3 (hgo _ _ _ _ g5 H locs ls hR hS hL rfl (sv_t1 hst) hlo)
        rw [← Array.getElem?_toList]; exact g2
    · cases h
  case lookupswitch d ps =>
    simp only [sv_i] at h
    simp only [sv_sk, Bool.and_eq_true, decide_eq_true_eq] at hsk
    obtain ⟨⟨hq1, hq2⟩, hq3⟩ := hsk
    split at h
    · intro H locs ls hR hS hL hct hst hlo
      subst hct
      obtain ⟨t, g1, g2⟩ := sv_tk2_spec hq2 _ _ hq3 h
      exact lv_lookup hx hb hd hq1 rfl g1 (hgo _ _ _ _ g2 H locs ls hR hS hL rfl (sv_t1 hst) hlo)
    · cases h
  case getfield idx =>
    obtain rfl : 3 = len := hlen.resolve_left (fun q => absurd q (Nat.succ_ne_zero _))
    have hnx : nx = pc + 3 := hnx
    subst hnx
    simp only [sv_i] at h
    split at h
    · rename_i c0 k0 r j st' hE
      split at h
      · rename_i c' hkd
        cases hbeq : Nat.beq c' c0 with
        | false => rw [hbeq] at h; cases h
        | true =>
          rw [hbeq] at h
          simp only [cond_true] at h
          have hc' := Nat.eq_of_beq_eq_true hbeq
          subst hc'
          have hf := hE1 _ _ hE
          intro H locs ls hR hS hL hct hst hlo
          subst hct
          have hlv : sv_lv (sv_ct σ) r j := hst _ List.mem_cons_self
          have hkN : k0 < sv_nf c' := by
            obtain ⟨q, hq, hk, -⟩ := hf
            rw [← (hck _ _ hq).1]; exact hk
          refine sv_get hx hb hts hown hK hR hlv hkd (hck c') hf hd ?_
          split at h
          · rename_i r' j' hfr
            have e : sv_df c' j k0 (σ r j k0) = sv_R r' j' := by unfold sv_df; rw [hfr]
            rw [e]
            exact hgo _ _ _ _ h H locs ls hR hS hL rfl (sv_cs (sv_fr_ok hkN hlv hkd hfr) (sv_t1 hst)) hlo
          · rename_i hfr
            have e : sv_df c' j k0 (σ r j k0) = .inl (σ r j k0) := by unfold sv_df; rw [hfr]
            rw [e]
            exact hgo _ _ _ _ h H locs ls hR hS hL rfl (sv_cs trivial (sv_t1 hst)) hlo
      · cases h
    · cases h
  case putfield idx =>
    obtain rfl : 3 = len := hlen.resolve_left (fun q => absurd q (Nat.succ_ne_zero _))
    have hnx : nx = pc + 3 := hnx
    subst hnx
    simp only [sv_i] at h
    split at h
    · rename_i c0 k0 n r j st' hE
      split at h
      · rename_i c' hkd
        cases hbeq : Nat.beq c' c0 with
        | false => rw [hbeq] at h; cases h
        | true =>
          rw [hbeq] at h
          simp only [cond_true] at h
          have hc' := Nat.eq_of_beq_eq_true hbeq
          subst hc'
          have hf := hE1 _ _ hE
          intro H locs ls hR hS hL hct hst hlo
          subst hct
          have hst1 := sv_t1 hst
          have hlv : sv_lv (sv_ct σ) r j := hst1 _ List.mem_cons_self
          have hft : (sv_ft c' k0 = 0 ∨ sv_ft c' k0 = 1 ∧ (n = 0 ∨ n = 1)) ∧ go (pc + 3) lo st' (sv_up σ r j k0 n) = some res := by
            split at h
            · rename_i q; exact ⟨Or.inl q, h⟩
            · rename_i q; obtain ⟨h1, h2⟩ := sv_g_some h; exact ⟨Or.inr ⟨q, h1⟩, h2⟩
            · cases h
          obtain ⟨hft, h⟩ := hft
          have h9 : c' ≠ 9 := by rintro rfl; simp [sv_ft] at hft
          have h18 : r ≠ 18 := by rintro rfl; simp [sv_kd] at hkd; exact h9 hkd.symm
          have h22 : r ≠ 22 := by rintro rfl; simp [sv_kd] at hkd
          have hfr : sv_fr c' j k0 = none := sv_ft_fr (by rcases hft with h | h; exact Or.inl h; exact Or.inr h.1)
          refine sv_put hx hb hts hown hK hR hS hlv hkd (hck c') hf hfr h18 h22 hft hd (fun H1 locs1 hR1 hS1 => ?_)
          have hct : sv_ct (sv_up σ r j k0 n) = sv_ct σ := sv_ct_up h22
          exact hgo _ _ _ _ h H1 locs1 ls hR1 hS1 hL hct (sv_t1 hst1) hlo
      · cases h
    · cases h
  case getstatic idx =>
    obtain rfl : 3 = len := hlen.resolve_left (fun q => absurd q (Nat.succ_ne_zero _))
    have hnx : nx = pc + 3 := hnx
    subst hnx
    simp only [sv_i] at h
    cases hg : E.2.2.1 idx with
    | false => rw [hg] at h; cases h
    | true =>
      rw [hg] at h
      simp only [cond_true] at h
      intro H locs ls hR hS hL hct hst hlo
      subst hct
      exact va_gets hx hb hZ hS hown (hts _ (hE3 _ hg)) (fun _ h9 => h9) hd (hgo _ _ _ _ h H locs ls hR hS hL rfl (sv_cs ⟨Nat.zero_lt_one, by simp⟩ hst) hlo)
  case arraylength =>
    obtain rfl : 1 = len := hlen.resolve_left (fun q => absurd q (Nat.succ_ne_zero _))
    have hnx : nx = pc + 1 := hnx
    subst hnx
    simp only [sv_i] at h
    split at h
    · rename_i r j st'
      split at h
      · rename_i t hkd
        cases hble : Nat.ble t 6 with
        | false => rw [hble] at h; cases h
        | true =>
          rw [hble] at h
          simp only [cond_true] at h
          have ht := Nat.le_of_ble_eq_true hble
          intro H locs ls hR hS hL hct hst hlo
          subst hct
          have hlv : sv_lv (sv_ct σ) r j := hst _ List.mem_cons_self
          have hgo' := hgo _ _ _ _ h H locs ls hR hS hL rfl (sv_cs trivial (sv_t1 hst)) hlo
          by_cases ht6 : t = 6
          · subst ht6
            have hr : r = 21 := sv_kd6 hkd
            subst hr
            have hj : j = 0 := by have := hlv.1; simp [sv_nb] at this; exact this
            subst hj
            obtain ⟨cell, c1, c2, c3, c4, c5, c6, c7⟩ := hT
            exact W.alen (ty := .int) hx hb (by rw [hS.2.1 _ (Array.getElem?_eq_some_iff.mp c1).1 c7]; exact c1) c2 c5 rfl rfl hd hgo'
          · have ht5 : t < 6 := by omega
            obtain ⟨ty, hty⟩ := sv_tys_at cA ht5
            exact sv_alen hx hb hK hR hlv hkd ht5 hty hd hgo'
      · cases h
    · cases h
  case iaload =>
    obtain rfl : 1 = len := hlen.resolve_left (fun q => absurd q (Nat.succ_ne_zero _))
    have hnx : nx = pc + 1 := hnx
    subst hnx
    simp only [sv_i] at h
    split at h
    · rename_i x r j st'
      split at h
      · rename_i hkd
        obtain ⟨hin, h⟩ := sv_g_some h
        intro H locs ls hR hS hL hct hst hlo
        subst hct
        exact sv_iald hx hb hK hR (sv_t1 hst _ List.mem_cons_self) hkd hin hd (hgo _ _ _ _ h H locs ls hR hS hL rfl (sv_cs trivial (sv_t1 (sv_t1 hst))) hlo)
      · rename_i hkd
        obtain ⟨hin, h⟩ := sv_g_some h
        intro H locs ls hR hS hL hct hst hlo
        subst hct
        have hlv : sv_lv (sv_ct σ) r j := sv_t1 hst _ List.mem_cons_self
        have hr : r = 21 := sv_kd6 hkd
        subst hr
        have hj : j = 0 := by have := hlv.1; simp [sv_nb] at this; exact this
        subst hj
        obtain ⟨cell, c1, c2, c3, c4, c5, c6, c7⟩ := hT
        refine W.iald (v := .int (sv_ab x.toNatClampNeg)) hx hb (by rw [hS.2.1 _ (Array.getElem?_eq_some_iff.mp c1).1 c7]; exact c1) c2 c3 ?_ (c6 _ (sv_int hin)) rfl rfl hd (hgo _ _ _ _ h H locs ls hR hS hL rfl (sv_cs trivial (sv_t1 (sv_t1 hst))) hlo)
        have h3 := sv_inv hin
        have h4 := sv_int hin
        intro h5
        rcases h5 with h5 | h5
        · exact h3 (Or.inl h5)
        · omega
      · cases h
    · cases h
  case iastore =>
    obtain rfl : 1 = len := hlen.resolve_left (fun q => absurd q (Nat.succ_ne_zero _))
    have hnx : nx = pc + 1 := hnx
    subst hnx
    simp only [sv_i] at h
    split at h
    · rename_i n x r j st'
      split at h
      · rename_i hkd
        obtain ⟨hin, h⟩ := sv_g_some h
        intro H locs ls hR hS hL hct hst hlo
        subst hct
        have hst2 := sv_t1 (sv_t1 hst)
        refine sv_iast hx hb hK hR hS (hst2 _ List.mem_cons_self) hkd hin hd (fun H1 locs1 hR1 hS1 => ?_)
        have hct : sv_ct (sv_up σ r j x.toNatClampNeg n) = sv_ct σ := sv_ct_up (sv_no18 hkd (by decide)).2
        exact hgo _ _ _ _ h H1 locs1 ls hR1 hS1 hL hct (sv_t1 hst2) hlo
      · cases h
    · cases h
  case baload =>
    obtain rfl : 1 = len := hlen.resolve_left (fun q => absurd q (Nat.succ_ne_zero _))
    have hnx : nx = pc + 1 := hnx
    subst hnx
    simp only [sv_i] at h
    split at h
    · rename_i x r j st'
      split at h
      · rename_i hkd
        obtain ⟨hin, h⟩ := sv_g_some h
        intro H locs ls hR hS hL hct hst hlo
        subst hct
        exact sv_bald hx hb hK hR (sv_t1 hst _ List.mem_cons_self) hkd hin hd (hgo _ _ _ _ h H locs ls hR hS hL rfl (sv_cs trivial (sv_t1 (sv_t1 hst))) hlo)
      · cases h
    · cases h
  case bastore =>
    obtain rfl : 1 = len := hlen.resolve_left (fun q => absurd q (Nat.succ_ne_zero _))
    have hnx : nx = pc + 1 := hnx
    subst hnx
    simp only [sv_i] at h
    split at h
    · rename_i n x r j st'
      split at h
      · rename_i hkd
        obtain ⟨hin, h⟩ := sv_g_some h
        intro H locs ls hR hS hL hct hst hlo
        subst hct
        have hst2 := sv_t1 (sv_t1 hst)
        refine sv_bast hx hb hK hR hS (hst2 _ List.mem_cons_self) hkd hin hd (fun H1 locs1 hR1 hS1 => ?_)
        have hct : sv_ct (sv_up σ r j x.toNatClampNeg n.toInt8.toInt32) = sv_ct σ := sv_ct_up (sv_no18 hkd (by decide)).2
        exact hgo _ _ _ _ h H1 locs1 ls hR1 hS1 hL hct (sv_t1 hst2) hlo
      · cases h
    · cases h
  case aaload =>
    obtain rfl : 1 = len := hlen.resolve_left (fun q => absurd q (Nat.succ_ne_zero _))
    have hnx : nx = pc + 1 := hnx
    subst hnx
    simp only [sv_i] at h
    split at h
    · rename_i x r j st'
      split at h
      · rename_i hkd
        obtain ⟨hin, h⟩ := sv_g_some h
        intro H locs ls hR hS hL hct hst hlo
        subst hct
        have hlv : sv_lv (sv_ct σ) r j := sv_t1 hst _ List.mem_cons_self
        exact sv_aald hx hb hK hR hlv hkd (by decide) rfl hin hd (hgo _ _ _ _ h H locs ls hR hS hL rfl (sv_cs (sv_ar_ok2 hlv hkd (sv_int hin)) (sv_t1 (sv_t1 hst))) hlo)
      · rename_i hkd
        obtain ⟨hin, h⟩ := sv_g_some h
        intro H locs ls hR hS hL hct hst hlo
        subst hct
        have hlv : sv_lv (sv_ct σ) r j := sv_t1 hst _ List.mem_cons_self
        refine sv_aald hx hb hK hR hlv hkd (by decide) rfl hin hd ?_
        show W p l e R s m args below meth c H locs cells slots Q (F0 m (pc + 1) ls (sv_c ad (sv_tx (σ r j x.toNatClampNeg) sv_N (fun t => sv_R 18 t)) :: List.map (sv_c ad) st'))
        unfold sv_tx at h ⊢
        rcases sv_if_some h with ⟨h0, h⟩ | ⟨h0, h⟩
        · rw [sv_if_t h0]
          exact hgo _ _ _ _ h H locs ls hR hS hL rfl (sv_cs trivial (sv_t1 (sv_t1 hst))) hlo
        · rw [sv_if_f h0]
          obtain ⟨hlt, h⟩ := sv_g_some h
          exact hgo _ _ _ _ h H locs ls hR hS hL rfl (sv_cs ⟨hlt, by simp⟩ (sv_t1 (sv_t1 hst))) hlo
      · rename_i hkd
        obtain ⟨hin, h⟩ := sv_g_some h
        intro H locs ls hR hS hL hct hst hlo
        subst hct
        have hlv : sv_lv (sv_ct σ) r j := sv_t1 hst _ List.mem_cons_self
        exact sv_aald hx hb hK hR hlv hkd (by decide) rfl hin hd (hgo _ _ _ _ h H locs ls hR hS hL rfl (sv_cs (sv_ar_ok4 hlv hkd (sv_int hin)) (sv_t1 (sv_t1 hst))) hlo)
      · rename_i hkd
        obtain ⟨hin, h⟩ := sv_g_some h
        intro H locs ls hR hS hL hct hst hlo
        subst hct
        have hlv : sv_lv (sv_ct σ) r j := sv_t1 hst _ List.mem_cons_self
        exact sv_aald hx hb hK hR hlv hkd (by decide) rfl hin hd (hgo _ _ _ _ h H locs ls hR hS hL rfl (sv_cs (sv_ar_ok5 hlv hkd (sv_int hin)) (sv_t1 (sv_t1 hst))) hlo)
      · cases h
    · cases h
  case aastore =>
    obtain rfl : 1 = len := hlen.resolve_left (fun q => absurd q (Nat.succ_ne_zero _))
    have hnx : nx = pc + 1 := hnx
    subst hnx
    simp only [sv_i] at h
    split at h
    · rename_i x r j st'
      split at h
      · rename_i hkd
        obtain ⟨hin, h⟩ := sv_g_some h
        intro H locs ls hR hS hL hct hst hlo
        subst hct
        have hst2 := sv_t1 (sv_t1 hst)
        refine sv_aastN hx hb hK hR hS (hst2 _ List.mem_cons_self) hkd hin hd (fun H1 locs1 hR1 hS1 => ?_)
        have hct : sv_ct (sv_up σ r j x.toNatClampNeg 0) = sv_ct σ := sv_ct_up (sv_no18 hkd (by decide)).2
        exact hgo _ _ _ _ h H1 locs1 ls hR1 hS1 hL hct (sv_t1 hst2) hlo
      · cases h
    · rename_i t x r j st'
      split at h
      · rename_i hkd
        obtain ⟨hin, h⟩ := sv_g_some h
        intro H locs ls hR hS hL hct hst hlo
        subst hct
        have hst2 := sv_t1 (sv_t1 hst)
        refine sv_aastT hx hb hK hR hS (hst2 _ List.mem_cons_self) hkd (hst _ List.mem_cons_self) hin hd (fun H1 locs1 hR1 hS1 => ?_)
        have hct : sv_ct (sv_up σ r j x.toNatClampNeg (nI (t + 1))) = sv_ct σ := sv_ct_up (sv_no18 hkd (by decide)).2
        exact hgo _ _ _ _ h H1 locs1 ls hR1 hS1 hL hct (sv_t1 hst2) hlo
      · cases h
    · cases h
  case invokevirtual idx =>
    obtain rfl : 3 = len := hlen.resolve_left (fun q => absurd q (Nat.succ_ne_zero _))
    have hnx : nx = pc + 3 := hnx
    subst hnx
    simp only [sv_i] at h
    exact sv_cl_ok hE4 hgo h
  case invokestatic idx =>
    obtain rfl : 3 = len := hlen.resolve_left (fun q => absurd q (Nat.succ_ne_zero _))
    have hnx : nx = pc + 3 := hnx
    subst hnx
    simp only [sv_i] at h
    exact sv_cl_ok hE4 hgo h
  case invokespecial idx =>
    obtain rfl : 3 = len := hlen.resolve_left (fun q => absurd q (Nat.succ_ne_zero _))
    have hnx : nx = pc + 3 := hnx
    subst hnx
    simp only [sv_i] at h
    exact sv_cl_ok hE4 hgo h
  case ireturn =>
    obtain rfl : 1 = len := hlen.resolve_left (fun q => absurd q (Nat.succ_ne_zero _))
    have hnx : nx = pc + 1 := hnx
    subst hnx
    simp only [sv_i] at h
    split at h
    · exact hrI _ _ _ _ hd h
    · cases h
  case areturn =>
    obtain rfl : 1 = len := hlen.resolve_left (fun q => absurd q (Nat.succ_ne_zero _))
    have hnx : nx = pc + 1 := hnx
    subst hnx
    simp only [sv_i] at h
    split at h
    · exact hrA _ _ _ _ hd (Or.inl rfl) h
    · exact hrA _ _ _ _ hd (Or.inr ⟨_, _, rfl⟩) h
    · cases h
  case return_ =>
    obtain rfl : 1 = len := hlen.resolve_left (fun q => absurd q (Nat.succ_ne_zero _))
    have hnx : nx = pc + 1 := hnx
    subst hnx
    simp only [sv_i] at h
    split at h
    · exact hrV _ _ _ hd h
    · cases h
  all_goals (simp only [sv_i] at h; cases h)
/-- a run -/
theorem sv_ex_ok (hx : p.tables.exec = Jvm.exec) (hb : c.code = cc) (hts : ∀ w ∈ gw_tbl, w.before args s = true) (hown : s.vm.findClass own = some m.cls) (hkn : sv_kn base ad dC dI cA s) (hck : ∀ ci q, vwCl[ci]? = some q → sv_ck ci q)
    {E : sv_E} (hE1 : ∀ idx q, E.1 idx = some q → sv_fk own idx q.1 q.2) (hE2 : ∀ idx v, E.2.1 idx = some v → sv_1k own idx v) (hE3 : ∀ idx, E.2.2.1 idx = true → Cond.fieldLink own idx "OneStroke" "ABOVE" "[I" ∈ gw_tbl) (hE4 : ∀ pc n f, E.2.2.2.2 pc = some (n, f) → sv_cok p l e R s m args below meth c cells slots Q base ad dC dI cA E.2.2.2.1 nL n0 pc n f)
    {β : Type} {rt : sv_V → sv_S → Option β} {res : β}
    (hrI : ∀ pc lo n σ, decode cc pc = .ok (.ireturn, 1) → rt (.inl n) σ = some res → sv_Wt p l e R s m args below meth c cells slots Q base ad dC dI cA E.2.2.2.1 nL n0 pc lo [.inl n] σ)
    (hrA : ∀ pc lo v σ, decode cc pc = .ok (.areturn, 1) → (v = sv_N ∨ ∃ r i, v = sv_R r i) → rt v σ = some res → sv_Wt p l e R s m args below meth c cells slots Q base ad dC dI cA E.2.2.2.1 nL n0 pc lo [v] σ)
    (hrV : ∀ pc lo σ, decode cc pc = .ok (.return_, 1) → rt (sv_L 0) σ = some res → sv_Wt p l e R s m args below meth c cells slots Q base ad dC dI cA E.2.2.2.1 nL n0 pc lo [] σ)
    {cd : sv_C} (hD : cd.all (sv_dk cc) = true) {K : sv_K β} (hK : ∀ pc k, K pc = some k → ∀ lo st σ, k lo st σ = some res → sv_Wt p l e R s m args below meth c cells slots Q base ad dC dI cA E.2.2.2.1 nL n0 pc lo st σ) :
    ∀ (n pc : Nat) (lo : sv_Lo) (st : List sv_V) (σ : sv_S), sv_ex E rt K cd n pc lo st σ = some res → sv_Wt p l e R s m args below meth c cells slots Q base ad dC dI cA E.2.2.2.1 nL n0 pc lo st σ := by
  have hat : ∀ (cd : sv_C) (pc : Nat) (w : sv_W), sv_at pc cd = some w → (pc, w) ∈ cd := by
    intro cd
    induction cd with
    | nil => intro pc w h; cases h
    | cons q cd ih =>
      intro pc w h
      simp only [sv_at] at h
      cases hq : Nat.beq pc q.1 with
      | true =>
        rw [hq] at h
        simp only [cond_true, Option.some.injEq] at h
        have := Nat.eq_of_beq_eq_true hq
        subst this
        subst h
        exact List.mem_cons_self
      | false =>
        rw [hq] at h
        exact List.mem_cons_of_mem _ (ih pc w h)
  intro n
  induction n with
  | zero => intro pc lo st σ h; cases h
  | succ n ih =>
    intro pc lo st σ h
    simp only [sv_ex] at h
    split at h
    · cases h
    · rename_i ins cv nx tg sw hw
      have hd := List.all_eq_true.mp hD _ (hat _ _ _ hw)
      refine sv_i_ok hx hb hts hown hkn hck hE1 hE2 hE3 hE4 hrI hrA hrV hd (fun pc lo st σ h => ?_) h
      split at h
      · rename_i k hk
        exact hK _ _ hk _ _ _ h
      · exact ih _ _ _ _ h
end SVI
end
section
/-! ===== contracts of methods by their functions; calls ===== -/
def sv_ws (y : MethodName) (b : ByteArray) (n : Nat) (ret : Option FieldType) : List Cond := .code y b n ret :: gw_tbl
def sv_rm (h : Nat) : Room := { frames := h, cells := 0, slots := 0, locals := 64 * h }
def sv_Pc (base : Nat) (ad : Nat → Nat → Nat) (dC : Nat → ClassId) (dI : Nat → Nat → Nat) (cA : Nat → ClassId) (as : List sv_V) (σ : sv_S) : Array Value → State → Prop := fun v U => v = (as.map (sv_c ad)).toArray ∧ sv_kn base ad dC dI cA U ∧ sv_rep base ad dC dI cA σ U.heap
def sv_Qc (base : Nat) (ad : Nat → Nat → Nat) (dC : Nat → ClassId) (dI : Nat → Nat → Nat) (cA : Nat → ClassId) (n0 : Nat) (r : Option sv_V) (σ' : sv_S) : Array Value → State → Outcome → State → Prop := fun _ st oc t => oc = .returned (r.map (sv_c ad)) ∧ sv_rep base ad dC dI cA σ' t.heap ∧ va_F (fun q => base ≤ q) st t ∧ (∀ v, r = some v → sv_ok n0 v) ∧ sv_ct σ' = n0
abbrev sv_D : Type := List sv_V → sv_S → Option (Option sv_V × sv_S)
/-- the contract of a method whose function is G, at height h -/
def sv_M (l : Launch) (y : MethodName) (b : ByteArray) (n : Nat) (ret : Option FieldType) (G : sv_D) (h : Nat) : Prop :=
  ∀ (base : Nat) (ad : Nat → Nat → Nat) (dC : Nat → ClassId) (dI : Nat → Nat → Nat) (cA : Nat → ClassId) (as : List sv_V) (σ : sv_S) (r : Option sv_V) (σ' : sv_S), G as σ = some (r, σ') → (∀ v ∈ as, sv_ok (sv_ct σ) v) →
    Met l y (sv_ws y b n ret) (sv_rm h) (sv_Pc base ad dC dI cA as σ) (sv_Qc base ad dC dI cA (sv_ct σ) r σ') 0 0 (fun q => base ≤ q)
noncomputable def sv_gI (F : List sv_V → sv_S → Option (Int32 × sv_S)) : sv_D := fun as σ => sv_b (F as σ) (fun v σ => some (some (.inl v), σ))
noncomputable def sv_gV (F : List sv_V → sv_S → Option sv_S) : sv_D := fun as σ => sv_b0 (F as σ) (fun σ => some (none, σ))
noncomputable def sv_gR (q : Nat) (F : List sv_V → sv_S → Option (Nat × sv_S)) : sv_D := fun as σ => sv_b (F as σ) (fun i σ => some (some (sv_R q i), σ))
noncomputable def sv_gT (F : List sv_V → sv_S → Option (Option Nat × sv_S)) : sv_D := fun as σ => sv_bT (F as σ) (fun σ => some (some sv_N, σ)) (fun t σ => some (some (sv_R 18 t), σ))
theorem sv_blind {base : Nat} {ad : Nat → Nat → Nat} {dC : Nat → ClassId} {dI : Nat → Nat → Nat} {cA : Nat → ClassId} {as : List sv_V} {σ : sv_S} : FrameBlind (sv_Pc base ad dC dI cA as σ) :=
  fun _ _ _ _ h => ⟨h.1, h.2.1.same rfl rfl, h.2.2⟩
theorem gw_goodIn {ws : List Cond} (h : ∀ w ∈ ws, w ∈ gw_tbl) : GoodIn gw_tbl ws := fun w hw => ⟨h w hw, gw_good w (h w hw)⟩
theorem sv_ws_in {y : MethodName} {b : ByteArray} {n : Nat} {ret : Option FieldType} (h : Cond.code y b n ret ∈ gw_tbl) : ∀ w ∈ sv_ws y b n ret, w ∈ gw_tbl := List.forall_mem_cons.mpr ⟨h, fun _ q => q⟩
theorem sv_cat2 (v : Value) : v.category ≤ 2 := by rcases lv_cat v with h | h <;> omega
theorem sv_sm8 {ad : Nat → Nat → Nat} {rest : List sv_V} (h : sv_sm rest = true) : ((rest.map (sv_c ad)).map fun v => v.category).sum ≤ 8 := by
  match rest, h with
  | [], _ => simp
  | [a], _ => have := sv_cat2 (sv_c ad a); simp; omega
  | [a, b], _ => have := sv_cat2 (sv_c ad a); have := sv_cat2 (sv_c ad b); simp; omega
  | [a, b, c], _ => have := sv_cat2 (sv_c ad a); have := sv_cat2 (sv_c ad b); have := sv_cat2 (sv_c ad c); simp; omega
  | [a, b, c, d], _ => have := sv_cat2 (sv_c ad a); have := sv_cat2 (sv_c ad b); have := sv_cat2 (sv_c ad c); have := sv_cat2 (sv_c ad d); simp; omega
section SVK
variable {p : Program} {l : Launch} {e : Env} {R : Room} {s : State} {m : MethodId} {args : Array Value} {below : List Frame} {meth : Method} {c : Code} {cells slots : Nat} {Q : State → Prop}
variable {cc : ByteArray} {base : Nat} {ad : Nat → Nat → Nat} {dC : Nat → ClassId} {dI : Nat → Nat → Nat} {cA : Nat → ClassId} {own : String} {nL n0 : Nat} {nl : Bool}
def sv_cg (p : Program) (l : Launch) (e : Env) (R : Room) (s : State) (m : MethodId) (args : Array Value) (below : List Frame) (meth : Method) (c : Code) (cells slots : Nat) (Q : State → Prop) (base : Nat) (ad : Nat → Nat → Nat) (dC : Nat → ClassId) (dI : Nat → Nat → Nat) (cA : Nat → ClassId) (nl : Bool) (nL n0 : Nat) (pc n : Nat) (G : sv_D) : Prop :=
  ∀ (as rest : List sv_V) (lo : sv_Lo) (σ : sv_S) (r : Option sv_V) (σ' : sv_S), as.length = n → sv_sm rest = true → G as σ = some (r, σ') → sv_Wt p l e R s m args below meth c cells slots Q base ad dC dI cA nl nL n0 (pc + 3) lo (r.toList ++ rest) σ' → sv_Wt p l e R s m args below meth c cells slots Q base ad dC dI cA nl nL n0 pc lo (as.reverse ++ rest) σ
theorem sv_cg.I {pc n : Nat} {F : List sv_V → sv_S → Option (Int32 × sv_S)} (h : sv_cg p l e R s m args below meth c cells slots Q base ad dC dI cA nl nL n0 pc n (sv_gI F)) : sv_cok p l e R s m args below meth c cells slots Q base ad dC dI cA nl nL n0 pc n (.inl F) :=
  fun as rest lo σ hn hs v σ' hF hW => h as rest lo σ (some (.inl v)) σ' hn hs (by unfold sv_gI; rw [hF]; rfl) hW
theorem sv_cg.V {pc n : Nat} {F : List sv_V → sv_S → Option sv_S} (h : sv_cg p l e R s m args below meth c cells slots Q base ad dC dI cA nl nL n0 pc n (sv_gV F)) : sv_cok p l e R s m args below meth c cells slots Q base ad dC dI cA nl nL n0 pc n (.inr (.inl F)) :=
  fun as rest lo σ hn hs σ' hF hW => h as rest lo σ none σ' hn hs (by unfold sv_gV; rw [hF]; rfl) hW
theorem sv_cg.Rf {pc n q : Nat} {F : List sv_V → sv_S → Option (Nat × sv_S)} (h : sv_cg p l e R s m args below meth c cells slots Q base ad dC dI cA nl nL n0 pc n (sv_gR q F)) : sv_cok p l e R s m args below meth c cells slots Q base ad dC dI cA nl nL n0 pc n (.inr (.inr (.inl (q, F)))) :=
  fun as rest lo σ hn hs i σ' hF hW => h as rest lo σ (some (sv_R q i)) σ' hn hs (by unfold sv_gR; rw [show F as σ = some (i, σ') from hF]; rfl) hW
theorem sv_cg.T {pc n : Nat} {F : List sv_V → sv_S → Option (Option Nat × sv_S)} (h : sv_cg p l e R s m args below meth c cells slots Q base ad dC dI cA nl nL n0 pc n (sv_gT F)) : sv_cok p l e R s m args below meth c cells slots Q base ad dC dI cA nl nL n0 pc n (.inr (.inr (.inr F))) :=
  fun as rest lo σ hn hs => ⟨fun σ' hF hW => h as rest lo σ (some sv_N) σ' hn hs (by unfold sv_gT; rw [hF]; rfl) hW, fun t σ' hF hW => h as rest lo σ (some (sv_R 18 t)) σ' hn hs (by unfold sv_gT; rw [hF]; rfl) hW⟩
theorem sv_after {H : Heap} {locs : List Loc} {pc : Nat} {ls : Array Slot} {st0 rest : List Value} {a : Array Value} {r : Option sv_V} {σ' : sv_S} (hr : va_Run p l e R s m args below meth c H locs cells slots 0 0 (F0 m pc ls st0) rest (sv_Qc base ad dC dI cA n0 r σ' a) (fun q => base ≤ q)) (hS : va_S (fun q => base ≤ q) s.heap H locs)
    (kk : ∀ (H1 : Heap) (locs1 : List Loc), sv_rep base ad dC dI cA σ' H1 → va_S (fun q => base ≤ q) s.heap H1 locs1 → (∀ v, r = some v → sv_ok n0 v) → sv_ct σ' = n0 → W p l e R s m args below meth c H1 locs1 cells slots Q (F0 m (pc + 3) ls ((r.map (sv_c ad)).toList ++ rest))) : W p l e R s m args below meth c H locs cells slots Q (F0 m pc ls st0) := by
  intro T hT X
  obtain ⟨v, st₀, t, T', L, h0, X', hL, e1, e2, ⟨hv, hrep, ⟨hz, hk⟩, hok, hct⟩, st⟩ := hr T hT X
  cases hv
  rw [h0] at hz hk
  obtain ⟨t2, a1, b1⟩ := kk T'.heap (locs ++ L) (by rw [e1]; exact hrep)
    ⟨Nat.le_trans hS.1 (by rw [e1]; exact hz), fun q h1 h2 => by rw [e1, hk q (Nat.lt_of_lt_of_le h1 hS.1) h2]; exact hS.2.1 q h1 h2, fun q hq => by
      rcases List.mem_append.mp hq with h | h
      · exact hS.2.2 q h
      · exact hL q h⟩ hok hct T' rfl X'
  exact ⟨t2, st t2 a1, b1⟩
/-- behind a call: the rest of the frame is as it was -/
theorem sv_goOn {H : Heap} {locs : List Loc} {pc : Nat} {ls : Array Slot} {lo : sv_Lo} {as rest : List sv_V} {a : Array Value} {st0 : List Value} {r : Option sv_V} {σ' : sv_S} (hr : va_Run p l e R s m args below meth c H locs cells slots 0 0 (F0 m pc ls st0) (rest.map (sv_c ad)) (sv_Qc base ad dC dI cA n0 r σ' a) (fun q => base ≤ q)) (hS : va_S (fun q => base ≤ q) s.heap H locs) (hL : sv_lh ad ls nL lo) (hst : ∀ v ∈ as.reverse ++ rest, sv_ok n0 v) (hlo : ∀ i v, sv_ga lo i = some v → sv_ok n0 v ∧ (nl = true → sv_1 v))
    (hW : sv_Wt p l e R s m args below meth c cells slots Q base ad dC dI cA nl nL n0 (pc + 3) lo (r.toList ++ rest) σ') : W p l e R s m args below meth c H locs cells slots Q (F0 m pc ls st0) := by
  refine sv_after hr hS (fun H1 locs1 hR1 hS1 hok hct => ?_)
  have h := hW H1 locs1 ls hR1 hS1 hL hct (fun v hv => ?_) hlo
  · rw [List.map_append] at h
    have e : List.map (sv_c ad) r.toList = (r.map (sv_c ad)).toList := by cases r <;> rfl
    rw [e] at h
    exact h
  · rcases List.mem_append.mp hv with q | q
    · cases r with
      | none => cases q
      | some w => rw [List.mem_singleton.mp q]; exact hok w rfl
    · exact hst v (List.mem_append_right _ q)
theorem sv_pre {H : Heap} {locs : List Loc} {σ : sv_S} {as : List sv_V} (hkn : sv_kn base ad dC dI cA s) (hR : sv_rep base ad dC dI cA σ H) (hS : va_S (fun q => base ≤ q) s.heap H locs) {As : List Value} (hA : As = as.map (sv_c ad)) : ∀ U : State, U.heap = H → s.WarmedH U.vm → sv_Pc base ad dC dI cA as σ As.toArray U :=
  fun U hU hW => ⟨by rw [hA], hkn.go hW (fun a h1 h2 => by rw [hU]; exact hS.2.1 a h1 h2), by rw [hU]; exact hR⟩
/-- a static method -/
theorem sv_cS (S : CallFix p m c cc nL s args gw_tbl own) (hkn : sv_kn base ad dC dI cA s) {y : MethodName} {b : ByteArray} {mL h n idx pc : Nat} {ret : Option FieldType} {G : sv_D} (hM : sv_M l y b mL ret G h) (hR : h + 1 ≤ R.frames ∧ 64 * (h + 1) ≤ R.locals) (hmL : mL ≤ 45) (hf : cells ≤ R.cells ∧ slots ≤ R.slots)
    (hw : ∀ w ∈ [Cond.methodLink own idx y, Cond.static y, Cond.initialized y.cls, Cond.code y b mL ret], w ∈ gw_tbl) (hd : y.cls ≠ "java/lang/invoke/MethodHandle" ∧ y.cls ≠ "java/lang/invoke/VarHandle" ∧ (parseMethodDescriptor y.desc).map (fun d => d.parameters.length) = some n) (hdg : decode cc pc = .ok (.invokestatic idx, 3)) :
    sv_cg p l e R s m args below meth c cells slots Q base ad dC dI cA nl nL n0 pc n G := by
  intro as rest lo σ r σ' hn hsm hG hWt H locs ls hRp hS hL hct hst hlo
  subst hct
  have has : ∀ v ∈ as, sv_ok (sv_ct σ) v := fun v hv => hst v (List.mem_append_left _ (List.mem_reverse.mpr hv))
  have hgood : GoodIn gw_tbl (va_wsS own idx y (sv_ws y b mL ret)) := gw_goodIn (fun w h => by
    unfold va_wsS at h
    rcases List.mem_append.mp h with h | h
    · exact hw w (by simp only [List.mem_cons, List.not_mem_nil, or_false] at h ⊢; rcases h with h | h | h <;> simp [h])
    · exact sv_ws_in (hw _ (by simp)) w h)
  refine sv_goOn (rest := rest) (va_runS (As := as.map (sv_c ad)) S (hM base ad dC dI cA as σ r σ' hG has) (va_cwS n S.2.2.2.2 hgood rfl rfl rfl hd ⟨hR.1, ?_⟩) ⟨sv_blind, sv_pre hkn hRp hS rfl⟩ rfl (by rw [List.length_map]; exact hn) hL.2.1 (by simp [List.map_append, List.map_reverse]) (lv_room (sv_sm8 hsm)) hdg hf) hS hL hst hlo hWt
  show 8 + (mL + 11) + 64 * h ≤ R.locals
  omega
/-- the receiver -/
theorem sv_recv {H : Heap} {σ : sv_S} {r i ci : Nat} {q : vw_C} (hkn : sv_kn base ad dC dI cA s) (hR : sv_rep base ad dC dI cA σ H) (hl : sv_lv (sv_ct σ) r i) (hk : sv_kd r i = .inl ci) (hq : vwCl[ci]? = some q) : ∃ cellB : Cell, H[ad r i]? = some cellB ∧ cellB.vm.isStatics = false ∧ s.vm.findClass q.1 = some cellB.cls := by
  obtain ⟨cell, q1, q2, q3, -⟩ := (hR.1 r i hl (sv_my_obj hk)).2.ob hk
  exact ⟨cell, q1, by rw [q3]; rfl, by rw [q2]; exact (hkn.1.1 ci q hq).2.1⟩
/-- a method of the receiver's class -/
theorem sv_cV (S : CallFix p m c cc nL s args gw_tbl own) (hkn : sv_kn base ad dC dI cA s) {y : MethodName} {b : ByteArray} {mL h n idx pc ci : Nat} {q : vw_C} {ret : Option FieldType} {G : sv_D} (hM : sv_M l y b mL ret G h) (hR : h + 1 ≤ R.frames ∧ 64 * (h + 1) ≤ R.locals) (hmL : mL ≤ 45) (hf : cells ≤ R.cells ∧ slots ≤ R.slots)
    (hq : vwCl[ci]? = some q) (hG : ∀ as σ x, G as σ = some x → ∃ r i as', as = sv_R r i :: as' ∧ sv_kd r i = .inl ci) (hw : ∀ w ∈ [Cond.methodLink own idx y, Cond.instanceMethod y, Cond.selects q.1 y y, Cond.initialized q.1, Cond.code y b mL ret], w ∈ gw_tbl)
    (hd : y.cls = q.1 ∧ y.cls ≠ "java/lang/invoke/MethodHandle" ∧ y.cls ≠ "java/lang/invoke/VarHandle" ∧ (parseMethodDescriptor y.desc).map (fun d => d.parameters.length) = some n) (hdg : decode cc pc = .ok (.invokevirtual idx, 3)) :
    sv_cg p l e R s m args below meth c cells slots Q base ad dC dI cA nl nL n0 pc (n + 1) G := by
  intro as rest lo σ r σ' hn hsm hGs hWt H locs ls hRp hS hL hct hst hlo
  subst hct
  have has : ∀ v ∈ as, sv_ok (sv_ct σ) v := fun v hv => hst v (List.mem_append_left _ (List.mem_reverse.mpr hv))
  obtain ⟨r0, i0, as', rfl, hkd⟩ := hG as σ _ hGs
  have hlv : sv_lv (sv_ct σ) r0 i0 := has _ List.mem_cons_self
  have hgood : GoodIn gw_tbl (wsV own idx q.1 y (sv_ws y b mL ret)) := gw_goodIn (fun w h => by
    unfold wsV at h
    rcases List.mem_append.mp h with h | h
    · exact hw w (by simp only [List.mem_cons, List.not_mem_nil, or_false] at h ⊢; rcases h with h | h | h | h <;> simp [h])
    · exact sv_ws_in (hw _ (by simp)) w h)
  have hn' : as'.length = n := by simpa using hn
  refine sv_goOn (rest := rest) (as := sv_R r0 i0 :: as') (va_runV (As := as'.map (sv_c ad)) (b := ad r0 i0) S (hM base ad dC dI cA (sv_R r0 i0 :: as') σ r σ' hGs has) (cwV n S.2.2.2.2 hgood rfl rfl rfl hd ⟨hR.1, ?_⟩) ⟨sv_blind, sv_recv hkn hRp hlv hkd hq, sv_pre (as := sv_R r0 i0 :: as') hkn hRp hS rfl⟩ rfl (by rw [List.length_map]; exact hn') hL.2.1 ?_ (lv_room (sv_sm8 hsm)) hdg hf) hS hL hst hlo hWt
  · show 8 + (mL + 11) + 64 * h ≤ R.locals
    omega
  · simp [List.map_append, List.map_reverse, List.append_assoc]
    rfl
/-- a static method of a nest mate that is private -/
theorem sv_cN (S : CallFix p m c cc nL s args gw_tbl own) (hkn : sv_kn base ad dC dI cA s) {y : MethodName} {b : ByteArray} {mL h n idx pc : Nat} {ret : Option FieldType} {G : sv_D} {host : String} (hM : sv_M l y b mL ret G h) (hR : h + 1 ≤ R.frames ∧ 64 * (h + 1) ≤ R.locals) (hmL : mL ≤ 45) (hf : cells ≤ R.cells ∧ slots ≤ R.slots)
    (hl : va_Nw (.methodLinkNest own idx y host) s) (hw : ∀ w ∈ [Cond.static y, Cond.initialized y.cls, Cond.code y b mL ret], w ∈ gw_tbl) (hd : y.cls ≠ "java/lang/invoke/MethodHandle" ∧ y.cls ≠ "java/lang/invoke/VarHandle" ∧ (parseMethodDescriptor y.desc).map (fun d => d.parameters.length) = some n) (hdg : decode cc pc = .ok (.invokestatic idx, 3)) :
    sv_cg p l e R s m args below meth c cells slots Q base ad dC dI cA nl nL n0 pc n G := by
  intro as rest lo σ r σ' hn hsm hG hWt H locs ls hRp hS hL hct hst hlo
  subst hct
  have has : ∀ v ∈ as, sv_ok (sv_ct σ) v := fun v hv => hst v (List.mem_append_left _ (List.mem_reverse.mpr hv))
  have hgood : GoodIn gw_tbl (sv_ws y b mL ret) := gw_goodIn (sv_ws_in (hw _ (by simp)))
  have hts := S.2.2.2.2
  refine sv_goOn (rest := rest) (va_runSN (As := as.map (sv_c ad)) S (hM base ad dC dI cA as σ r σ' hG has) ⟨va_cnB n hts hgood rfl rfl rfl hl (hts _ (hw _ (by simp))) hd ⟨hR.1, ?_⟩, hts _ (hw _ (by simp)), trivial⟩ ⟨sv_blind, sv_pre hkn hRp hS rfl⟩ rfl (by rw [List.length_map]; exact hn) hL.2.1 (by simp [List.map_append, List.map_reverse]) (lv_room (sv_sm8 hsm)) hdg hf) hS hL hst hlo hWt
  show 8 + (mL + 11) + 64 * h ≤ R.locals
  omega
/-- super.method(..) -/
theorem sv_cU (S : CallFix p m c cc nL s args gw_tbl own) (hkn : sv_kn base ad dC dI cA s) {y : MethodName} {b : ByteArray} {mL h n idx pc : Nat} {ret : Option FieldType} {G : sv_D} (hM : sv_M l y b mL ret G h) (hR : h + 1 ≤ R.frames ∧ 64 * (h + 1) ≤ R.locals) (hmL : mL ≤ 45) (hf : cells ≤ R.cells ∧ slots ≤ R.slots)
    (hG : ∀ as σ x, G as σ = some x → ∃ r i as' ci q, as = sv_R r i :: as' ∧ sv_kd r i = .inl ci ∧ vwCl[ci]? = some q) (hw : ∀ w ∈ [Cond.methodLink own idx y, Cond.sameMethod y.cls y.cls y.name y.desc, Cond.superclass own y.cls, Cond.instanceMethod y, Cond.initialized y.cls, Cond.code y b mL ret], w ∈ gw_tbl)
    (hd : y.name ≠ "<init>" ∧ (parseMethodDescriptor y.desc).map (fun d => d.parameters.length) = some n) (hdg : decode cc pc = .ok (.invokespecial idx, 3)) :
    sv_cg p l e R s m args below meth c cells slots Q base ad dC dI cA nl nL n0 pc (n + 1) G := by
  intro as rest lo σ r σ' hn hsm hGs hWt H locs ls hRp hS hL hct hst hlo
  subst hct
  have has : ∀ v ∈ as, sv_ok (sv_ct σ) v := fun v hv => hst v (List.mem_append_left _ (List.mem_reverse.mpr hv))
  obtain ⟨r0, i0, as', ci, q, rfl, hkd, hq⟩ := hG as σ _ hGs
  have hlv : sv_lv (sv_ct σ) r0 i0 := has _ List.mem_cons_self
  have hgood : GoodIn gw_tbl (va_wsSU own idx y (sv_ws y b mL ret)) := gw_goodIn (fun w h => by
    unfold va_wsSU at h
    rcases List.mem_append.mp h with h | h
    · exact hw w (by simp only [List.mem_cons, List.not_mem_nil, or_false] at h ⊢; rcases h with h | h | h | h | h <;> simp [h])
    · exact sv_ws_in (hw _ (by simp)) w h)
  have hn' : as'.length = n := by simpa using hn
  refine sv_goOn (rest := rest) (as := sv_R r0 i0 :: as') (va_runSU (As := as'.map (sv_c ad)) (b := ad r0 i0) (hkn.1.1 ci q hq).2 S (hM base ad dC dI cA (sv_R r0 i0 :: as') σ r σ' hGs has) (va_cwSU n S.2.2.2.2 hgood rfl rfl rfl hd ⟨hR.1, ?_⟩) ⟨sv_blind, sv_recv hkn hRp hlv hkd hq, sv_pre (as := sv_R r0 i0 :: as') hkn hRp hS rfl⟩ rfl (by rw [List.length_map]; exact hn') hL.2.1 ?_ (lv_room (sv_sm8 hsm)) hdg hf) hS hL hst hlo hWt
  · show 8 + (mL + 11) + 64 * h ≤ R.locals
    omega
  · simp [List.map_append, List.map_reverse, List.append_assoc]
    rfl
/-- a method that the receiver's class inherits or overrides -/
theorem sv_cD (S : CallFix p m c cc nL s args gw_tbl own) (hkn : sv_kn base ad dC dI cA s) {x y : MethodName} {b : ByteArray} {mL h n idx pc ci : Nat} {q : vw_C} {owner : String} {ret : Option FieldType} {G : sv_D} (hM : sv_M l y b mL ret G h) (hf : cells ≤ R.cells ∧ slots ≤ R.slots)
    (hq : vwCl[ci]? = some q) (hG : ∀ as σ x, G as σ = some x → ∃ r i as', as = sv_R r i :: as' ∧ sv_kd r i = .inl ci) (cw : va_CU R s args own q.1 owner idx x y b mL ret (sv_ws y b mL ret) (sv_rm h) 0 0 n) (hdg : decode cc pc = .ok (.invokevirtual idx, 3)) :
    sv_cg p l e R s m args below meth c cells slots Q base ad dC dI cA nl nL n0 pc (n + 1) G := by
  intro as rest lo σ r σ' hn hsm hGs hWt H locs ls hRp hS hL hct hst hlo
  subst hct
  have has : ∀ v ∈ as, sv_ok (sv_ct σ) v := fun v hv => hst v (List.mem_append_left _ (List.mem_reverse.mpr hv))
  obtain ⟨r0, i0, as', rfl, hkd⟩ := hG as σ _ hGs
  have hlv : sv_lv (sv_ct σ) r0 i0 := has _ List.mem_cons_self
  have hn' : as'.length = n := by simpa using hn
  refine sv_goOn (rest := rest) (as := sv_R r0 i0 :: as') (va_runU (As := as'.map (sv_c ad)) (b := ad r0 i0) S (hM base ad dC dI cA (sv_R r0 i0 :: as') σ r σ' hGs has) cw ⟨sv_blind, sv_recv hkn hRp hlv hkd hq, sv_pre (as := sv_R r0 i0 :: as') hkn hRp hS rfl⟩ rfl (by rw [List.length_map]; exact hn') hL.2.1 ?_ (lv_room (sv_sm8 hsm)) hdg hf) hS hL hst hlo hWt
  simp [List.map_append, List.map_reverse, List.append_assoc]
  rfl
theorem sv_cwI (S : CallFix p m c cc nL s args gw_tbl own) {x y : MethodName} {b : ByteArray} {mL h n idx : Nat} {C owner : String} {ret : Option FieldType} (hR : h + 1 ≤ R.frames ∧ 64 * (h + 1) ≤ R.locals) (hmL : mL ≤ 45) (hyx : y = ⟨owner, x.name, x.desc⟩)
    (hw : ∀ w ∈ [Cond.methodLink own idx x, Cond.sameMethod x.cls owner x.name x.desc, Cond.selects C x y, Cond.instanceMethod y, Cond.initialized y.cls, Cond.code y b mL ret], w ∈ gw_tbl) (hd : owner ≠ "java/lang/invoke/MethodHandle" ∧ owner ≠ "java/lang/invoke/VarHandle" ∧ (parseMethodDescriptor x.desc).map (fun d => d.parameters.length) = some n) :
    va_CU R s args own C owner idx x y b mL ret (sv_ws y b mL ret) (sv_rm h) 0 0 n := by
  have hgood : GoodIn gw_tbl (va_wsU own idx C owner x y (sv_ws y b mL ret)) := gw_goodIn (fun w h => by
    unfold va_wsU at h
    rcases List.mem_append.mp h with h | h
    · exact hw w (by simp only [List.mem_cons, List.not_mem_nil, or_false] at h ⊢; rcases h with h | h | h | h | h <;> simp [h])
    · exact sv_ws_in (hw _ (by simp)) w h)
  exact va_cwU n S.2.2.2.2 hgood rfl rfl rfl hyx hd ⟨hR.1, by show 8 + (mL + 11) + 64 * h ≤ R.locals; omega⟩
theorem sv_cwO (S : CallFix p m c cc nL s args gw_tbl own) {x y : MethodName} {b b0 : ByteArray} {mL m0 h n idx : Nat} {C owner : String} {ret r0 : Option FieldType} (hR : h + 1 ≤ R.frames ∧ 64 * (h + 1) ≤ R.locals) (hmL : mL ≤ 45)
    (hw : ∀ w ∈ [Cond.methodLink own idx x, Cond.sameMethod x.cls owner x.name x.desc, Cond.instanceMethod ⟨owner, x.name, x.desc⟩, Cond.selects C x y, Cond.instanceMethod y, Cond.initialized y.cls, Cond.code y b mL ret], w ∈ gw_tbl) (h0 : Cond.code ⟨owner, x.name, x.desc⟩ b0 m0 r0 ∈ gw_tbl) (hd : owner ≠ "java/lang/invoke/MethodHandle" ∧ owner ≠ "java/lang/invoke/VarHandle" ∧ (parseMethodDescriptor x.desc).map (fun d => d.parameters.length) = some n) :
    va_CU R s args own C owner idx x y b mL ret (sv_ws y b mL ret) (sv_rm h) 0 0 n := by
  have hgood : GoodIn gw_tbl (va_wsO own idx C owner x y (sv_ws y b mL ret)) := gw_goodIn (fun w h => by
    unfold va_wsO at h
    rcases List.mem_append.mp h with h | h
    · exact hw w (by simp only [List.mem_cons, List.not_mem_nil, or_false] at h ⊢; rcases h with h | h | h | h | h | h <;> simp [h])
    · exact sv_ws_in (hw _ (by simp)) w h)
  exact va_cwO n S.2.2.2.2 hgood rfl rfl rfl h0 hd ⟨hR.1, by show 8 + (mL + 11) + 64 * h ≤ R.locals; omega⟩
theorem sv_cg.of {pc n : Nat} {G : sv_D} (h : ∀ as σ x, G as σ = some x → ∃ G', G' as σ = some x ∧ sv_cg p l e R s m args below meth c cells slots Q base ad dC dI cA nl nL n0 pc n G') : sv_cg p l e R s m args below meth c cells slots Q base ad dC dI cA nl nL n0 pc n G := by
  intro as rest lo σ r σ' hn hsm hG hWt
  obtain ⟨G', h1, h2⟩ := h as σ _ hG
  exact h2 as rest lo σ r σ' hn hsm h1 hWt
end SVK
end
section
/-! ===== a method's contract out of its function ===== -/
abbrev sv_Ga : Type := Program × (Launch × (Env × (Room × (State × (MethodId × (Array Value × (List Frame × (Method × (Code × (Nat × (Nat × ((State → Prop) × (Nat × ((Nat → Nat → Nat) × ((Nat → ClassId) × ((Nat → Nat → Nat) × ((Nat → ClassId) × (Bool × (Nat × Nat)))))))))))))))))))
def sv_T (Γ : sv_Ga) (pc : Nat) (lo : sv_Lo) (st : List sv_V) (σ : sv_S) : Prop := match Γ with
  | (p, (l, (e, (R, (s, (m, (args, (below, (meth, (c, (cells, (slots, (Q, (base, (ad, (dC, (dI, (cA, (nl, (nL, n0)))))))))))))))))))) => sv_Wt p l e R s m args below meth c cells slots Q base ad dC dI cA nl nL n0 pc lo st σ
/-- links of a class's methods -/
def sv_lnk (own : String) (E : sv_E) : Prop := (∀ idx q, E.1 idx = some q → sv_fk own idx q.1 q.2) ∧ (∀ idx v, E.2.1 idx = some v → sv_1k own idx v) ∧ (∀ idx, E.2.2.1 idx = true → Cond.fieldLink own idx "OneStroke" "ABOVE" "[I" ∈ gw_tbl)
def sv_Ok {β : Type} (Γ : sv_Ga) (E : sv_E) (cc : ByteArray) (rt : sv_V → sv_S → Option β) (res : β) : Prop := match Γ with
  | (p, (l, (e, (R, (s, (m, (args, (below, (meth, (c, (cells, (slots, (Q, (base, (ad, (dC, (dI, (cA, (nl, (nL, n0)))))))))))))))))))) => nl = E.2.2.2.1 ∧ p.tables.exec = Jvm.exec ∧ c.code = cc ∧ (∀ w ∈ gw_tbl, w.before args s = true) ∧ (∃ own, s.vm.findClass own = some m.cls ∧ sv_lnk own E) ∧ sv_kn base ad dC dI cA s ∧
    (∀ pc n f, E.2.2.2.2 pc = some (n, f) → sv_cok p l e R s m args below meth c cells slots Q base ad dC dI cA nl nL n0 pc n f) ∧
    (∀ pc lo n σ, decode cc pc = .ok (.ireturn, 1) → rt (.inl n) σ = some res → sv_Wt p l e R s m args below meth c cells slots Q base ad dC dI cA nl nL n0 pc lo [.inl n] σ) ∧
    (∀ pc lo v σ, decode cc pc = .ok (.areturn, 1) → (v = sv_N ∨ ∃ r i, v = sv_R r i) → rt v σ = some res → sv_Wt p l e R s m args below meth c cells slots Q base ad dC dI cA nl nL n0 pc lo [v] σ) ∧
    (∀ pc lo σ, decode cc pc = .ok (.return_, 1) → rt (sv_L 0) σ = some res → sv_Wt p l e R s m args below meth c cells slots Q base ad dC dI cA nl nL n0 pc lo [] σ)
theorem gw_u {C : String} {T : u_T} {N : Nat} (is : List Nat) (h : (List.range N).map (fun k => some (u_lay C T k)) = is.map (fun i => lw_tbl[i]?)) (hg : ∀ k, k < N → goodWord (u_lay C T k) = true) : ∀ w ∈ u_ws C T N, w ∈ gw_tbl := by
  intro w hw
  obtain ⟨k, hk, rfl⟩ := List.mem_map.mp hw
  have hk := List.mem_range.mp hk
  have h1 : ((List.range N).map (fun k => some (u_lay C T k)))[k]? = some (some (u_lay C T k)) := by simp [hk]
  rw [h, List.getElem?_map] at h1
  cases hi : is[k]? with
  | none => rw [hi] at h1; cases h1
  | some i => rw [hi] at h1; exact gw_at i (Option.some.inj h1) (hg k hk)
theorem sv_lk_all {α : Type} {P : Nat → α → Prop} : ∀ {L : List (Nat × α)}, (∀ q ∈ L, P q.1 q.2) → ∀ i x, sv_lk i L = some x → P i x
  | [], _, i, x, h => by cases h
  | q :: L, hq, i, x, h => by
    simp only [sv_lk] at h
    cases hb : Nat.beq i q.1 with
    | true =>
      rw [hb] at h
      simp only [cond_true, Option.some.injEq] at h
      have e := Nat.eq_of_beq_eq_true hb
      subst e
      subst h
      exact hq q List.mem_cons_self
    | false =>
      rw [hb] at h
      exact sv_lk_all (fun r hr => hq r (List.mem_cons_of_mem _ hr)) i x h
theorem sv_dc3 {cc : ByteArray} {cd : sv_C} (hD : cd.all (sv_dk cc) = true) {pc len : Nat} {ins : Instr} {w : sv_V × (Nat × (Nat × List (Int × Nat)))} (h : sv_at pc cd = some (ins, w)) (hl : sv_il ins = len + 1) : decode cc pc = .ok (ins, len + 1) := by
  have hm : (pc, (ins, w)) ∈ cd := by
    clear hD
    induction cd with
    | nil => cases h
    | cons q cd ih =>
      simp only [sv_at] at h
      cases hq : Nat.beq pc q.1 with
      | true =>
        rw [hq] at h
        simp only [cond_true, Option.some.injEq] at h
        have := Nat.eq_of_beq_eq_true hq
        subst this
        rw [← h]
        exact List.mem_cons_self
      | false =>
        rw [hq] at h
        exact List.mem_cons_of_mem _ (ih h)
  obtain ⟨cv, nx, tg, sw⟩ := w
  obtain ⟨len', hd, hlen, -⟩ := sv_dk_spec (List.all_eq_true.mp hD _ hm)
  rcases hlen with h0 | h0
  · rw [hl] at h0; cases h0
  · rw [hd, ← h0, hl]
theorem sv_w3 {a b c : Cond} (h1 : a ∈ gw_tbl) (h2 : b ∈ gw_tbl) (h3 : c ∈ gw_tbl) : ∀ w ∈ [a, b, c], w ∈ gw_tbl := by
  intro w h; simp only [List.mem_cons, List.not_mem_nil, or_false] at h; rcases h with rfl | rfl | rfl <;> assumption
theorem sv_w4 {a b c d : Cond} (h1 : a ∈ gw_tbl) (h2 : b ∈ gw_tbl) (h3 : c ∈ gw_tbl) (h4 : d ∈ gw_tbl) : ∀ w ∈ [a, b, c, d], w ∈ gw_tbl := by
  intro w h; simp only [List.mem_cons, List.not_mem_nil, or_false] at h; rcases h with rfl | rfl | rfl | rfl <;> assumption
theorem sv_w5 {a b c d e : Cond} (h1 : a ∈ gw_tbl) (h2 : b ∈ gw_tbl) (h3 : c ∈ gw_tbl) (h4 : d ∈ gw_tbl) (h5 : e ∈ gw_tbl) : ∀ w ∈ [a, b, c, d, e], w ∈ gw_tbl := by
  intro w h; simp only [List.mem_cons, List.not_mem_nil, or_false] at h; rcases h with rfl | rfl | rfl | rfl | rfl <;> assumption
theorem sv_w6 {a b c d e f : Cond} (h1 : a ∈ gw_tbl) (h2 : b ∈ gw_tbl) (h3 : c ∈ gw_tbl) (h4 : d ∈ gw_tbl) (h5 : e ∈ gw_tbl) (h6 : f ∈ gw_tbl) : ∀ w ∈ [a, b, c, d, e, f], w ∈ gw_tbl := by
  intro w h; simp only [List.mem_cons, List.not_mem_nil, or_false] at h; rcases h with rfl | rfl | rfl | rfl | rfl | rfl <;> assumption
theorem sv_w7 {a b c d e f g : Cond} (h1 : a ∈ gw_tbl) (h2 : b ∈ gw_tbl) (h3 : c ∈ gw_tbl) (h4 : d ∈ gw_tbl) (h5 : e ∈ gw_tbl) (h6 : f ∈ gw_tbl) (h7 : g ∈ gw_tbl) : ∀ w ∈ [a, b, c, d, e, f, g], w ∈ gw_tbl := by
  intro w h; simp only [List.mem_cons, List.not_mem_nil, or_false] at h; rcases h with rfl | rfl | rfl | rfl | rfl | rfl | rfl <;> assumption
/-! the locals at a method's entry -/
def sv_l0 : List sv_V → sv_Lo
  | [] => []
  | .inr (.inl n) :: l => some (sv_L n) :: none :: sv_l0 l
  | .inl n :: l => some (.inl n) :: sv_l0 l
  | .inr (.inr q) :: l => some (.inr (.inr q)) :: sv_l0 l
def sv_e0 (nL : Nat) (as : List sv_V) : sv_Lo := sv_l0 as ++ List.replicate (nL - (sv_l0 as).length) none
theorem sv_ll_rep (ad : Nat → Nat → Nat) : ∀ (n k : Nat), sv_ll ad k (List.replicate n none) = []
  | 0, _ => rfl
  | n + 1, k => by
    rw [List.replicate_succ]
    exact sv_ll_rep ad n (k + 1)
theorem sv_ll_l0 (ad : Nat → Nat → Nat) : ∀ (as : List sv_V) (k n : Nat), sv_ll ad k (sv_l0 as ++ List.replicate n none) = lv_args k (as.map (sv_c ad))
  | [], k, n => sv_ll_rep ad n k
  | .inr (.inl v) :: l, k, n => by
    show (k, Value.long v) :: sv_ll ad (k + 1 + 1) (sv_l0 l ++ List.replicate n none) = (k, Value.long v) :: lv_args (k + 2) (l.map (sv_c ad))
    rw [sv_ll_l0 ad l (k + 1 + 1) n]
  | .inl v :: l, k, n => by
    show (k, Value.int v) :: sv_ll ad (k + 1) (sv_l0 l ++ List.replicate n none) = (k, Value.int v) :: lv_args (k + 1) (l.map (sv_c ad))
    rw [sv_ll_l0 ad l (k + 1) n]
  | .inr (.inr none) :: l, k, n => by
    show (k, Value.null) :: sv_ll ad (k + 1) (sv_l0 l ++ List.replicate n none) = (k, Value.null) :: lv_args (k + 1) (l.map (sv_c ad))
    rw [sv_ll_l0 ad l (k + 1) n]
  | .inr (.inr (some (r, i))) :: l, k, n => by
    show (k, Value.ref (ad r i)) :: sv_ll ad (k + 1) (sv_l0 l ++ List.replicate n none) = (k, Value.ref (ad r i)) :: lv_args (k + 1) (l.map (sv_c ad))
    rw [sv_ll_l0 ad l (k + 1) n]
theorem sv_l0_len (ad : Nat → Nat → Nat) : ∀ (as : List sv_V), (sv_l0 as).length = (lg_sl (as.map (sv_c ad))).length
  | [] => rfl
  | .inr (.inl v) :: l => by
    have := sv_l0_len ad l
    simp_all [sv_l0, lg_sl, sv_c, Value.category]
  | .inl v :: l => by
    have := sv_l0_len ad l
    simp_all [sv_l0, lg_sl, sv_c, Value.category]
  | .inr (.inr none) :: l => by
    have := sv_l0_len ad l
    simp_all [sv_l0, lg_sl, sv_c, Value.category]
  | .inr (.inr (some (r, i))) :: l => by
    have := sv_l0_len ad l
    simp_all [sv_l0, lg_sl, sv_c, Value.category]
theorem sv_ga_l0 : ∀ (as : List sv_V) (n i : Nat) (v : sv_V), sv_ga (sv_l0 as ++ List.replicate n none) i = some v → v ∈ as
  | [], 0, i, v, h => by cases i <;> cases h
  | [], n + 1, 0, v, h => by cases h
  | [], n + 1, i + 1, v, h => sv_ga_l0 [] n i v h
  | .inr (.inl w) :: l, n, 0, v, h => by cases h; exact List.mem_cons_self
  | .inr (.inl w) :: l, n, 1, v, h => by cases h
  | .inr (.inl w) :: l, n, i + 2, v, h => List.mem_cons_of_mem _ (sv_ga_l0 l n i v h)
  | .inl w :: l, n, 0, v, h => by cases h; exact List.mem_cons_self
  | .inl w :: l, n, i + 1, v, h => List.mem_cons_of_mem _ (sv_ga_l0 l n i v h)
  | .inr (.inr q) :: l, n, 0, v, h => by cases h; exact List.mem_cons_self
  | .inr (.inr q) :: l, n, i + 1, v, h => List.mem_cons_of_mem _ (sv_ga_l0 l n i v h)
end
section
/-! ===== the classes by the tables; links ===== -/
theorem ck_u_0 : ∀ w ∈ u_ws RX0 TX0 0, w ∈ gw_tbl := gw_u [] (by decide +kernel) (by decide +kernel)
theorem ck_0 : sv_ck 0 (RX0, TX0, 0) := ⟨rfl, ck_u_0, ⟨tyX0, tyX0_ok⟩, nmX0, by decide +kernel, by decide +kernel⟩
theorem ck_u_1 : ∀ w ∈ u_ws RX1 TX1 8, w ∈ gw_tbl := gw_u [160, 162, 164, 166, 168, 170, 172, 174] (by decide +kernel) (by decide +kernel)
theorem ck_1 : sv_ck 1 (RX1, TX1, 8) := ⟨rfl, ck_u_1, ⟨tyX1, tyX1_ok⟩, nmX1, by decide +kernel, by decide +kernel⟩
theorem ck_u_2 : ∀ w ∈ u_ws RX2 TX2 0, w ∈ gw_tbl := gw_u [] (by decide +kernel) (by decide +kernel)
theorem ck_2 : sv_ck 2 (RX2, TX2, 0) := ⟨rfl, ck_u_2, ⟨tyX2, tyX2_ok⟩, nmX2, by decide +kernel, by decide +kernel⟩
theorem ck_u_3 : ∀ w ∈ u_ws RX3 TX3 0, w ∈ gw_tbl := gw_u [] (by decide +kernel) (by decide +kernel)
theorem ck_3 : sv_ck 3 (RX3, TX3, 0) := ⟨rfl, ck_u_3, ⟨tyX3, tyX3_ok⟩, nmX3, by decide +kernel, by decide +kernel⟩
theorem ck_u_4 : ∀ w ∈ u_ws RX4 TX4 0, w ∈ gw_tbl := gw_u [] (by decide +kernel) (by decide +kernel)
theorem ck_4 : sv_ck 4 (RX4, TX4, 0) := ⟨rfl, ck_u_4, ⟨tyX4, tyX4_ok⟩, nmX4, by decide +kernel, by decide +kernel⟩
theorem ck_u_5 : ∀ w ∈ u_ws RX5 TX5 9, w ∈ gw_tbl := gw_u [199, 201, 203, 205, 207, 209, 211, 213, 215] (by decide +kernel) (by decide +kernel)
theorem ck_5 : sv_ck 5 (RX5, TX5, 9) := ⟨rfl, ck_u_5, ⟨tyX5, tyX5_ok⟩, nmX5, by decide +kernel, by decide +kernel⟩
theorem ck_u_6 : ∀ w ∈ u_ws RX6 TX6 3, w ∈ gw_tbl := gw_u [269, 271, 273] (by decide +kernel) (by decide +kernel)
theorem ck_6 : sv_ck 6 (RX6, TX6, 3) := ⟨rfl, ck_u_6, ⟨tyX6, tyX6_ok⟩, nmX6, by decide +kernel, by decide +kernel⟩
theorem ck_u_7 : ∀ w ∈ u_ws RX7 TX7 0, w ∈ gw_tbl := gw_u [] (by decide +kernel) (by decide +kernel)
theorem ck_7 : sv_ck 7 (RX7, TX7, 0) := ⟨rfl, ck_u_7, ⟨tyX7, tyX7_ok⟩, nmX7, by decide +kernel, by decide +kernel⟩
theorem ck_u_8 : ∀ w ∈ u_ws RX8 TX8 9, w ∈ gw_tbl := gw_u [236, 238, 240, 242, 244, 246, 248, 250, 252] (by decide +kernel) (by decide +kernel)
theorem ck_8 : sv_ck 8 (RX8, TX8, 9) := ⟨rfl, ck_u_8, ⟨tyX8, tyX8_ok⟩, nmX8, by decide +kernel, by decide +kernel⟩
theorem ck_u_9 : ∀ w ∈ u_ws RX9 TX9 4, w ∈ gw_tbl := gw_u [878, 880, 882, 884] (by decide +kernel) (by decide +kernel)
theorem ck_9 : sv_ck 9 (RX9, TX9, 4) := ⟨rfl, ck_u_9, ⟨tyX9, tyX9_ok⟩, nmX9, by decide +kernel, by decide +kernel⟩
theorem ck_u_10 : ∀ w ∈ u_ws RX10 TX10 0, w ∈ gw_tbl := gw_u [] (by decide +kernel) (by decide +kernel)
theorem ck_10 : sv_ck 10 (RX10, TX10, 0) := ⟨rfl, ck_u_10, ⟨tyX10, tyX10_ok⟩, nmX10, by decide +kernel, by decide +kernel⟩
theorem ck_u_11 : ∀ w ∈ u_ws RX11 TX11 13, w ∈ gw_tbl := gw_u [291, 293, 295, 297, 299, 301, 303, 305, 307, 309, 311, 313, 315] (by decide +kernel) (by decide +kernel)
theorem ck_11 : sv_ck 11 (RX11, TX11, 13) := ⟨rfl, ck_u_11, ⟨tyX11, tyX11_ok⟩, nmX11, by decide +kernel, by decide +kernel⟩
theorem ck_u_12 : ∀ w ∈ u_ws RX12 TX12 34, w ∈ gw_tbl := gw_u [1024, 1026, 1028, 1030, 1032, 1034, 1036, 1038, 1040, 1042, 1044, 1046, 1048, 1050, 1052, 1054, 1056, 1058, 1060, 1062, 1064, 1066, 1068, 1070, 1072, 1074, 1076, 1078, 1080, 1082, 1084, 1086, 1088, 1090] (by decide +kernel) (by decide +kernel)
theorem ck_12 : sv_ck 12 (RX12, TX12, 34) := ⟨rfl, ck_u_12, ⟨tyX12, tyX12_ok⟩, nmX12, by decide +kernel, by decide +kernel⟩
theorem ck_all : ∀ ci q, vwCl[ci]? = some q → sv_ck ci q := by
  intro ci q h
  match ci, h with
  | 0, h => exact (Option.some.inj h) ▸ ck_0
  | 1, h => exact (Option.some.inj h) ▸ ck_1
  | 2, h => exact (Option.some.inj h) ▸ ck_2
  | 3, h => exact (Option.some.inj h) ▸ ck_3
  | 4, h => exact (Option.some.inj h) ▸ ck_4
  | 5, h => exact (Option.some.inj h) ▸ ck_5
  | 6, h => exact (Option.some.inj h) ▸ ck_6
  | 7, h => exact (Option.some.inj h) ▸ ck_7
  | 8, h => exact (Option.some.inj h) ▸ ck_8
  | 9, h => exact (Option.some.inj h) ▸ ck_9
  | 10, h => exact (Option.some.inj h) ▸ ck_10
  | 11, h => exact (Option.some.inj h) ▸ ck_11
  | 12, h => exact (Option.some.inj h) ▸ ck_12
  | n + 13, h => simp [vwCl] at h
def fl_0 : List (Nat × (Nat × Nat)) := []
def kc_0 : List (Nat × sv_V) := []
def fl_1 : List (Nat × (Nat × Nat)) := [(9, (1, 0)), (15, (1, 1)), (18, (1, 5)), (21, (1, 7)), (24, (1, 6)), (30, (1, 2)), (33, (1, 3)), (36, (1, 4))]
def kc_1 : List (Nat × sv_V) := []
def fl_2 : List (Nat × (Nat × Nat)) := []
def kc_2 : List (Nat × sv_V) := []
def fl_3 : List (Nat × (Nat × Nat)) := []
def kc_3 : List (Nat × sv_V) := []
def fl_4 : List (Nat × (Nat × Nat)) := []
def kc_4 : List (Nat × sv_V) := []
def fl_5 : List (Nat × (Nat × Nat)) := [(9, (5, 0)), (17, (5, 1)), (24, (5, 2)), (28, (5, 3)), (38, (5, 7)), (42, (5, 4)), (45, (5, 5)), (48, (5, 6)), (51, (5, 8)), (68, (1, 0)), (71, (9, 0)), (81, (1, 6)), (99, (1, 1)), (117, (1, 2)), (149, (1, 7)), (152, (1, 5))]
def kc_5 : List (Nat × sv_V) := [(74, .inl (1103515245 : Int32)), (142, .inl (-1000000005 : Int32))]
def fl_6 : List (Nat × (Nat × Nat)) := [(9, (6, 0)), (15, (6, 2)), (19, (6, 1))]
def kc_6 : List (Nat × sv_V) := [(38, .inl (-1000000005 : Int32))]
def fl_7 : List (Nat × (Nat × Nat)) := []
def kc_7 : List (Nat × sv_V) := []
def fl_8 : List (Nat × (Nat × Nat)) := [(9, (8, 0)), (15, (8, 8)), (19, (8, 1)), (25, (8, 5)), (28, (8, 6)), (31, (8, 7)), (43, (8, 3)), (46, (8, 4)), (68, (8, 2))]
def kc_8 : List (Nat × sv_V) := []
def fl_9 : List (Nat × (Nat × Nat)) := [(9, (9, 0)), (15, (9, 1)), (18, (9, 2)), (22, (9, 3))]
def kc_9 : List (Nat × sv_V) := [(25, sv_R 23 0), (27, sv_R 23 1), (29, sv_R 23 2), (31, sv_R 23 3), (33, sv_R 23 4), (35, sv_R 23 5)]
def fl_10 : List (Nat × (Nat × Nat)) := []
def kc_10 : List (Nat × sv_V) := []
def fl_11 : List (Nat × (Nat × Nat)) := [(30, (11, 0)), (36, (11, 1)), (39, (11, 2)), (45, (11, 4)), (51, (11, 5)), (56, (11, 6)), (60, (11, 7)), (65, (11, 8)), (69, (11, 9)), (73, (11, 10)), (76, (11, 12)), (88, (5, 4)), (100, (5, 1)), (103, (1, 0)), (106, (1, 1)), (109, (1, 2)), (112, (1, 3)), (115, (1, 4)), (118, (1, 5)), (121, (1, 7)), (125, (1, 6)), (140, (5, 5)), (154, (5, 6)), (169, (5, 7)), (232, (8, 1)), (241, (8, 2)), (244, (5, 8)), (255, (5, 2)), (259, (9, 0)), (262, (9, 1)), (265, (5, 3)), (277, (6, 0)), (280, (6, 2)), (291, (6, 1)), (312, (11, 11)), (315, (11, 3))]
def kc_11 : List (Nat × sv_V) := [(87, .inl (-1000000001 : Int32)), (92, .inl (-1000000003 : Int32)), (124, .inl (-1000000005 : Int32)), (153, .inl (-1000000012 : Int32)), (172, .inl (-1000000002 : Int32)), (214, .inl (-1000000011 : Int32)), (268, .inl (-1000000014 : Int32)), (276, .inl (-1000000013 : Int32)), (283, .inl (-99999 : Int32)), (284, .inl (99999 : Int32))]
def fl_12 : List (Nat × (Nat × Nat)) := [(7, (12, 0)), (13, (12, 1)), (16, (12, 2)), (19, (12, 4)), (22, (12, 5)), (25, (12, 6)), (28, (12, 7)), (31, (12, 8)), (34, (12, 9)), (37, (12, 10)), (40, (12, 11)), (43, (12, 12)), (46, (12, 13)), (49, (12, 14)), (52, (12, 16)), (55, (12, 28)), (58, (12, 29)), (61, (12, 30)), (64, (12, 31)), (67, (12, 33)), (174, (12, 15)), (197, (12, 17)), (208, (12, 19)), (211, (12, 20)), (214, (12, 18)), (220, (12, 22)), (226, (12, 21)), (237, (12, 26)), (240, (12, 25)), (267, (12, 27)), (273, (12, 24)), (276, (12, 23)), (317, (12, 32)), (320, (12, 3))]
def kc_12 : List (Nat × sv_V) := [(70, .inl (-1000000005 : Int32)), (75, .inl (1103515245 : Int32)), (80, .inr (.inl (5 : Int64))), (82, .inr (.inl (9 : Int64))), (84, .inl (-1000000001 : Int32)), (85, .inl (-1000000003 : Int32)), (133, .inl (-1000000012 : Int32)), (137, .inr (.inl (3 : Int64))), (139, .inr (.inl (100 : Int64))), (141, .inr (.inl (10 : Int64))), (153, .inl (-1000000002 : Int32)), (160, .inr (.inl (2 : Int64))), (185, .inr (.inl (60 : Int64))), (187, .inr (.inl (40 : Int64))), (192, .inr (.inl (30 : Int64))), (200, .inr (.inl (97 : Int64))), (202, .inr (.inl (122 : Int64))), (204, .inr (.inl (48 : Int64))), (206, .inr (.inl (57 : Int64))), (300, .inr (.inl (-1 : Int64))), (302, .inl (-1000000014 : Int32)), (303, .inl (-1000000011 : Int32)), (304, .inl (-1000000013 : Int32)), (305, .inr (.inl (-99999 : Int64))), (307, .inr (.inl (99999 : Int64))), (312, .inr (.inl (4 : Int64)))]
theorem fk_0 : ∀ q ∈ fl_0, sv_fk RX0 q.1 q.2.1 q.2.2 := fun _ h => absurd h List.not_mem_nil
theorem kk_0 : ∀ q ∈ kc_0, sv_1k RX0 q.1 q.2 := fun _ h => absurd h List.not_mem_nil
theorem fk_1 : ∀ q ∈ fl_1, sv_fk RX1 q.1 q.2.1 q.2.2 := List.forall_mem_cons.mpr ⟨⟨_, rfl, by decide, gw_at 138 (by decide +kernel) rfl⟩, List.forall_mem_cons.mpr ⟨⟨_, rfl, by decide, gw_at 141 (by decide +kernel) rfl⟩, List.forall_mem_cons.mpr ⟨⟨_, rfl, by decide, gw_at 151 (by decide +kernel) rfl⟩, List.forall_mem_cons.mpr ⟨⟨_, rfl, by decide, gw_at 157 (by decide +kernel) rfl⟩, List.forall_mem_cons.mpr ⟨⟨_, rfl, by decide, gw_at 154 (by decide +kernel) rfl⟩, List.forall_mem_cons.mpr ⟨⟨_, rfl, by decide, gw_at 144 (by decide +kernel) rfl⟩, List.forall_mem_cons.mpr ⟨⟨_, rfl, by decide, gw_at 147 (by decide +kernel) rfl⟩, List.forall_mem_cons.mpr ⟨⟨_, rfl, by decide, gw_at 149 (by decide +kernel) rfl⟩, fun _ h => absurd h List.not_mem_nil⟩⟩⟩⟩⟩⟩⟩⟩
theorem kk_1 : ∀ q ∈ kc_1, sv_1k RX1 q.1 q.2 := fun _ h => absurd h List.not_mem_nil
theorem fk_2 : ∀ q ∈ fl_2, sv_fk RX2 q.1 q.2.1 q.2.2 := fun _ h => absurd h List.not_mem_nil
theorem kk_2 : ∀ q ∈ kc_2, sv_1k RX2 q.1 q.2 := fun _ h => absurd h List.not_mem_nil
theorem fk_3 : ∀ q ∈ fl_3, sv_fk RX3 q.1 q.2.1 q.2.2 := fun _ h => absurd h List.not_mem_nil
theorem kk_3 : ∀ q ∈ kc_3, sv_1k RX3 q.1 q.2 := fun _ h => absurd h List.not_mem_nil
theorem fk_4 : ∀ q ∈ fl_4, sv_fk RX4 q.1 q.2.1 q.2.2 := fun _ h => absurd h List.not_mem_nil
theorem kk_4 : ∀ q ∈ kc_4, sv_1k RX4 q.1 q.2 := fun _ h => absurd h List.not_mem_nil
theorem fk_5 : ∀ q ∈ fl_5, sv_fk RX5 q.1 q.2.1 q.2.2 := List.forall_mem_cons.mpr ⟨⟨_, rfl, by decide, gw_at 182 (by decide +kernel) rfl⟩, List.forall_mem_cons.mpr ⟨⟨_, rfl, by decide, gw_at 183 (by decide +kernel) rfl⟩, List.forall_mem_cons.mpr ⟨⟨_, rfl, by decide, gw_at 185 (by decide +kernel) rfl⟩, List.forall_mem_cons.mpr ⟨⟨_, rfl, by decide, gw_at 187 (by decide +kernel) rfl⟩, List.forall_mem_cons.mpr ⟨⟨_, rfl, by decide, gw_at 195 (by decide +kernel) rfl⟩, List.forall_mem_cons.mpr ⟨⟨_, rfl, by decide, gw_at 189 (by decide +kernel) rfl⟩, List.forall_mem_cons.mpr ⟨⟨_, rfl, by decide, gw_at 191 (by decide +kernel) rfl⟩, List.forall_mem_cons.mpr ⟨⟨_, rfl, by decide, gw_at 193 (by decide +kernel) rfl⟩, List.forall_mem_cons.mpr ⟨⟨_, rfl, by decide, gw_at 197 (by decide +kernel) rfl⟩, List.forall_mem_cons.mpr ⟨⟨_, rfl, by decide, gw_at 140 (by decide +kernel) rfl⟩, List.forall_mem_cons.mpr ⟨⟨_, rfl, by decide, gw_at 872 (by decide +kernel) rfl⟩, List.forall_mem_cons.mpr ⟨⟨_, rfl, by decide, gw_at 156 (by decide +kernel) rfl⟩, List.forall_mem_cons.mpr ⟨⟨_, rfl, by decide, gw_at 143 (by decide +kernel) rfl⟩, List.forall_mem_cons.mpr ⟨⟨_, rfl, by decide, gw_at 146 (by decide +kernel) rfl⟩, List.forall_mem_cons.mpr ⟨⟨_, rfl, by decide, gw_at 159 (by decide +kernel) rfl⟩, List.forall_mem_cons.mpr ⟨⟨_, rfl, by decide, gw_at 153 (by decide +kernel) rfl⟩, fun _ h => absurd h List.not_mem_nil⟩⟩⟩⟩⟩⟩⟩⟩⟩⟩⟩⟩⟩⟩⟩⟩
theorem kk_5 : ∀ q ∈ kc_5, sv_1k RX5 q.1 q.2 := List.forall_mem_cons.mpr ⟨gw_at 497 (by decide +kernel) rfl, List.forall_mem_cons.mpr ⟨gw_at 572 (by decide +kernel) rfl, fun _ h => absurd h List.not_mem_nil⟩⟩
theorem fk_6 : ∀ q ∈ fl_6, sv_fk RX6 q.1 q.2.1 q.2.2 := List.forall_mem_cons.mpr ⟨⟨_, rfl, by decide, gw_at 263 (by decide +kernel) rfl⟩, List.forall_mem_cons.mpr ⟨⟨_, rfl, by decide, gw_at 267 (by decide +kernel) rfl⟩, List.forall_mem_cons.mpr ⟨⟨_, rfl, by decide, gw_at 265 (by decide +kernel) rfl⟩, fun _ h => absurd h List.not_mem_nil⟩⟩⟩
theorem kk_6 : ∀ q ∈ kc_6, sv_1k RX6 q.1 q.2 := List.forall_mem_cons.mpr ⟨gw_at 647 (by decide +kernel) rfl, fun _ h => absurd h List.not_mem_nil⟩
theorem fk_7 : ∀ q ∈ fl_7, sv_fk RX7 q.1 q.2.1 q.2.2 := fun _ h => absurd h List.not_mem_nil
theorem kk_7 : ∀ q ∈ kc_7, sv_1k RX7 q.1 q.2 := fun _ h => absurd h List.not_mem_nil
theorem fk_8 : ∀ q ∈ fl_8, sv_fk RX8 q.1 q.2.1 q.2.2 := List.forall_mem_cons.mpr ⟨⟨_, rfl, by decide, gw_at 225 (by decide +kernel) rfl⟩, List.forall_mem_cons.mpr ⟨⟨_, rfl, by decide, gw_at 235 (by decide +kernel) rfl⟩, List.forall_mem_cons.mpr ⟨⟨_, rfl, by decide, gw_at 226 (by decide +kernel) rfl⟩, List.forall_mem_cons.mpr ⟨⟨_, rfl, by decide, gw_at 232 (by decide +kernel) rfl⟩, List.forall_mem_cons.mpr ⟨⟨_, rfl, by decide, gw_at 233 (by decide +kernel) rfl⟩, List.forall_mem_cons.mpr ⟨⟨_, rfl, by decide, gw_at 234 (by decide +kernel) rfl⟩, List.forall_mem_cons.mpr ⟨⟨_, rfl, by decide, gw_at 230 (by decide +kernel) rfl⟩, List.forall_mem_cons.mpr ⟨⟨_, rfl, by decide, gw_at 231 (by decide +kernel) rfl⟩, List.forall_mem_cons.mpr ⟨⟨_, rfl, by decide, gw_at 228 (by decide +kernel) rfl⟩, fun _ h => absurd h List.not_mem_nil⟩⟩⟩⟩⟩⟩⟩⟩⟩
theorem kk_8 : ∀ q ∈ kc_8, sv_1k RX8 q.1 q.2 := fun _ h => absurd h List.not_mem_nil
theorem fk_9 : ∀ q ∈ fl_9, sv_fk RX9 q.1 q.2.1 q.2.2 := List.forall_mem_cons.mpr ⟨⟨_, rfl, by decide, gw_at 871 (by decide +kernel) rfl⟩, List.forall_mem_cons.mpr ⟨⟨_, rfl, by decide, gw_at 874 (by decide +kernel) rfl⟩, List.forall_mem_cons.mpr ⟨⟨_, rfl, by decide, gw_at 876 (by decide +kernel) rfl⟩, List.forall_mem_cons.mpr ⟨⟨_, rfl, by decide, gw_at 877 (by decide +kernel) rfl⟩, fun _ h => absurd h List.not_mem_nil⟩⟩⟩⟩
theorem kk_9 : ∀ q ∈ kc_9, sv_1k RX9 q.1 q.2 := List.forall_mem_cons.mpr ⟨⟨rfl, by decide, rfl, rfl⟩, List.forall_mem_cons.mpr ⟨⟨rfl, by decide, rfl, rfl⟩, List.forall_mem_cons.mpr ⟨⟨rfl, by decide, rfl, rfl⟩, List.forall_mem_cons.mpr ⟨⟨rfl, by decide, rfl, rfl⟩, List.forall_mem_cons.mpr ⟨⟨rfl, by decide, rfl, rfl⟩, List.forall_mem_cons.mpr ⟨⟨rfl, by decide, rfl, rfl⟩, fun _ h => absurd h List.not_mem_nil⟩⟩⟩⟩⟩⟩
theorem fk_10 : ∀ q ∈ fl_10, sv_fk RX10 q.1 q.2.1 q.2.2 := fun _ h => absurd h List.not_mem_nil
theorem kk_10 : ∀ q ∈ kc_10, sv_1k RX10 q.1 q.2 := fun _ h => absurd h List.not_mem_nil
theorem fk_11 : ∀ q ∈ fl_11, sv_fk RX11 q.1 q.2.1 q.2.2 := List.forall_mem_cons.mpr ⟨⟨_, rfl, by decide, gw_at 278 (by decide +kernel) rfl⟩, List.forall_mem_cons.mpr ⟨⟨_, rfl, by decide, gw_at 279 (by decide +kernel) rfl⟩, List.forall_mem_cons.mpr ⟨⟨_, rfl, by decide, gw_at 280 (by decide +kernel) rfl⟩, List.forall_mem_cons.mpr ⟨⟨_, rfl, by decide, gw_at 282 (by decide +kernel) rfl⟩, List.forall_mem_cons.mpr ⟨⟨_, rfl, by decide, gw_at 283 (by decide +kernel) rfl⟩, List.forall_mem_cons.mpr ⟨⟨_, rfl, by decide, gw_at 284 (by decide +kernel) rfl⟩, List.forall_mem_cons.mpr ⟨⟨_, rfl, by decide, gw_at 285 (by decide +kernel) rfl⟩, List.forall_mem_cons.mpr ⟨⟨_, rfl, by decide, gw_at 286 (by decide +kernel) rfl⟩, List.forall_mem_cons.mpr ⟨⟨_, rfl, by decide, gw_at 287 (by decide +kernel) rfl⟩, List.forall_mem_cons.mpr ⟨⟨_, rfl, by decide, gw_at 288 (by decide +kernel) rfl⟩, List.forall_mem_cons.mpr ⟨⟨_, rfl, by decide, gw_at 290 (by decide +kernel) rfl⟩, List.forall_mem_cons.mpr ⟨⟨_, rfl, by decide, gw_at 190 (by decide +kernel) rfl⟩, List.forall_mem_cons.mpr ⟨⟨_, rfl, by decide, gw_at 184 (by decide +kernel) rfl⟩, List.forall_mem_cons.mpr ⟨⟨_, rfl, by decide, gw_at 139 (by decide +kernel) rfl⟩, List.forall_mem_cons.mpr ⟨⟨_, rfl, by decide, gw_at 142 (by decide +kernel) rfl⟩, List.forall_mem_cons.mpr ⟨⟨_, rfl, by decide, gw_at 145 (by decide +kernel) rfl⟩, List.forall_mem_cons.mpr ⟨⟨_, rfl, by decide, gw_at 148 (by decide +kernel) rfl⟩, List.forall_mem_cons.mpr ⟨⟨_, rfl, by decide, gw_at 150 (by decide +kernel) rfl⟩, List.forall_mem_cons.mpr ⟨⟨_, rfl, by decide, gw_at 152 (by decide +kernel) rfl⟩, List.forall_mem_cons.mpr ⟨⟨_, rfl, by decide, gw_at 158 (by decide +kernel) rfl⟩, List.forall_mem_cons.mpr ⟨⟨_, rfl, by decide, gw_at 155 (by decide +kernel) rfl⟩, List.forall_mem_cons.mpr ⟨⟨_, rfl, by decide, gw_at 192 (by decide +kernel) rfl⟩, List.forall_mem_cons.mpr ⟨⟨_, rfl, by decide, gw_at 194 (by decide +kernel) rfl⟩, List.forall_mem_cons.mpr ⟨⟨_, rfl, by decide, gw_at 196 (by decide +kernel) rfl⟩, List.forall_mem_cons.mpr ⟨⟨_, rfl, by decide, gw_at 227 (by decide +kernel) rfl⟩, List.forall_mem_cons.mpr ⟨⟨_, rfl, by decide, gw_at 229 (by decide +kernel) rfl⟩, List.forall_mem_cons.mpr ⟨⟨_, rfl, by decide, gw_at 198 (by decide +kernel) rfl⟩, List.forall_mem_cons.mpr ⟨⟨_, rfl, by decide, gw_at 186 (by decide +kernel) rfl⟩, List.forall_mem_cons.mpr ⟨⟨_, rfl, by decide, gw_at 873 (by decide +kernel) rfl⟩, List.forall_mem_cons.mpr ⟨⟨_, rfl, by decide, gw_at 875 (by decide +kernel) rfl⟩, List.forall_mem_cons.mpr ⟨⟨_, rfl, by decide, gw_at 188 (by decide +kernel) rfl⟩, List.forall_mem_cons.mpr ⟨⟨_, rfl, by decide, gw_at 264 (by decide +kernel) rfl⟩, List.forall_mem_cons.mpr ⟨⟨_, rfl, by decide, gw_at 268 (by decide +kernel) rfl⟩, List.forall_mem_cons.mpr ⟨⟨_, rfl, by decide, gw_at 266 (by decide +kernel) rfl⟩, List.forall_mem_cons.mpr ⟨⟨_, rfl, by decide, gw_at 289 (by decide +kernel) rfl⟩, List.forall_mem_cons.mpr ⟨⟨_, rfl, by decide, gw_at 281 (by decide +kernel) rfl⟩, fun _ h => absurd h List.not_mem_nil⟩⟩⟩⟩⟩⟩⟩⟩⟩⟩⟩⟩⟩⟩⟩⟩⟩⟩⟩⟩⟩⟩⟩⟩⟩⟩⟩⟩⟩⟩⟩⟩⟩⟩⟩⟩
theorem kk_11 : ∀ q ∈ kc_11, sv_1k RX11 q.1 q.2 := List.forall_mem_cons.mpr ⟨gw_at 330 (by decide +kernel) rfl, List.forall_mem_cons.mpr ⟨gw_at 331 (by decide +kernel) rfl, List.forall_mem_cons.mpr ⟨gw_at 352 (by decide +kernel) rfl, List.forall_mem_cons.mpr ⟨gw_at 476 (by decide +kernel) rfl, List.forall_mem_cons.mpr ⟨gw_at 506 (by decide +kernel) rfl, List.forall_mem_cons.mpr ⟨gw_at 630 (by decide +kernel) rfl, List.forall_mem_cons.mpr ⟨gw_at 903 (by decide +kernel) rfl, List.forall_mem_cons.mpr ⟨gw_at 914 (by decide +kernel) rfl, List.forall_mem_cons.mpr ⟨gw_at 915 (by decide +kernel) rfl, List.forall_mem_cons.mpr ⟨gw_at 916 (by decide +kernel) rfl, fun _ h => absurd h List.not_mem_nil⟩⟩⟩⟩⟩⟩⟩⟩⟩⟩
theorem gk_11 : ∀ idx, Nat.beq idx 166 = true → Cond.fieldLink RX11 idx "OneStroke" "ABOVE" "[I" ∈ gw_tbl := fun idx h => (Nat.eq_of_beq_eq_true h) ▸ gw_at 325 (by decide +kernel) rfl
theorem fk_12 : ∀ q ∈ fl_12, sv_fk RX12 q.1 q.2.1 q.2.2 := List.forall_mem_cons.mpr ⟨⟨_, rfl, by decide, gw_at 990 (by decide +kernel) rfl⟩, List.forall_mem_cons.mpr ⟨⟨_, rfl, by decide, gw_at 991 (by decide +kernel) rfl⟩, List.forall_mem_cons.mpr ⟨⟨_, rfl, by decide, gw_at 992 (by decide +kernel) rfl⟩, List.forall_mem_cons.mpr ⟨⟨_, rfl, by decide, gw_at 994 (by decide +kernel) rfl⟩, List.forall_mem_cons.mpr ⟨⟨_, rfl, by decide, gw_at 995 (by decide +kernel) rfl⟩, List.forall_mem_cons.mpr ⟨⟨_, rfl, by decide, gw_at 996 (by decide +kernel) rfl⟩, List.forall_mem_cons.mpr ⟨⟨_, rfl, by decide, gw_at 997 (by decide +kernel) rfl⟩, List.forall_mem_cons.mpr ⟨⟨_, rfl, by decide, gw_at 998 (by decide +kernel) rfl⟩, List.forall_mem_cons.mpr ⟨⟨_, rfl, by decide, gw_at 999 (by decide +kernel) rfl⟩, List.forall_mem_cons.mpr ⟨⟨_, rfl, by decide, gw_at 1000 (by decide +kernel) rfl⟩, List.forall_mem_cons.mpr ⟨⟨_, rfl, by decide, gw_at 1001 (by decide +kernel) rfl⟩, List.forall_mem_cons.mpr ⟨⟨_, rfl, by decide, gw_at 1002 (by decide +kernel) rfl⟩, List.forall_mem_cons.mpr ⟨⟨_, rfl, by decide, gw_at 1003 (by decide +kernel) rfl⟩, List.forall_mem_cons.mpr ⟨⟨_, rfl, by decide, gw_at 1004 (by decide +kernel) rfl⟩, List.forall_mem_cons.mpr ⟨⟨_, rfl, by decide, gw_at 1006 (by decide +kernel) rfl⟩, List.forall_mem_cons.mpr ⟨⟨_, rfl, by decide, gw_at 1018 (by decide +kernel) rfl⟩, List.forall_mem_cons.mpr ⟨⟨_, rfl, by decide, gw_at 1019 (by decide +kernel) rfl⟩, List.forall_mem_cons.mpr ⟨⟨_, rfl, by decide, gw_at 1020 (by decide +kernel) rfl⟩, List.forall_mem_cons.mpr ⟨⟨_, rfl, by decide, gw_at 1021 (by decide +kernel) rfl⟩, List.forall_mem_cons.mpr ⟨⟨_, rfl, by decide, gw_at 1023 (by decide +kernel) rfl⟩, List.forall_mem_cons.mpr ⟨⟨_, rfl, by decide, gw_at 1005 (by decide +kernel) rfl⟩, List.forall_mem_cons.mpr ⟨⟨_, rfl, by decide, gw_at 1007 (by decide +kernel) rfl⟩, List.forall_mem_cons.mpr ⟨⟨_, rfl, by decide, gw_at 1009 (by decide +kernel) rfl⟩, List.forall_mem_cons.mpr ⟨⟨_, rfl, by decide, gw_at 1010 (by decide +kernel) rfl⟩, List.forall_mem_cons.mpr ⟨⟨_, rfl, by decide, gw_at 1008 (by decide +kernel) rfl⟩, List.forall_mem_cons.mpr ⟨⟨_, rfl, by decide, gw_at 1012 (by decide +kernel) rfl⟩, List.forall_mem_cons.mpr ⟨⟨_, rfl, by decide, gw_at 1011 (by decide +kernel) rfl⟩, List.forall_mem_cons.mpr ⟨⟨_, rfl, by decide, gw_at 1016 (by decide +kernel) rfl⟩, List.forall_mem_cons.mpr ⟨⟨_, rfl, by decide, gw_at 1015 (by decide +kernel) rfl⟩, List.forall_mem_cons.mpr ⟨⟨_, rfl, by decide, gw_at 1017 (by decide +kernel) rfl⟩, List.forall_mem_cons.mpr ⟨⟨_, rfl, by decide, gw_at 1014 (by decide +kernel) rfl⟩, List.forall_mem_cons.mpr ⟨⟨_, rfl, by decide, gw_at 1013 (by decide +kernel) rfl⟩, List.forall_mem_cons.mpr ⟨⟨_, rfl, by decide, gw_at 1022 (by decide +kernel) rfl⟩, List.forall_mem_cons.mpr ⟨⟨_, rfl, by decide, gw_at 993 (by decide +kernel) rfl⟩, fun _ h => absurd h List.not_mem_nil⟩⟩⟩⟩⟩⟩⟩⟩⟩⟩⟩⟩⟩⟩⟩⟩⟩⟩⟩⟩⟩⟩⟩⟩⟩⟩⟩⟩⟩⟩⟩⟩⟩⟩
theorem kk_12 : ∀ q ∈ kc_12, sv_1k RX12 q.1 q.2 := List.forall_mem_cons.mpr ⟨gw_at 1124 (by decide +kernel) rfl, List.forall_mem_cons.mpr ⟨gw_at 1206 (by decide +kernel) rfl, List.forall_mem_cons.mpr ⟨gw_at 1097 (by decide +kernel) rfl, List.forall_mem_cons.mpr ⟨gw_at 1101 (by decide +kernel) rfl, List.forall_mem_cons.mpr ⟨gw_at 1102 (by decide +kernel) rfl, List.forall_mem_cons.mpr ⟨gw_at 1103 (by decide +kernel) rfl, List.forall_mem_cons.mpr ⟨gw_at 1178 (by decide +kernel) rfl, List.forall_mem_cons.mpr ⟨gw_at 1191 (by decide +kernel) rfl, List.forall_mem_cons.mpr ⟨gw_at 1196 (by decide +kernel) rfl, List.forall_mem_cons.mpr ⟨gw_at 1201 (by decide +kernel) rfl, List.forall_mem_cons.mpr ⟨gw_at 1223 (by decide +kernel) rfl, List.forall_mem_cons.mpr ⟨gw_at 1243 (by decide +kernel) rfl, List.forall_mem_cons.mpr ⟨gw_at 1283 (by decide +kernel) rfl, List.forall_mem_cons.mpr ⟨gw_at 1288 (by decide +kernel) rfl, List.forall_mem_cons.mpr ⟨gw_at 1301 (by decide +kernel) rfl, List.forall_mem_cons.mpr ⟨gw_at 1338 (by decide +kernel) rfl, List.forall_mem_cons.mpr ⟨gw_at 1339 (by decide +kernel) rfl, List.forall_mem_cons.mpr ⟨gw_at 1344 (by decide +kernel) rfl, List.forall_mem_cons.mpr ⟨gw_at 1345 (by decide +kernel) rfl, List.forall_mem_cons.mpr ⟨gw_at 1412 (by decide +kernel) rfl, List.forall_mem_cons.mpr ⟨gw_at 1413 (by decide +kernel) rfl, List.forall_mem_cons.mpr ⟨gw_at 1418 (by decide +kernel) rfl, List.forall_mem_cons.mpr ⟨gw_at 1419 (by decide +kernel) rfl, List.forall_mem_cons.mpr ⟨gw_at 1420 (by decide +kernel) rfl, List.forall_mem_cons.mpr ⟨gw_at 1421 (by decide +kernel) rfl, List.forall_mem_cons.mpr ⟨gw_at 1448 (by decide +kernel) rfl, fun _ h => absurd h List.not_mem_nil⟩⟩⟩⟩⟩⟩⟩⟩⟩⟩⟩⟩⟩⟩⟩⟩⟩⟩⟩⟩⟩⟩⟩⟩⟩⟩
theorem ln_gen {own : String} {fl : List (Nat × (Nat × Nat))} {kc : List (Nat × sv_V)} {gs : Nat → Bool} {nl : Bool} {cs : Nat → Option (Nat × sv_F)} (h1 : ∀ q ∈ fl, sv_fk own q.1 q.2.1 q.2.2) (h2 : ∀ q ∈ kc, sv_1k own q.1 q.2) (h3 : ∀ idx, gs idx = true → Cond.fieldLink own idx "OneStroke" "ABOVE" "[I" ∈ gw_tbl) : sv_lnk own (fun i => sv_lk i fl, (fun i => sv_lk i kc, (gs, (nl, cs)))) :=
  ⟨fun idx q h => sv_lk_all (P := fun i (x : Nat × Nat) => sv_fk own i x.1 x.2) h1 idx q h, fun idx v h => sv_lk_all (P := fun i x => sv_1k own i x) h2 idx v h, h3⟩
theorem sv_ns (x : Nat → Bool) (h : ∀ i, x i = false) (own : String) : ∀ idx, x idx = true → Cond.fieldLink own idx "OneStroke" "ABOVE" "[I" ∈ gw_tbl := fun idx q => by rw [h idx] at q; cases q
/-- a run of a method -/
theorem sv_run {β : Type} {Γ : sv_Ga} {E : sv_E} {cc : ByteArray} {rt : sv_V → sv_S → Option β} {res : β} (X : sv_Ok Γ E cc rt res) {cd : sv_C} (hD : cd.all (sv_dk cc) = true) {K : sv_K β} (hK : ∀ pc k, K pc = some k → ∀ lo st σ, k lo st σ = some res → sv_T Γ pc lo st σ) : ∀ (n pc : Nat) (lo : sv_Lo) (st : List sv_V) (σ : sv_S), sv_ex E rt K cd n pc lo st σ = some res → sv_T Γ pc lo st σ := by
  obtain ⟨p, l, e, R, s, m, args, below, meth, c, cells, slots, Q, base, ad, dC, dI, cA, nl, nL, n0⟩ := Γ
  obtain ⟨rfl, hx, hb, hts, ⟨own, hown, hE1, hE2, hE3⟩, hkn, hE4, hrI, hrA, hrV⟩ := X
  exact sv_ex_ok hx hb hts hown hkn ck_all hE1 hE2 hE3 hE4 hrI hrA hrV hD hK
section SVM
variable {l : Launch} {y : MethodName} {cc : ByteArray} {nL h : Nat} {E : sv_E}
/-- what a method's calls are, at height h -/
def sv_calls (l : Launch) (own : String) (cc : ByteArray) (nL h : Nat) (E : sv_E) : Prop := ∀ (p : Program) (e : Env) (R : Room) (s : State) (m : MethodId) (args : Array Value) (below : List Frame) (meth : Method) (c : Code) (cells slots : Nat) (Q : State → Prop) (base : Nat) (ad : Nat → Nat → Nat) (dC : Nat → ClassId) (dI : Nat → Nat → Nat) (cA : Nat → ClassId) (n0 : Nat), CallFix p m c cc nL s args gw_tbl own → sv_kn base ad dC dI cA s → h ≤ R.frames ∧ 64 * h ≤ R.locals → cells ≤ R.cells ∧ slots ≤ R.slots →
  ∀ pc n f, E.2.2.2.2 pc = some (n, f) → sv_cok p l e R s m args below meth c cells slots Q base ad dC dI cA E.2.2.2.1 nL n0 pc n f
/-- what a method's answer may be -/
def sv_rok (ret : Option FieldType) (r : Option sv_V) (w : sv_V) : Prop := match ret with
  | none => r = none ∧ ∃ n, w = sv_L n
  | some .int => r = some w ∧ ∃ n, w = .inl n
  | some .boolean => r = some w ∧ (w = .inl 0 ∨ w = .inl 1)
  | some (.object _) => r = some w ∧ (w = sv_N ∨ ∃ r i, w = sv_R r i)
  | _ => False
theorem sv_mG {β : Type} {rt : sv_V → sv_S → Option β} {G : sv_D} {F : List sv_V → sv_S → Option β} {ret : Option FieldType} (hy : plainName y.cls = true) (hlk : sv_lnk y.cls E) (hc : sv_calls l y.cls cc nL h E) (hlen : ∀ as σ x, G as σ = some x → (sv_l0 as).length ≤ nL) (hnl : E.2.2.2.1 = true → ∀ as σ x, G as σ = some x → ∀ v ∈ as, sv_1 v)
    (hGF : ∀ as σ r σ', G as σ = some (r, σ') → ∃ res, F as σ = some res ∧ (∀ w τ, rt w τ = some res → τ = σ' ∧ sv_rok ret r w))
    (body : ∀ (Γ : sv_Ga) (res : β), sv_Ok Γ E cc rt res → ∀ as σ, F as σ = some res → sv_T Γ 0 (sv_e0 nL as) [] σ) : sv_M l y cc nL ret G h := by
  intro base ad dC dI cA as σ r σ' hG has
  obtain ⟨res, hF, hrt⟩ := hGF as σ r σ' hG
  refine Met.ofW (cc := cc) (maxL := nL) (ret := ret) hy rfl ?_
  intro p e s m args below meth c s₁ B hml hv
  obtain ⟨rfl, hkn, hrep⟩ := hv
  have hx := B.exec
  have hb := B.bytes
  have hr := B.returns
  have hts := atoms_spec (ws := sv_ws y cc nL ret) B.pre
  have hts' : ∀ w ∈ gw_tbl, w.before (List.map (sv_c ad) as).toArray s = true := fun w hw => hts w (List.mem_cons_of_mem _ hw)
  have hown : s.vm.findClass y.cls = some m.cls := findClass_of_methodNamed B.named
  have hlocks := B.notSynchronized
  have hll := hlen as σ _ hG
  have hl := lv_entry (as.map (sv_c ad)) (n := nL) (by rw [← sv_l0_len ad]; exact hll)
  rw [lg_entry_eq]
  generalize (lg_sl (as.map (sv_c ad)) ++ List.replicate (nL - (lg_sl (as.map (sv_c ad))).length) Slot.unset).toArray = ls at hl ⊢
  have hL : sv_lh ad ls nL (sv_e0 nL as) := by
    refine ⟨?_, ?_⟩
    · unfold sv_e0
      rw [List.length_append, List.length_replicate]
      omega
    · unfold sv_e0
      rw [sv_ll_l0]
      exact hl
  have hS : va_S (fun q => base ≤ q) s.heap s.heap [] := va_S.rf
  have hok : ∀ i v, sv_ga (sv_e0 nL as) i = some v → sv_ok (sv_ct σ) v ∧ (E.2.2.2.1 = true → sv_1 v) := fun i v hi => ⟨has v (sv_ga_l0 as _ i v hi), fun q => hnl q as σ _ hG v (sv_ga_l0 as _ i v hi)⟩
  have key := body (p, (l, (e, ((headSpec (sv_ws y cc nL ret) (sv_rm h)).room, (s, (m, ((List.map (sv_c ad) as).toArray, (below, (meth, (c, (0, (0, (MQ below (sv_Qc base ad dC dI cA (sv_ct σ) r σ') (List.map (sv_c ad) as).toArray s 0 0 (fun q => base ≤ q), (base, (ad, (dC, (dI, (cA, (E.2.2.2.1, (nL, sv_ct σ)))))))))))))))))))) res
    ⟨rfl, hx, hb, hts', ⟨y.cls, hown, hlk⟩, hkn, hc p e _ s m _ below meth c 0 0 _ base ad dC dI cA (sv_ct σ) ⟨hx, hb, hml, hown, hts'⟩ hkn ⟨Nat.le_refl _, Nat.le_refl _⟩ ⟨Nat.le_refl _, Nat.le_refl _⟩, ?_, ?_, ?_⟩ as σ hF
  · exact key s.heap [] ls hrep hS hL rfl (fun v hv => by cases hv) hok
  · intro pc lo n τ hdg hn H locs ls' hR1 hS1 hL1 hct1 hst1 hlo1
    obtain ⟨rfl, hq⟩ := hrt _ _ hn
    unfold sv_rok at hq
    split at hq
    · obtain ⟨-, n', hn'⟩ := hq; cases hn'
    · obtain ⟨rfl, -⟩ := hq
      exact W.iret hx hb hr (fun t ht hW => ⟨rfl, by rw [ht]; exact hR1, hS1.F ht, fun v hv => by cases hv; exact hst1 _ List.mem_cons_self, hct1⟩) hS1.2.2 hdg
    · obtain ⟨rfl, hz⟩ := hq
      refine W.zret hx hb hr ?_ (fun t ht hW => ⟨rfl, by rw [ht]; exact hR1, hS1.F ht, fun v hv => by cases hv; exact hst1 _ List.mem_cons_self, hct1⟩) hS1.2.2 hdg
      rcases hz with hz | hz <;> (cases hz; decide)
    · obtain ⟨-, hz | ⟨r', i', hz⟩⟩ := hq <;> cases hz
    · exact absurd hq (fun q => q)
  · intro pc lo v τ hdg hv hn H locs ls' hR1 hS1 hL1 hct1 hst1 hlo1
    obtain ⟨rfl, hq⟩ := hrt _ _ hn
    unfold sv_rok at hq
    split at hq
    · obtain ⟨-, n', hn'⟩ := hq
      rcases hv with rfl | ⟨r', i', rfl⟩ <;> cases hn'
    · obtain ⟨-, n', hn'⟩ := hq
      rcases hv with rfl | ⟨r', i', rfl⟩ <;> cases hn'
    · obtain ⟨-, hz⟩ := hq
      rcases hv with rfl | ⟨r', i', rfl⟩ <;> (rcases hz with hz | hz <;> cases hz)
    · rename_i C
      obtain ⟨rfl, hz⟩ := hq
      refine W.aret hx hb hr (Or.inl ⟨C, rfl⟩) ?_ (fun t ht hW => ⟨rfl, by rw [ht]; exact hR1, hS1.F ht, fun v hv => by cases hv; exact hst1 _ List.mem_cons_self, hct1⟩) hS1.2.2 hdg
      rcases hz with rfl | ⟨r', i', rfl⟩
      · exact Or.inl rfl
      · exact Or.inr ⟨_, rfl⟩
    · exact absurd hq (fun q => q)
  · intro pc lo τ hdg hn H locs ls' hR1 hS1 hL1 hct1 hst1 hlo1
    obtain ⟨rfl, hq⟩ := hrt _ _ hn
    unfold sv_rok at hq
    split at hq
    · obtain ⟨rfl, -⟩ := hq
      exact W.vret hx hb hr (fun t ht hW => ⟨rfl, by rw [ht]; exact hR1, hS1.F ht, fun v hv => (by cases hv), hct1⟩) hS1.2.2 hdg
    · obtain ⟨-, n', hn'⟩ := hq; cases hn'
    · obtain ⟨-, hz⟩ := hq
      rcases hz with hz | hz <;> cases hz
    · obtain ⟨-, hz | ⟨r', i', hz⟩⟩ := hq <;> cases hz
    · exact absurd hq (fun q => q)
/-- the arguments of a function: as many as there is room for, no longs but where it says so -/
def sv_args (nL : Nat) (nl : Bool) (as : List sv_V) : Prop := (sv_l0 as).length ≤ nL ∧ (nl = true → ∀ v ∈ as, sv_1 v)
theorem sv_mI {F : List sv_V → sv_S → Option (Int32 × sv_S)} (hy : plainName y.cls = true) (hlk : sv_lnk y.cls E) (hc : sv_calls l y.cls cc nL h E) (ha : ∀ as σ x, F as σ = some x → sv_args nL E.2.2.2.1 as) (body : ∀ (Γ : sv_Ga) (res : Int32 × sv_S), sv_Ok Γ E cc sv_rI res → ∀ as σ, F as σ = some res → sv_T Γ 0 (sv_e0 nL as) [] σ) : sv_M l y cc nL (some .int) (sv_gI F) h := by
  have hx : ∀ as σ x, sv_gI F as σ = some x → ∃ z, F as σ = some z := fun as σ x hq => by obtain ⟨a, τ, h1, -⟩ := sv_b_some hq; exact ⟨_, h1⟩
  refine sv_mG (F := F) (rt := sv_rI) hy hlk hc (fun as σ x hq => by obtain ⟨z, hz⟩ := hx as σ x hq; exact (ha as σ z hz).1) (fun q as σ x hq => by obtain ⟨z, hz⟩ := hx as σ x hq; exact (ha as σ z hz).2 q) (fun as σ r σ' hq => ?_) body
  obtain ⟨a, τ, h1, h2⟩ := sv_b_some hq
  cases h2
  refine ⟨_, h1, fun w τ' hw => ?_⟩
  unfold sv_rI at hw
  split at hw
  · cases hw; exact ⟨rfl, rfl, _, rfl⟩
  · cases hw
theorem sv_mZ {F : List sv_V → sv_S → Option (Int32 × sv_S)} (hy : plainName y.cls = true) (hlk : sv_lnk y.cls E) (hc : sv_calls l y.cls cc nL h E) (ha : ∀ as σ x, F as σ = some x → sv_args nL E.2.2.2.1 as) (body : ∀ (Γ : sv_Ga) (res : Int32 × sv_S), sv_Ok Γ E cc sv_rZ res → ∀ as σ, F as σ = some res → sv_T Γ 0 (sv_e0 nL as) [] σ) : sv_M l y cc nL (some .boolean) (sv_gI F) h := by
  have hx : ∀ as σ x, sv_gI F as σ = some x → ∃ z, F as σ = some z := fun as σ x hq => by obtain ⟨a, τ, h1, -⟩ := sv_b_some hq; exact ⟨_, h1⟩
  refine sv_mG (F := F) (rt := sv_rZ) hy hlk hc (fun as σ x hq => by obtain ⟨z, hz⟩ := hx as σ x hq; exact (ha as σ z hz).1) (fun q as σ x hq => by obtain ⟨z, hz⟩ := hx as σ x hq; exact (ha as σ z hz).2 q) (fun as σ r σ' hq => ?_) body
  obtain ⟨a, τ, h1, h2⟩ := sv_b_some hq
  cases h2
  refine ⟨_, h1, fun w τ' hw => ?_⟩
  unfold sv_rZ at hw
  split at hw
  · obtain ⟨hz, hw⟩ := sv_g_some hw
    cases hw
    refine ⟨rfl, rfl, ?_⟩
    rcases hz with rfl | rfl
    · exact Or.inl rfl
    · exact Or.inr rfl
  · cases hw
theorem sv_mV {F : List sv_V → sv_S → Option sv_S} (hy : plainName y.cls = true) (hlk : sv_lnk y.cls E) (hc : sv_calls l y.cls cc nL h E) (ha : ∀ as σ x, F as σ = some x → sv_args nL E.2.2.2.1 as) (body : ∀ (Γ : sv_Ga) (res : sv_S), sv_Ok Γ E cc sv_rV res → ∀ as σ, F as σ = some res → sv_T Γ 0 (sv_e0 nL as) [] σ) : sv_M l y cc nL none (sv_gV F) h := by
  have hx : ∀ as σ x, sv_gV F as σ = some x → ∃ z, F as σ = some z := fun as σ x hq => by obtain ⟨τ, h1, -⟩ := sv_b0_some hq; exact ⟨_, h1⟩
  refine sv_mG (F := F) (rt := sv_rV) hy hlk hc (fun as σ x hq => by obtain ⟨z, hz⟩ := hx as σ x hq; exact (ha as σ z hz).1) (fun q as σ x hq => by obtain ⟨z, hz⟩ := hx as σ x hq; exact (ha as σ z hz).2 q) (fun as σ r σ' hq => ?_) body
  obtain ⟨τ, h1, h2⟩ := sv_b0_some hq
  cases h2
  refine ⟨_, h1, fun w τ' hw => ?_⟩
  unfold sv_rV at hw
  split at hw
  · cases hw; exact ⟨rfl, rfl, _, rfl⟩
  · cases hw
theorem sv_mR {C : String} {q : Nat} {F : List sv_V → sv_S → Option (Nat × sv_S)} (hy : plainName y.cls = true) (hlk : sv_lnk y.cls E) (hc : sv_calls l y.cls cc nL h E) (ha : ∀ as σ x, F as σ = some x → sv_args nL E.2.2.2.1 as) (body : ∀ (Γ : sv_Ga) (res : Nat × sv_S), sv_Ok Γ E cc (sv_rR q) res → ∀ as σ, F as σ = some res → sv_T Γ 0 (sv_e0 nL as) [] σ) : sv_M l y cc nL (some (.object C)) (sv_gR q F) h := by
  have hx : ∀ as σ x, sv_gR q F as σ = some x → ∃ z, F as σ = some z := fun as σ x hq => by obtain ⟨a, τ, h1, -⟩ := sv_b_some hq; exact ⟨_, h1⟩
  refine sv_mG (F := F) (rt := sv_rR q) hy hlk hc (fun as σ x hq => by obtain ⟨z, hz⟩ := hx as σ x hq; exact (ha as σ z hz).1) (fun q as σ x hq => by obtain ⟨z, hz⟩ := hx as σ x hq; exact (ha as σ z hz).2 q) (fun as σ r σ' hq => ?_) body
  obtain ⟨a, τ, h1, h2⟩ := sv_b_some hq
  cases h2
  refine ⟨_, h1, fun w τ' hw => ?_⟩
  unfold sv_rR at hw
  split at hw
  · rename_i r0 i0
    cases hb : Nat.beq r0 q with
    | false => rw [hb] at hw; cases hw
    | true =>
      rw [hb] at hw
      cases hw
      rw [Nat.eq_of_beq_eq_true hb]
      exact ⟨rfl, rfl, Or.inr ⟨_, _, rfl⟩⟩
  · cases hw
theorem sv_mT {C : String} {F : List sv_V → sv_S → Option (Option Nat × sv_S)} (hy : plainName y.cls = true) (hlk : sv_lnk y.cls E) (hc : sv_calls l y.cls cc nL h E) (ha : ∀ as σ x, F as σ = some x → sv_args nL E.2.2.2.1 as) (body : ∀ (Γ : sv_Ga) (res : Option Nat × sv_S), sv_Ok Γ E cc sv_rT res → ∀ as σ, F as σ = some res → sv_T Γ 0 (sv_e0 nL as) [] σ) : sv_M l y cc nL (some (.object C)) (sv_gT F) h := by
  have hx : ∀ as σ x, sv_gT F as σ = some x → ∃ z, F as σ = some z := fun as σ x hq => by rcases sv_bT_some hq with ⟨τ, h1, -⟩ | ⟨t, τ, h1, -⟩ <;> exact ⟨_, h1⟩
  refine sv_mG (F := F) (rt := sv_rT) hy hlk hc (fun as σ x hq => by obtain ⟨z, hz⟩ := hx as σ x hq; exact (ha as σ z hz).1) (fun q as σ x hq => by obtain ⟨z, hz⟩ := hx as σ x hq; exact (ha as σ z hz).2 q) (fun as σ r σ' hq => ?_) body
  rcases sv_bT_some hq with ⟨τ, h1, h2⟩ | ⟨t, τ, h1, h2⟩
  all_goals
    cases h2
    refine ⟨_, h1, fun w τ' hw => ?_⟩
    unfold sv_rT at hw
    split at hw
  · cases hw; exact ⟨rfl, rfl, Or.inl rfl⟩
  · rename_i r0 i0
    cases hb : Nat.beq r0 18 with
    | false => rw [hb] at hw; cases hw
    | true => rw [hb] at hw; cases hw
  · cases hw
  · cases hw
  · rename_i r0 i0
    cases hb : Nat.beq r0 18 with
    | false => rw [hb] at hw; cases hw
    | true =>
      rw [hb] at hw
      cases hw
      rw [Nat.eq_of_beq_eq_true hb]
      exact ⟨rfl, rfl, Or.inr ⟨_, _, rfl⟩⟩
  · cases hw
end SVM
end
section
noncomputable def f_Mo_isIn (a0 : Int64) (a1 : Int64) (a2 : Int64) (σ : sv_S) : Option (Int32 × sv_S) :=
  sv_if ((lg_cmp a0 a1) < 0)
    (sv_g ((0 : Int32) = 0 ∨ (0 : Int32) = 1) (some ((0 : Int32), σ)))
    (sv_if (0 < (lg_cmp a0 a2))
      (sv_g ((0 : Int32) = 0 ∨ (0 : Int32) = 1) (some ((0 : Int32), σ)))
      (sv_g ((1 : Int32) = 0 ∨ (1 : Int32) = 1) (some ((1 : Int32), σ))))
noncomputable def n_Mo_isIn : List sv_V → sv_S → Option (Int32 × sv_S)
  | [.inr (.inl a0), .inr (.inl a1), .inr (.inl a2)], σ => f_Mo_isIn a0 a1 a2 σ
  | _, _ => none
def cd_Mo_isIn : sv_C := [(0, (.lload_n 0, (sv_N, (1, (0, []))))), (1, (.lload_n 2, (sv_N, (2, (0, []))))), (2, (.lcmp, (sv_N, (3, (0, []))))), (3, (.ifCond .lt 14, (sv_N, (6, (17, []))))), (6, (.lload_n 0, (sv_N, (7, (0, []))))), (7, (.lload 4, (sv_N, (9, (0, []))))), (9, (.lcmp, (sv_N, (10, (0, []))))), (10, (.ifCond .gt 7, (sv_N, (13, (17, []))))), (13, (.iconst 1, (.inl (1 : Int32), (14, (0, []))))), (14, (.goto 4, (sv_N, (17, (18, []))))), (17, (.iconst 0, (.inl (0 : Int32), (18, (0, []))))), (18, (.ireturn, (sv_N, (19, (0, [])))))]
noncomputable def ev_Mo_isIn : sv_E := (fun i => sv_lk i fl_12, (fun i => sv_lk i kc_12, (fun _ => false, (false, fun pc => sv_lk pc []))))
noncomputable def kk_Mo_isIn : sv_K (Int32 × sv_S) := fun pc => sv_lk pc []
set_option maxRecDepth 20000 in
theorem e_Mo_isIn (a0 : Int64) (a1 : Int64) (a2 : Int64) (σ : sv_S) : sv_ex ev_Mo_isIn sv_rZ kk_Mo_isIn cd_Mo_isIn 14 0 [some (sv_L a0), none, some (sv_L a1), none, some (sv_L a2), none] [] σ = f_Mo_isIn a0 a1 a2 σ := by
  unfold f_Mo_isIn
  delta ev_Mo_isIn kk_Mo_isIn
  rfl
theorem d_Mo_isIn : cd_Mo_isIn.all (sv_dk cX12_isIn) = true := by decide +kernel
set_option maxRecDepth 20000 in
theorem b_Mo_isIn (Γ : sv_Ga) (res : Int32 × sv_S) (X : sv_Ok Γ ev_Mo_isIn cX12_isIn sv_rZ res) (as : List sv_V) (σ : sv_S) (h : n_Mo_isIn as σ = some res) : sv_T Γ 0 (sv_e0 6 as) [] σ := by
  unfold n_Mo_isIn at h
  split at h
  · refine sv_run X d_Mo_isIn (K := kk_Mo_isIn) (sv_lk_all (P := fun pc (k : sv_Lo → List sv_V → sv_S → Option (Int32 × sv_S)) => ∀ lo st σ, k lo st σ = some res → sv_T Γ pc lo st σ) ?_) _ _ _ _ _ ((e_Mo_isIn _ _ _ _).trans h)
    clear h
    exact fun _ h => absurd h List.not_mem_nil
  · cases h
theorem a_Mo_isIn (as : List sv_V) (σ : sv_S) (x : Int32 × sv_S) (h : n_Mo_isIn as σ = some x) : sv_args 6 ev_Mo_isIn.2.2.2.1 as := by
  unfold n_Mo_isIn at h
  split at h
  · exact ⟨Nat.le_of_ble_eq_true rfl, fun q => by cases q⟩
  · cases h

set_option maxRecDepth 20000 in
theorem m_Mo_isIn (l : Launch) : sv_M l yX12_isIn cX12_isIn 6 (some .boolean) (sv_gI n_Mo_isIn) 0 := by
  refine sv_mZ (E := ev_Mo_isIn) (by decide +kernel) (ln_gen fk_12 kk_12 (sv_ns _ (fun _ => rfl) _)) ?_ a_Mo_isIn b_Mo_isIn
  intro p e R s m args below meth c cells slots Q base ad dC dI cA n0 S hkn hR hf pc n f h
  refine sv_lk_all (P := fun pc (x : Nat × sv_F) => sv_cok p l e R s m args below meth c cells slots Q base ad dC dI cA false 6 n0 pc x.1 x.2) ?_ pc (n, f) h
  exact fun _ h => absurd h List.not_mem_nil
noncomputable def f_Mo_orNone (a0 : Int32) (σ : sv_S) : Option (Int32 × sv_S) :=
  sv_if (0 ≤ a0)
    (some (a0, σ))
    (some ((-1000000005 : Int32), σ))
noncomputable def n_Mo_orNone : List sv_V → sv_S → Option (Int32 × sv_S)
  | [.inl a0], σ => f_Mo_orNone a0 σ
  | _, _ => none
def cd_Mo_orNone : sv_C := [(0, (.iload_n 0, (sv_N, (1, (0, []))))), (1, (.ifCond .ge 8, (sv_N, (4, (9, []))))), (4, (.ldc 70, (sv_N, (6, (0, []))))), (6, (.goto 4, (sv_N, (9, (10, []))))), (9, (.iload_n 0, (sv_N, (10, (0, []))))), (10, (.ireturn, (sv_N, (11, (0, [])))))]
noncomputable def ev_Mo_orNone : sv_E := (fun i => sv_lk i fl_12, (fun i => sv_lk i kc_12, (fun _ => false, (true, fun pc => sv_lk pc []))))
noncomputable def kk_Mo_orNone : sv_K (Int32 × sv_S) := fun pc => sv_lk pc []
set_option maxRecDepth 20000 in
theorem e_Mo_orNone (a0 : Int32) (σ : sv_S) : sv_ex ev_Mo_orNone sv_rI kk_Mo_orNone cd_Mo_orNone 8 0 [some (.inl a0)] [] σ = f_Mo_orNone a0 σ := by
  unfold f_Mo_orNone
  delta ev_Mo_orNone kk_Mo_orNone
  rfl
theorem d_Mo_orNone : cd_Mo_orNone.all (sv_dk cX12_orNone) = true := by decide +kernel
set_option maxRecDepth 20000 in
theorem b_Mo_orNone (Γ : sv_Ga) (res : Int32 × sv_S) (X : sv_Ok Γ ev_Mo_orNone cX12_orNone sv_rI res) (as : List sv_V) (σ : sv_S) (h : n_Mo_orNone as σ = some res) : sv_T Γ 0 (sv_e0 1 as) [] σ := by
  unfold n_Mo_orNone at h
  split at h
  · refine sv_run X d_Mo_orNone (K := kk_Mo_orNone) (sv_lk_all (P := fun pc (k : sv_Lo → List sv_V → sv_S → Option (Int32 × sv_S)) => ∀ lo st σ, k lo st σ = some res → sv_T Γ pc lo st σ) ?_) _ _ _ _ _ ((e_Mo_orNone _ _).trans h)
    clear h
    exact fun _ h => absurd h List.not_mem_nil
  · cases h
theorem a_Mo_orNone (as : List sv_V) (σ : sv_S) (x : Int32 × sv_S) (h : n_Mo_orNone as σ = some x) : sv_args 1 ev_Mo_orNone.2.2.2.1 as := by
  unfold n_Mo_orNone at h
  split at h
  · exact ⟨Nat.le_of_ble_eq_true rfl, fun _ v hv => by
      simp only [List.mem_cons, List.not_mem_nil, or_false] at hv
      rcases hv with rfl <;> trivial⟩
  · cases h

set_option maxRecDepth 20000 in
theorem m_Mo_orNone (l : Launch) : sv_M l yX12_orNone cX12_orNone 1 (some .int) (sv_gI n_Mo_orNone) 0 := by
  refine sv_mI (E := ev_Mo_orNone) (by decide +kernel) (ln_gen fk_12 kk_12 (sv_ns _ (fun _ => rfl) _)) ?_ a_Mo_orNone b_Mo_orNone
  intro p e R s m args below meth c cells slots Q base ad dC dI cA n0 S hkn hR hf pc n f h
  refine sv_lk_all (P := fun pc (x : Nat × sv_F) => sv_cok p l e R s m args below meth c cells slots Q base ad dC dI cA true 1 n0 pc x.1 x.2) ?_ pc (n, f) h
  exact fun _ h => absurd h List.not_mem_nil
noncomputable def f_Mo_held (a0 : Int32) (a1 : Int32) (a2 : Int32) (σ : sv_S) : Option (Int32 × sv_S) :=
  sv_if (a1 ≤ a0)
    (sv_if (a0 ≤ a2)
      (some (a0, σ))
      (some (a2, σ)))
    (some (a1, σ))
noncomputable def n_Mo_held : List sv_V → sv_S → Option (Int32 × sv_S)
  | [.inl a0, .inl a1, .inl a2], σ => f_Mo_held a0 a1 a2 σ
  | _, _ => none
def cd_Mo_held : sv_C := [(0, (.iload_n 0, (sv_N, (1, (0, []))))), (1, (.iload_n 1, (sv_N, (2, (0, []))))), (2, (.if_icmp .ge 7, (sv_N, (5, (9, []))))), (5, (.iload_n 1, (sv_N, (6, (0, []))))), (6, (.goto 13, (sv_N, (9, (19, []))))), (9, (.iload_n 0, (sv_N, (10, (0, []))))), (10, (.iload_n 2, (sv_N, (11, (0, []))))), (11, (.if_icmp .le 7, (sv_N, (14, (18, []))))), (14, (.iload_n 2, (sv_N, (15, (0, []))))), (15, (.goto 4, (sv_N, (18, (19, []))))), (18, (.iload_n 0, (sv_N, (19, (0, []))))), (19, (.ireturn, (sv_N, (20, (0, [])))))]
noncomputable def ev_Mo_held : sv_E := (fun i => sv_lk i fl_12, (fun i => sv_lk i kc_12, (fun _ => false, (true, fun pc => sv_lk pc []))))
noncomputable def kk_Mo_held : sv_K (Int32 × sv_S) := fun pc => sv_lk pc []
set_option maxRecDepth 20000 in
theorem e_Mo_held (a0 : Int32) (a1 : Int32) (a2 : Int32) (σ : sv_S) : sv_ex ev_Mo_held sv_rI kk_Mo_held cd_Mo_held 14 0 [some (.inl a0), some (.inl a1), some (.inl a2)] [] σ = f_Mo_held a0 a1 a2 σ := by
  unfold f_Mo_held
  delta ev_Mo_held kk_Mo_held
  rfl
theorem d_Mo_held : cd_Mo_held.all (sv_dk cX12_held) = true := by decide +kernel
set_option maxRecDepth 20000 in
theorem b_Mo_held (Γ : sv_Ga) (res : Int32 × sv_S) (X : sv_Ok Γ ev_Mo_held cX12_held sv_rI res) (as : List sv_V) (σ : sv_S) (h : n_Mo_held as σ = some res) : sv_T Γ 0 (sv_e0 3 as) [] σ := by
  unfold n_Mo_held at h
  split at h
  · refine sv_run X d_Mo_held (K := kk_Mo_held) (sv_lk_all (P := fun pc (k : sv_Lo → List sv_V → sv_S → Option (Int32 × sv_S)) => ∀ lo st σ, k lo st σ = some res → sv_T Γ pc lo st σ) ?_) _ _ _ _ _ ((e_Mo_held _ _ _ _).trans h)
    clear h
    exact fun _ h => absurd h List.not_mem_nil
  · cases h
theorem a_Mo_held (as : List sv_V) (σ : sv_S) (x : Int32 × sv_S) (h : n_Mo_held as σ = some x) : sv_args 3 ev_Mo_held.2.2.2.1 as := by
  unfold n_Mo_held at h
  split at h
  · exact ⟨Nat.le_of_ble_eq_true rfl, fun _ v hv => by
      simp only [List.mem_cons, List.not_mem_nil, or_false] at hv
      rcases hv with rfl | rfl | rfl <;> trivial⟩
  · cases h

set_option maxRecDepth 20000 in
theorem m_Mo_held (l : Launch) : sv_M l yX12_held cX12_held 3 (some .int) (sv_gI n_Mo_held) 0 := by
  refine sv_mI (E := ev_Mo_held) (by decide +kernel) (ln_gen fk_12 kk_12 (sv_ns _ (fun _ => rfl) _)) ?_ a_Mo_held b_Mo_held
  intro p e R s m args below meth c cells slots Q base ad dC dI cA n0 S hkn hR hf pc n f h
  refine sv_lk_all (P := fun pc (x : Nat × sv_F) => sv_cok p l e R s m args below meth c cells slots Q base ad dC dI cA true 3 n0 pc x.1 x.2) ?_ pc (n, f) h
  exact fun _ h => absurd h List.not_mem_nil
noncomputable def f_Mo_off (a0 : Int32) (a1 : Int32) (σ : sv_S) : Option (Int32 × sv_S) :=
  sv_if (a1 ≤ a0)
    (some (a0 - a1, σ))
    (some (a1 - a0, σ))
noncomputable def n_Mo_off : List sv_V → sv_S → Option (Int32 × sv_S)
  | [.inl a0, .inl a1], σ => f_Mo_off a0 a1 σ
  | _, _ => none
def cd_Mo_off : sv_C := [(0, (.iload_n 0, (sv_N, (1, (0, []))))), (1, (.iload_n 1, (sv_N, (2, (0, []))))), (2, (.if_icmp .ge 9, (sv_N, (5, (11, []))))), (5, (.iload_n 1, (sv_N, (6, (0, []))))), (6, (.iload_n 0, (sv_N, (7, (0, []))))), (7, (.isub, (sv_N, (8, (0, []))))), (8, (.goto 6, (sv_N, (11, (14, []))))), (11, (.iload_n 0, (sv_N, (12, (0, []))))), (12, (.iload_n 1, (sv_N, (13, (0, []))))), (13, (.isub, (sv_N, (14, (0, []))))), (14, (.ireturn, (sv_N, (15, (0, [])))))]
noncomputable def ev_Mo_off : sv_E := (fun i => sv_lk i fl_12, (fun i => sv_lk i kc_12, (fun _ => false, (true, fun pc => sv_lk pc []))))
noncomputable def kk_Mo_off : sv_K (Int32 × sv_S) := fun pc => sv_lk pc []
set_option maxRecDepth 20000 in
theorem e_Mo_off (a0 : Int32) (a1 : Int32) (σ : sv_S) : sv_ex ev_Mo_off sv_rI kk_Mo_off cd_Mo_off 13 0 [some (.inl a0), some (.inl a1)] [] σ = f_Mo_off a0 a1 σ := by
  unfold f_Mo_off
  delta ev_Mo_off kk_Mo_off
  rfl
theorem d_Mo_off : cd_Mo_off.all (sv_dk cX12_off) = true := by decide +kernel
set_option maxRecDepth 20000 in
theorem b_Mo_off (Γ : sv_Ga) (res : Int32 × sv_S) (X : sv_Ok Γ ev_Mo_off cX12_off sv_rI res) (as : List sv_V) (σ : sv_S) (h : n_Mo_off as σ = some res) : sv_T Γ 0 (sv_e0 2 as) [] σ := by
  unfold n_Mo_off at h
  split at h
  · refine sv_run X d_Mo_off (K := kk_Mo_off) (sv_lk_all (P := fun pc (k : sv_Lo → List sv_V → sv_S → Option (Int32 × sv_S)) => ∀ lo st σ, k lo st σ = some res → sv_T Γ pc lo st σ) ?_) _ _ _ _ _ ((e_Mo_off _ _ _).trans h)
    clear h
    exact fun _ h => absurd h List.not_mem_nil
  · cases h
theorem a_Mo_off (as : List sv_V) (σ : sv_S) (x : Int32 × sv_S) (h : n_Mo_off as σ = some x) : sv_args 2 ev_Mo_off.2.2.2.1 as := by
  unfold n_Mo_off at h
  split at h
  · exact ⟨Nat.le_of_ble_eq_true rfl, fun _ v hv => by
      simp only [List.mem_cons, List.not_mem_nil, or_false] at hv
      rcases hv with rfl | rfl <;> trivial⟩
  · cases h

set_option maxRecDepth 20000 in
theorem m_Mo_off (l : Launch) : sv_M l yX12_off cX12_off 2 (some .int) (sv_gI n_Mo_off) 0 := by
  refine sv_mI (E := ev_Mo_off) (by decide +kernel) (ln_gen fk_12 kk_12 (sv_ns _ (fun _ => rfl) _)) ?_ a_Mo_off b_Mo_off
  intro p e R s m args below meth c cells slots Q base ad dC dI cA n0 S hkn hR hf pc n f h
  refine sv_lk_all (P := fun pc (x : Nat × sv_F) => sv_cok p l e R s m args below meth c cells slots Q base ad dC dI cA true 2 n0 pc x.1 x.2) ?_ pc (n, f) h
  exact fun _ h => absurd h List.not_mem_nil
noncomputable def f_Mo_becomes (a1 : Int32) (a2 : Int32) (σ : sv_S) : Option (Int32 × sv_S) :=
  sv_g (sv_in a1 3086) (sv_g (sv_in a1 3086) (some (σ 31 0 (a1.toNatClampNeg), sv_up σ 31 0 (a1.toNatClampNeg) a2)))
noncomputable def n_Mo_becomes : List sv_V → sv_S → Option (Int32 × sv_S)
  | [.inr (.inr (some (30, 0))), .inl a1, .inl a2], σ => f_Mo_becomes a1 a2 σ
  | _, _ => none
def cd_Mo_becomes : sv_C := [(0, (.aload_n 0, (sv_N, (1, (0, []))))), (1, (.getfield 7, (sv_N, (4, (0, []))))), (4, (.iload_n 1, (sv_N, (5, (0, []))))), (5, (.iaload, (sv_N, (6, (0, []))))), (6, (.istore_n 3, (sv_N, (7, (0, []))))), (7, (.aload_n 0, (sv_N, (8, (0, []))))), (8, (.getfield 7, (sv_N, (11, (0, []))))), (11, (.iload_n 1, (sv_N, (12, (0, []))))), (12, (.iload_n 2, (sv_N, (13, (0, []))))), (13, (.iastore, (sv_N, (14, (0, []))))), (14, (.iload_n 3, (sv_N, (15, (0, []))))), (15, (.ireturn, (sv_N, (16, (0, [])))))]
noncomputable def ev_Mo_becomes : sv_E := (fun i => sv_lk i fl_12, (fun i => sv_lk i kc_12, (fun _ => false, (true, fun pc => sv_lk pc []))))
noncomputable def kk_Mo_becomes : sv_K (Int32 × sv_S) := fun pc => sv_lk pc []
set_option maxRecDepth 20000 in
theorem e_Mo_becomes (a1 : Int32) (a2 : Int32) (σ : sv_S) : sv_ex ev_Mo_becomes sv_rI kk_Mo_becomes cd_Mo_becomes 14 0 [some (.inr (.inr (some (30, 0)))), some (.inl a1), some (.inl a2), none] [] σ = f_Mo_becomes a1 a2 σ := by
  unfold f_Mo_becomes
  delta ev_Mo_becomes kk_Mo_becomes
  rfl
theorem d_Mo_becomes : cd_Mo_becomes.all (sv_dk cX12_becomes) = true := by decide +kernel
set_option maxRecDepth 20000 in
theorem b_Mo_becomes (Γ : sv_Ga) (res : Int32 × sv_S) (X : sv_Ok Γ ev_Mo_becomes cX12_becomes sv_rI res) (as : List sv_V) (σ : sv_S) (h : n_Mo_becomes as σ = some res) : sv_T Γ 0 (sv_e0 4 as) [] σ := by
  unfold n_Mo_becomes at h
  split at h
  · refine sv_run X d_Mo_becomes (K := kk_Mo_becomes) (sv_lk_all (P := fun pc (k : sv_Lo → List sv_V → sv_S → Option (Int32 × sv_S)) => ∀ lo st σ, k lo st σ = some res → sv_T Γ pc lo st σ) ?_) _ _ _ _ _ ((e_Mo_becomes _ _ _).trans h)
    clear h
    exact fun _ h => absurd h List.not_mem_nil
  · cases h
theorem a_Mo_becomes (as : List sv_V) (σ : sv_S) (x : Int32 × sv_S) (h : n_Mo_becomes as σ = some x) : sv_args 4 ev_Mo_becomes.2.2.2.1 as := by
  unfold n_Mo_becomes at h
  split at h
  · exact ⟨Nat.le_of_ble_eq_true rfl, fun _ v hv => by
      simp only [List.mem_cons, List.not_mem_nil, or_false] at hv
      rcases hv with rfl | rfl | rfl <;> trivial⟩
  · cases h
theorem g_Mo_becomes (as : List sv_V) (σ : sv_S) (x : Option sv_V × sv_S) (h : sv_gI n_Mo_becomes as σ = some x) : ∃ r i as', as = sv_R r i :: as' ∧ sv_kd r i = .inl 12 := by
  obtain ⟨_, _, h, -⟩ := sv_b_some h
  unfold n_Mo_becomes at h
  split at h
  · exact ⟨_, _, _, rfl, rfl⟩
  · cases h

set_option maxRecDepth 20000 in
theorem m_Mo_becomes (l : Launch) : sv_M l yX12_becomes cX12_becomes 4 (some .int) (sv_gI n_Mo_becomes) 0 := by
  refine sv_mI (E := ev_Mo_becomes) (by decide +kernel) (ln_gen fk_12 kk_12 (sv_ns _ (fun _ => rfl) _)) ?_ a_Mo_becomes b_Mo_becomes
  intro p e R s m args below meth c cells slots Q base ad dC dI cA n0 S hkn hR hf pc n f h
  refine sv_lk_all (P := fun pc (x : Nat × sv_F) => sv_cok p l e R s m args below meth c cells slots Q base ad dC dI cA true 4 n0 pc x.1 x.2) ?_ pc (n, f) h
  exact fun _ h => absurd h List.not_mem_nil
noncomputable def f_Mo_textAt (a1 : Int32) (σ : sv_S) : Option (Int32 × sv_S) :=
  some ((86 : Int32) + ((200 : Int32) * a1), σ)
noncomputable def n_Mo_textAt : List sv_V → sv_S → Option (Int32 × sv_S)
  | [.inr (.inr (some (30, 0))), .inl a1], σ => f_Mo_textAt a1 σ
  | _, _ => none
def cd_Mo_textAt : sv_C := [(0, (.bipush 86, (.inl (86 : Int32), (2, (0, []))))), (2, (.sipush 200, (.inl (200 : Int32), (5, (0, []))))), (5, (.iload_n 1, (sv_N, (6, (0, []))))), (6, (.imul, (sv_N, (7, (0, []))))), (7, (.iadd, (sv_N, (8, (0, []))))), (8, (.ireturn, (sv_N, (9, (0, [])))))]
noncomputable def ev_Mo_textAt : sv_E := (fun i => sv_lk i fl_12, (fun i => sv_lk i kc_12, (fun _ => false, (true, fun pc => sv_lk pc []))))
noncomputable def kk_Mo_textAt : sv_K (Int32 × sv_S) := fun pc => sv_lk pc []
set_option maxRecDepth 20000 in
theorem e_Mo_textAt (a1 : Int32) (σ : sv_S) : sv_ex ev_Mo_textAt sv_rI kk_Mo_textAt cd_Mo_textAt 8 0 [some (.inr (.inr (some (30, 0)))), some (.inl a1)] [] σ = f_Mo_textAt a1 σ := by
  unfold f_Mo_textAt
  delta ev_Mo_textAt kk_Mo_textAt
  rfl
theorem d_Mo_textAt : cd_Mo_textAt.all (sv_dk cX12_textAt) = true := by decide +kernel
set_option maxRecDepth 20000 in
theorem b_Mo_textAt (Γ : sv_Ga) (res : Int32 × sv_S) (X : sv_Ok Γ ev_Mo_textAt cX12_textAt sv_rI res) (as : List sv_V) (σ : sv_S) (h : n_Mo_textAt as σ = some res) : sv_T Γ 0 (sv_e0 2 as) [] σ := by
  unfold n_Mo_textAt at h
  split at h
  · refine sv_run X d_Mo_textAt (K := kk_Mo_textAt) (sv_lk_all (P := fun pc (k : sv_Lo → List sv_V → sv_S → Option (Int32 × sv_S)) => ∀ lo st σ, k lo st σ = some res → sv_T Γ pc lo st σ) ?_) _ _ _ _ _ ((e_Mo_textAt _ _).trans h)
    clear h
    exact fun _ h => absurd h List.not_mem_nil
  · cases h
theorem a_Mo_textAt (as : List sv_V) (σ : sv_S) (x : Int32 × sv_S) (h : n_Mo_textAt as σ = some x) : sv_args 2 ev_Mo_textAt.2.2.2.1 as := by
  unfold n_Mo_textAt at h
  split at h
  · exact ⟨Nat.le_of_ble_eq_true rfl, fun _ v hv => by
      simp only [List.mem_cons, List.not_mem_nil, or_false] at hv
      rcases hv with rfl | rfl <;> trivial⟩
  · cases h
theorem g_Mo_textAt (as : List sv_V) (σ : sv_S) (x : Option sv_V × sv_S) (h : sv_gI n_Mo_textAt as σ = some x) : ∃ r i as', as = sv_R r i :: as' ∧ sv_kd r i = .inl 12 := by
  obtain ⟨_, _, h, -⟩ := sv_b_some h
  unfold n_Mo_textAt at h
  split at h
  · exact ⟨_, _, _, rfl, rfl⟩
  · cases h

set_option maxRecDepth 20000 in
theorem m_Mo_textAt (l : Launch) : sv_M l yX12_textAt cX12_textAt 2 (some .int) (sv_gI n_Mo_textAt) 0 := by
  refine sv_mI (E := ev_Mo_textAt) (by decide +kernel) (ln_gen fk_12 kk_12 (sv_ns _ (fun _ => rfl) _)) ?_ a_Mo_textAt b_Mo_textAt
  intro p e R s m args below meth c cells slots Q base ad dC dI cA n0 S hkn hR hf pc n f h
  refine sv_lk_all (P := fun pc (x : Nat × sv_F) => sv_cok p l e R s m args below meth c cells slots Q base ad dC dI cA true 2 n0 pc x.1 x.2) ?_ pc (n, f) h
  exact fun _ h => absurd h List.not_mem_nil
noncomputable def f_Mo_of (a1 : Int32) (a2 : Int32) (σ : sv_S) : Option (Int32 × sv_S) :=
  sv_g (sv_in (((6 : Int32) + ((8 : Int32) * a1)) + a2) 3086) (some (σ 31 0 ((((6 : Int32) + ((8 : Int32) * a1)) + a2).toNatClampNeg), σ))
noncomputable def n_Mo_of : List sv_V → sv_S → Option (Int32 × sv_S)
  | [.inr (.inr (some (30, 0))), .inl a1, .inl a2], σ => f_Mo_of a1 a2 σ
  | _, _ => none
def cd_Mo_of : sv_C := [(0, (.aload_n 0, (sv_N, (1, (0, []))))), (1, (.getfield 7, (sv_N, (4, (0, []))))), (4, (.bipush 6, (.inl (6 : Int32), (6, (0, []))))), (6, (.bipush 8, (.inl (8 : Int32), (8, (0, []))))), (8, (.iload_n 1, (sv_N, (9, (0, []))))), (9, (.imul, (sv_N, (10, (0, []))))), (10, (.iadd, (sv_N, (11, (0, []))))), (11, (.iload_n 2, (sv_N, (12, (0, []))))), (12, (.iadd, (sv_N, (13, (0, []))))), (13, (.iaload, (sv_N, (14, (0, []))))), (14, (.ireturn, (sv_N, (15, (0, [])))))]
noncomputable def ev_Mo_of : sv_E := (fun i => sv_lk i fl_12, (fun i => sv_lk i kc_12, (fun _ => false, (true, fun pc => sv_lk pc []))))
noncomputable def kk_Mo_of : sv_K (Int32 × sv_S) := fun pc => sv_lk pc []
set_option maxRecDepth 20000 in
theorem e_Mo_of (a1 : Int32) (a2 : Int32) (σ : sv_S) : sv_ex ev_Mo_of sv_rI kk_Mo_of cd_Mo_of 13 0 [some (.inr (.inr (some (30, 0)))), some (.inl a1), some (.inl a2)] [] σ = f_Mo_of a1 a2 σ := by
  unfold f_Mo_of
  delta ev_Mo_of kk_Mo_of
  rfl
theorem d_Mo_of : cd_Mo_of.all (sv_dk cX12_of) = true := by decide +kernel
set_option maxRecDepth 20000 in
theorem b_Mo_of (Γ : sv_Ga) (res : Int32 × sv_S) (X : sv_Ok Γ ev_Mo_of cX12_of sv_rI res) (as : List sv_V) (σ : sv_S) (h : n_Mo_of as σ = some res) : sv_T Γ 0 (sv_e0 3 as) [] σ := by
  unfold n_Mo_of at h
  split at h
  · refine sv_run X d_Mo_of (K := kk_Mo_of) (sv_lk_all (P := fun pc (k : sv_Lo → List sv_V → sv_S → Option (Int32 × sv_S)) => ∀ lo st σ, k lo st σ = some res → sv_T Γ pc lo st σ) ?_) _ _ _ _ _ ((e_Mo_of _ _ _).trans h)
    clear h
    exact fun _ h => absurd h List.not_mem_nil
  · cases h
theorem a_Mo_of (as : List sv_V) (σ : sv_S) (x : Int32 × sv_S) (h : n_Mo_of as σ = some x) : sv_args 3 ev_Mo_of.2.2.2.1 as := by
  unfold n_Mo_of at h
  split at h
  · exact ⟨Nat.le_of_ble_eq_true rfl, fun _ v hv => by
      simp only [List.mem_cons, List.not_mem_nil, or_false] at hv
      rcases hv with rfl | rfl | rfl <;> trivial⟩
  · cases h
theorem g_Mo_of (as : List sv_V) (σ : sv_S) (x : Option sv_V × sv_S) (h : sv_gI n_Mo_of as σ = some x) : ∃ r i as', as = sv_R r i :: as' ∧ sv_kd r i = .inl 12 := by
  obtain ⟨_, _, h, -⟩ := sv_b_some h
  unfold n_Mo_of at h
  split at h
  · exact ⟨_, _, _, rfl, rfl⟩
  · cases h

set_option maxRecDepth 20000 in
theorem m_Mo_of (l : Launch) : sv_M l yX12_of cX12_of 3 (some .int) (sv_gI n_Mo_of) 0 := by
  refine sv_mI (E := ev_Mo_of) (by decide +kernel) (ln_gen fk_12 kk_12 (sv_ns _ (fun _ => rfl) _)) ?_ a_Mo_of b_Mo_of
  intro p e R s m args below meth c cells slots Q base ad dC dI cA n0 S hkn hR hf pc n f h
  refine sv_lk_all (P := fun pc (x : Nat × sv_F) => sv_cok p l e R s m args below meth c cells slots Q base ad dC dI cA true 3 n0 pc x.1 x.2) ?_ pc (n, f) h
  exact fun _ h => absurd h List.not_mem_nil
noncomputable def f_Mo_sets (a1 : Int32) (a2 : Int32) (a3 : Int32) (σ : sv_S) : Option (sv_S) :=
  sv_g (sv_in (((6 : Int32) + ((8 : Int32) * a1)) + a2) 3086) (some (sv_up σ 31 0 ((((6 : Int32) + ((8 : Int32) * a1)) + a2).toNatClampNeg) a3))
noncomputable def n_Mo_sets : List sv_V → sv_S → Option (sv_S)
  | [.inr (.inr (some (30, 0))), .inl a1, .inl a2, .inl a3], σ => f_Mo_sets a1 a2 a3 σ
  | _, _ => none
def cd_Mo_sets : sv_C := [(0, (.aload_n 0, (sv_N, (1, (0, []))))), (1, (.getfield 7, (sv_N, (4, (0, []))))), (4, (.bipush 6, (.inl (6 : Int32), (6, (0, []))))), (6, (.bipush 8, (.inl (8 : Int32), (8, (0, []))))), (8, (.iload_n 1, (sv_N, (9, (0, []))))), (9, (.imul, (sv_N, (10, (0, []))))), (10, (.iadd, (sv_N, (11, (0, []))))), (11, (.iload_n 2, (sv_N, (12, (0, []))))), (12, (.iadd, (sv_N, (13, (0, []))))), (13, (.iload_n 3, (sv_N, (14, (0, []))))), (14, (.iastore, (sv_N, (15, (0, []))))), (15, (.return_, (sv_N, (16, (0, [])))))]
noncomputable def ev_Mo_sets : sv_E := (fun i => sv_lk i fl_12, (fun i => sv_lk i kc_12, (fun _ => false, (true, fun pc => sv_lk pc []))))
noncomputable def kk_Mo_sets : sv_K (sv_S) := fun pc => sv_lk pc []
set_option maxRecDepth 20000 in
theorem e_Mo_sets (a1 : Int32) (a2 : Int32) (a3 : Int32) (σ : sv_S) : sv_ex ev_Mo_sets sv_rV kk_Mo_sets cd_Mo_sets 14 0 [some (.inr (.inr (some (30, 0)))), some (.inl a1), some (.inl a2), some (.inl a3)] [] σ = f_Mo_sets a1 a2 a3 σ := by
  unfold f_Mo_sets
  delta ev_Mo_sets kk_Mo_sets
  rfl
theorem d_Mo_sets : cd_Mo_sets.all (sv_dk cX12_sets) = true := by decide +kernel
set_option maxRecDepth 20000 in
theorem b_Mo_sets (Γ : sv_Ga) (res : sv_S) (X : sv_Ok Γ ev_Mo_sets cX12_sets sv_rV res) (as : List sv_V) (σ : sv_S) (h : n_Mo_sets as σ = some res) : sv_T Γ 0 (sv_e0 4 as) [] σ := by
  unfold n_Mo_sets at h
  split at h
  · refine sv_run X d_Mo_sets (K := kk_Mo_sets) (sv_lk_all (P := fun pc (k : sv_Lo → List sv_V → sv_S → Option (sv_S)) => ∀ lo st σ, k lo st σ = some res → sv_T Γ pc lo st σ) ?_) _ _ _ _ _ ((e_Mo_sets _ _ _ _).trans h)
    clear h
    exact fun _ h => absurd h List.not_mem_nil
  · cases h
theorem a_Mo_sets (as : List sv_V) (σ : sv_S) (x : sv_S) (h : n_Mo_sets as σ = some x) : sv_args 4 ev_Mo_sets.2.2.2.1 as := by
  unfold n_Mo_sets at h
  split at h
  · exact ⟨Nat.le_of_ble_eq_true rfl, fun _ v hv => by
      simp only [List.mem_cons, List.not_mem_nil, or_false] at hv
      rcases hv with rfl | rfl | rfl | rfl <;> trivial⟩
  · cases h
theorem g_Mo_sets (as : List sv_V) (σ : sv_S) (x : Option sv_V × sv_S) (h : sv_gV n_Mo_sets as σ = some x) : ∃ r i as', as = sv_R r i :: as' ∧ sv_kd r i = .inl 12 := by
  obtain ⟨_, h, -⟩ := sv_b0_some h
  unfold n_Mo_sets at h
  split at h
  · exact ⟨_, _, _, rfl, rfl⟩
  · cases h

set_option maxRecDepth 20000 in
theorem m_Mo_sets (l : Launch) : sv_M l yX12_sets cX12_sets 4 none (sv_gV n_Mo_sets) 0 := by
  refine sv_mV (E := ev_Mo_sets) (by decide +kernel) (ln_gen fk_12 kk_12 (sv_ns _ (fun _ => rfl) _)) ?_ a_Mo_sets b_Mo_sets
  intro p e R s m args below meth c cells slots Q base ad dC dI cA n0 S hkn hR hf pc n f h
  refine sv_lk_all (P := fun pc (x : Nat × sv_F) => sv_cok p l e R s m args below meth c cells slots Q base ad dC dI cA true 4 n0 pc x.1 x.2) ?_ pc (n, f) h
  exact fun _ h => absurd h List.not_mem_nil
noncomputable def f_Mo_isDrummer (a1 : Int32) (σ : sv_S) : Option (Int32 × sv_S) :=
  sv_g (sv_in (0 : Int32) 3086) (sv_b (f_Mo_isIn (a1.toInt64) (0 : Int64) (((σ 31 0 ((0 : Int32).toNatClampNeg)) - (1 : Int32)).toInt64) σ) (fun v1 σ2 =>
    sv_g (v1 = 0 ∨ v1 = 1) (some (v1, σ2))))
noncomputable def n_Mo_isDrummer : List sv_V → sv_S → Option (Int32 × sv_S)
  | [.inr (.inr (some (30, 0))), .inl a1], σ => f_Mo_isDrummer a1 σ
  | _, _ => none
def cd_Mo_isDrummer : sv_C := [(0, (.iload_n 1, (sv_N, (1, (0, []))))), (1, (.i2l, (sv_N, (2, (0, []))))), (2, (.lconst 0, (.inr (.inl (0 : Int64)), (3, (0, []))))), (3, (.aload_n 0, (sv_N, (4, (0, []))))), (4, (.getfield 7, (sv_N, (7, (0, []))))), (7, (.iconst 0, (.inl (0 : Int32), (8, (0, []))))), (8, (.iaload, (sv_N, (9, (0, []))))), (9, (.iconst 1, (.inl (1 : Int32), (10, (0, []))))), (10, (.isub, (sv_N, (11, (0, []))))), (11, (.i2l, (sv_N, (12, (0, []))))), (12, (.invokestatic 71, (sv_N, (15, (0, []))))), (15, (.ireturn, (sv_N, (16, (0, [])))))]
noncomputable def ev_Mo_isDrummer : sv_E := (fun i => sv_lk i fl_12, (fun i => sv_lk i kc_12, (fun _ => false, (true, fun pc => sv_lk pc [(12, (3, .inl n_Mo_isIn))]))))
noncomputable def kk_Mo_isDrummer : sv_K (Int32 × sv_S) := fun pc => sv_lk pc []
set_option maxRecDepth 20000 in
theorem e_Mo_isDrummer (a1 : Int32) (σ : sv_S) : sv_ex ev_Mo_isDrummer sv_rZ kk_Mo_isDrummer cd_Mo_isDrummer 14 0 [some (.inr (.inr (some (30, 0)))), some (.inl a1)] [] σ = f_Mo_isDrummer a1 σ := by
  unfold f_Mo_isDrummer
  delta ev_Mo_isDrummer kk_Mo_isDrummer n_Mo_isIn
  generalize f_Mo_isIn = c0
  rfl
theorem d_Mo_isDrummer : cd_Mo_isDrummer.all (sv_dk cX12_isDrummer) = true := by decide +kernel
set_option maxRecDepth 20000 in
theorem b_Mo_isDrummer (Γ : sv_Ga) (res : Int32 × sv_S) (X : sv_Ok Γ ev_Mo_isDrummer cX12_isDrummer sv_rZ res) (as : List sv_V) (σ : sv_S) (h : n_Mo_isDrummer as σ = some res) : sv_T Γ 0 (sv_e0 2 as) [] σ := by
  unfold n_Mo_isDrummer at h
  split at h
  · refine sv_run X d_Mo_isDrummer (K := kk_Mo_isDrummer) (sv_lk_all (P := fun pc (k : sv_Lo → List sv_V → sv_S → Option (Int32 × sv_S)) => ∀ lo st σ, k lo st σ = some res → sv_T Γ pc lo st σ) ?_) _ _ _ _ _ ((e_Mo_isDrummer _ _).trans h)
    clear h
    exact fun _ h => absurd h List.not_mem_nil
  · cases h
theorem a_Mo_isDrummer (as : List sv_V) (σ : sv_S) (x : Int32 × sv_S) (h : n_Mo_isDrummer as σ = some x) : sv_args 2 ev_Mo_isDrummer.2.2.2.1 as := by
  unfold n_Mo_isDrummer at h
  split at h
  · exact ⟨Nat.le_of_ble_eq_true rfl, fun _ v hv => by
      simp only [List.mem_cons, List.not_mem_nil, or_false] at hv
      rcases hv with rfl | rfl <;> trivial⟩
  · cases h
theorem g_Mo_isDrummer (as : List sv_V) (σ : sv_S) (x : Option sv_V × sv_S) (h : sv_gI n_Mo_isDrummer as σ = some x) : ∃ r i as', as = sv_R r i :: as' ∧ sv_kd r i = .inl 12 := by
  obtain ⟨_, _, h, -⟩ := sv_b_some h
  unfold n_Mo_isDrummer at h
  split at h
  · exact ⟨_, _, _, rfl, rfl⟩
  · cases h
theorem tw_65 : Cond.initialized RX12 ∈ gw_tbl := gw_at 65 (by decide +kernel) rfl
theorem tw_1098 : Cond.methodLink RX12 71 yX12_isIn ∈ gw_tbl := gw_at 1098 (by decide +kernel) rfl
theorem tw_1099 : Cond.static yX12_isIn ∈ gw_tbl := gw_at 1099 (by decide +kernel) rfl
theorem tw_1100 : Cond.code yX12_isIn cX12_isIn 6 (some .boolean) ∈ gw_tbl := gw_at 1100 (by decide +kernel) rfl
set_option maxRecDepth 20000 in
theorem m_Mo_isDrummer (l : Launch) : sv_M l yX12_isDrummer cX12_isDrummer 2 (some .boolean) (sv_gI n_Mo_isDrummer) 1 := by
  refine sv_mZ (E := ev_Mo_isDrummer) (by decide +kernel) (ln_gen fk_12 kk_12 (sv_ns _ (fun _ => rfl) _)) ?_ a_Mo_isDrummer b_Mo_isDrummer
  intro p e R s m args below meth c cells slots Q base ad dC dI cA n0 S hkn hR hf pc n f h
  refine sv_lk_all (P := fun pc (x : Nat × sv_F) => sv_cok p l e R s m args below meth c cells slots Q base ad dC dI cA true 2 n0 pc x.1 x.2) ?_ pc (n, f) h
  exact List.forall_mem_cons.mpr ⟨(sv_cS S hkn (m_Mo_isIn l) ⟨Nat.le_trans (by decide) hR.1, Nat.le_trans (by decide) hR.2⟩ (by decide) hf (sv_w4 tw_1098 tw_1099 tw_65 tw_1100) (by decide +kernel) (sv_dc3 d_Mo_isDrummer (pc := 12) rfl rfl)).I,
      fun _ h => absurd h List.not_mem_nil⟩
noncomputable def f_Mo_isText (a1 : Int32) (σ : sv_S) : Option (Int32 × sv_S) :=
  sv_g (sv_in (1 : Int32) 3086) (sv_b (f_Mo_isIn (a1.toInt64) (0 : Int64) (((σ 31 0 ((1 : Int32).toNatClampNeg)) - (1 : Int32)).toInt64) σ) (fun v1 σ2 =>
    sv_g (v1 = 0 ∨ v1 = 1) (some (v1, σ2))))
noncomputable def n_Mo_isText : List sv_V → sv_S → Option (Int32 × sv_S)
  | [.inr (.inr (some (30, 0))), .inl a1], σ => f_Mo_isText a1 σ
  | _, _ => none
def cd_Mo_isText : sv_C := [(0, (.iload_n 1, (sv_N, (1, (0, []))))), (1, (.i2l, (sv_N, (2, (0, []))))), (2, (.lconst 0, (.inr (.inl (0 : Int64)), (3, (0, []))))), (3, (.aload_n 0, (sv_N, (4, (0, []))))), (4, (.getfield 7, (sv_N, (7, (0, []))))), (7, (.iconst 1, (.inl (1 : Int32), (8, (0, []))))), (8, (.iaload, (sv_N, (9, (0, []))))), (9, (.iconst 1, (.inl (1 : Int32), (10, (0, []))))), (10, (.isub, (sv_N, (11, (0, []))))), (11, (.i2l, (sv_N, (12, (0, []))))), (12, (.invokestatic 71, (sv_N, (15, (0, []))))), (15, (.ireturn, (sv_N, (16, (0, [])))))]
noncomputable def ev_Mo_isText : sv_E := (fun i => sv_lk i fl_12, (fun i => sv_lk i kc_12, (fun _ => false, (true, fun pc => sv_lk pc [(12, (3, .inl n_Mo_isIn))]))))
noncomputable def kk_Mo_isText : sv_K (Int32 × sv_S) := fun pc => sv_lk pc []
set_option maxRecDepth 20000 in
theorem e_Mo_isText (a1 : Int32) (σ : sv_S) : sv_ex ev_Mo_isText sv_rZ kk_Mo_isText cd_Mo_isText 14 0 [some (.inr (.inr (some (30, 0)))), some (.inl a1)] [] σ = f_Mo_isText a1 σ := by
  unfold f_Mo_isText
  delta ev_Mo_isText kk_Mo_isText n_Mo_isIn
  generalize f_Mo_isIn = c0
  rfl
theorem d_Mo_isText : cd_Mo_isText.all (sv_dk cX12_isText) = true := by decide +kernel
set_option maxRecDepth 20000 in
theorem b_Mo_isText (Γ : sv_Ga) (res : Int32 × sv_S) (X : sv_Ok Γ ev_Mo_isText cX12_isText sv_rZ res) (as : List sv_V) (σ : sv_S) (h : n_Mo_isText as σ = some res) : sv_T Γ 0 (sv_e0 2 as) [] σ := by
  unfold n_Mo_isText at h
  split at h
  · refine sv_run X d_Mo_isText (K := kk_Mo_isText) (sv_lk_all (P := fun pc (k : sv_Lo → List sv_V → sv_S → Option (Int32 × sv_S)) => ∀ lo st σ, k lo st σ = some res → sv_T Γ pc lo st σ) ?_) _ _ _ _ _ ((e_Mo_isText _ _).trans h)
    clear h
    exact fun _ h => absurd h List.not_mem_nil
  · cases h
theorem a_Mo_isText (as : List sv_V) (σ : sv_S) (x : Int32 × sv_S) (h : n_Mo_isText as σ = some x) : sv_args 2 ev_Mo_isText.2.2.2.1 as := by
  unfold n_Mo_isText at h
  split at h
  · exact ⟨Nat.le_of_ble_eq_true rfl, fun _ v hv => by
      simp only [List.mem_cons, List.not_mem_nil, or_false] at hv
      rcases hv with rfl | rfl <;> trivial⟩
  · cases h
theorem g_Mo_isText (as : List sv_V) (σ : sv_S) (x : Option sv_V × sv_S) (h : sv_gI n_Mo_isText as σ = some x) : ∃ r i as', as = sv_R r i :: as' ∧ sv_kd r i = .inl 12 := by
  obtain ⟨_, _, h, -⟩ := sv_b_some h
  unfold n_Mo_isText at h
  split at h
  · exact ⟨_, _, _, rfl, rfl⟩
  · cases h

set_option maxRecDepth 20000 in
theorem m_Mo_isText (l : Launch) : sv_M l yX12_isText cX12_isText 2 (some .boolean) (sv_gI n_Mo_isText) 1 := by
  refine sv_mZ (E := ev_Mo_isText) (by decide +kernel) (ln_gen fk_12 kk_12 (sv_ns _ (fun _ => rfl) _)) ?_ a_Mo_isText b_Mo_isText
  intro p e R s m args below meth c cells slots Q base ad dC dI cA n0 S hkn hR hf pc n f h
  refine sv_lk_all (P := fun pc (x : Nat × sv_F) => sv_cok p l e R s m args below meth c cells slots Q base ad dC dI cA true 2 n0 pc x.1 x.2) ?_ pc (n, f) h
  exact List.forall_mem_cons.mpr ⟨(sv_cS S hkn (m_Mo_isIn l) ⟨Nat.le_trans (by decide) hR.1, Nat.le_trans (by decide) hR.2⟩ (by decide) hf (sv_w4 tw_1098 tw_1099 tw_65 tw_1100) (by decide +kernel) (sv_dc3 d_Mo_isText (pc := 12) rfl rfl)).I,
      fun _ h => absurd h List.not_mem_nil⟩
noncomputable def f_Mo_drawn (σ : sv_S) : Option (Int32 × sv_S) :=
  sv_g (sv_in (4 : Int32) 3086) (sv_g (sv_in (4 : Int32) 3086) (sv_g (sv_in (4 : Int32) 3086) (some ((((sv_up σ 31 0 ((4 : Int32).toNatClampNeg) (((σ 31 0 ((4 : Int32).toNatClampNeg)) * (1103515245 : Int32)) + (12345 : Int32))) 31 0 ((4 : Int32).toNatClampNeg)).toUInt32 >>> ((8 : Int32).toUInt32 &&& Int32.toUInt32 31)).toInt32, sv_up σ 31 0 ((4 : Int32).toNatClampNeg) (((σ 31 0 ((4 : Int32).toNatClampNeg)) * (1103515245 : Int32)) + (12345 : Int32))))))
noncomputable def n_Mo_drawn : List sv_V → sv_S → Option (Int32 × sv_S)
  | [.inr (.inr (some (30, 0)))], σ => f_Mo_drawn σ
  | _, _ => none
def cd_Mo_drawn : sv_C := [(0, (.aload_n 0, (sv_N, (1, (0, []))))), (1, (.getfield 7, (sv_N, (4, (0, []))))), (4, (.iconst 4, (.inl (4 : Int32), (5, (0, []))))), (5, (.aload_n 0, (sv_N, (6, (0, []))))), (6, (.getfield 7, (sv_N, (9, (0, []))))), (9, (.iconst 4, (.inl (4 : Int32), (10, (0, []))))), (10, (.iaload, (sv_N, (11, (0, []))))), (11, (.ldc 75, (sv_N, (13, (0, []))))), (13, (.imul, (sv_N, (14, (0, []))))), (14, (.sipush 12345, (.inl (12345 : Int32), (17, (0, []))))), (17, (.iadd, (sv_N, (18, (0, []))))), (18, (.iastore, (sv_N, (19, (0, []))))), (19, (.aload_n 0, (sv_N, (20, (0, []))))), (20, (.getfield 7, (sv_N, (23, (0, []))))), (23, (.iconst 4, (.inl (4 : Int32), (24, (0, []))))), (24, (.iaload, (sv_N, (25, (0, []))))), (25, (.bipush 8, (.inl (8 : Int32), (27, (0, []))))), (27, (.iushr, (sv_N, (28, (0, []))))), (28, (.ireturn, (sv_N, (29, (0, [])))))]
noncomputable def ev_Mo_drawn : sv_E := (fun i => sv_lk i fl_12, (fun i => sv_lk i kc_12, (fun _ => false, (true, fun pc => sv_lk pc []))))
noncomputable def kk_Mo_drawn : sv_K (Int32 × sv_S) := fun pc => sv_lk pc []
set_option maxRecDepth 20000 in
theorem e_Mo_drawn (σ : sv_S) : sv_ex ev_Mo_drawn sv_rI kk_Mo_drawn cd_Mo_drawn 21 0 [some (.inr (.inr (some (30, 0))))] [] σ = f_Mo_drawn σ := by
  unfold f_Mo_drawn
  delta ev_Mo_drawn kk_Mo_drawn
  rfl
theorem d_Mo_drawn : cd_Mo_drawn.all (sv_dk cX12_drawn) = true := by decide +kernel
set_option maxRecDepth 20000 in
theorem b_Mo_drawn (Γ : sv_Ga) (res : Int32 × sv_S) (X : sv_Ok Γ ev_Mo_drawn cX12_drawn sv_rI res) (as : List sv_V) (σ : sv_S) (h : n_Mo_drawn as σ = some res) : sv_T Γ 0 (sv_e0 1 as) [] σ := by
  unfold n_Mo_drawn at h
  split at h
  · refine sv_run X d_Mo_drawn (K := kk_Mo_drawn) (sv_lk_all (P := fun pc (k : sv_Lo → List sv_V → sv_S → Option (Int32 × sv_S)) => ∀ lo st σ, k lo st σ = some res → sv_T Γ pc lo st σ) ?_) _ _ _ _ _ ((e_Mo_drawn _).trans h)
    clear h
    exact fun _ h => absurd h List.not_mem_nil
  · cases h
theorem a_Mo_drawn (as : List sv_V) (σ : sv_S) (x : Int32 × sv_S) (h : n_Mo_drawn as σ = some x) : sv_args 1 ev_Mo_drawn.2.2.2.1 as := by
  unfold n_Mo_drawn at h
  split at h
  · exact ⟨Nat.le_of_ble_eq_true rfl, fun _ v hv => by
      simp only [List.mem_cons, List.not_mem_nil, or_false] at hv
      rcases hv with rfl <;> trivial⟩
  · cases h
theorem g_Mo_drawn (as : List sv_V) (σ : sv_S) (x : Option sv_V × sv_S) (h : sv_gI n_Mo_drawn as σ = some x) : ∃ r i as', as = sv_R r i :: as' ∧ sv_kd r i = .inl 12 := by
  obtain ⟨_, _, h, -⟩ := sv_b_some h
  unfold n_Mo_drawn at h
  split at h
  · exact ⟨_, _, _, rfl, rfl⟩
  · cases h

set_option maxRecDepth 20000 in
theorem m_Mo_drawn (l : Launch) : sv_M l yX12_drawn cX12_drawn 1 (some .int) (sv_gI n_Mo_drawn) 0 := by
  refine sv_mI (E := ev_Mo_drawn) (by decide +kernel) (ln_gen fk_12 kk_12 (sv_ns _ (fun _ => rfl) _)) ?_ a_Mo_drawn b_Mo_drawn
  intro p e R s m args below meth c cells slots Q base ad dC dI cA n0 S hkn hR hf pc n f h
  refine sv_lk_all (P := fun pc (x : Nat × sv_F) => sv_cok p l e R s m args below meth c cells slots Q base ad dC dI cA true 1 n0 pc x.1 x.2) ?_ pc (n, f) h
  exact fun _ h => absurd h List.not_mem_nil
noncomputable def f_Mo_comes_20 : Nat → Int32 → Int32 → Int32 → Int32 → sv_S → Option (sv_S)
  | 0, _, _, _, _, _ => none
  | n + 1, x1, x2, x3, x4, σ =>
    sv_if ((8 : Int32) ≤ x4)
      (sv_b0 (f_Mo_sets x3 (0 : Int32) x1 σ) (fun σ1 =>
        sv_b0 (f_Mo_sets x3 (1 : Int32) x2 σ1) (fun σ2 =>
          sv_b0 (f_Mo_sets x3 (7 : Int32) (1 : Int32) σ2) (fun σ3 =>
            some σ3))))
      (sv_b0 (f_Mo_sets x3 x4 (0 : Int32) σ) (fun σ4 =>
        f_Mo_comes_20 n x1 x2 x3 (x4 + (1 : Int32)) σ4))
noncomputable def f_Mo_comes (a1 : Int32) (a2 : Int32) (σ : sv_S) : Option (sv_S) :=
  sv_g (sv_in (0 : Int32) 3086) (sv_g (sv_in (0 : Int32) 3086) (sv_g (sv_in (0 : Int32) 3086) (f_Mo_comes_20 sv_fu a1 a2 (σ 31 0 ((0 : Int32).toNatClampNeg)) (0 : Int32) (sv_up σ 31 0 ((0 : Int32).toNatClampNeg) ((σ 31 0 ((0 : Int32).toNatClampNeg)) + (1 : Int32))))))
noncomputable def n_Mo_comes : List sv_V → sv_S → Option (sv_S)
  | [.inr (.inr (some (30, 0))), .inl a1, .inl a2], σ => f_Mo_comes a1 a2 σ
  | _, _ => none
def cd_Mo_comes : sv_C := [(0, (.aload_n 0, (sv_N, (1, (0, []))))), (1, (.getfield 7, (sv_N, (4, (0, []))))), (4, (.iconst 0, (.inl (0 : Int32), (5, (0, []))))), (5, (.iaload, (sv_N, (6, (0, []))))), (6, (.istore_n 3, (sv_N, (7, (0, []))))), (7, (.aload_n 0, (sv_N, (8, (0, []))))), (8, (.getfield 7, (sv_N, (11, (0, []))))), (11, (.iconst 0, (.inl (0 : Int32), (12, (0, []))))), (12, (.dup2, (sv_N, (13, (0, []))))), (13, (.iaload, (sv_N, (14, (0, []))))), (14, (.iconst 1, (.inl (1 : Int32), (15, (0, []))))), (15, (.iadd, (sv_N, (16, (0, []))))), (16, (.iastore, (sv_N, (17, (0, []))))), (17, (.iconst 0, (.inl (0 : Int32), (18, (0, []))))), (18, (.istore 4, (sv_N, (20, (0, []))))), (20, (.iload 4, (sv_N, (22, (0, []))))), (22, (.bipush 8, (.inl (8 : Int32), (24, (0, []))))), (24, (.if_icmp .ge 17, (sv_N, (27, (41, []))))), (27, (.aload_n 0, (sv_N, (28, (0, []))))), (28, (.iload_n 3, (sv_N, (29, (0, []))))), (29, (.iload 4, (sv_N, (31, (0, []))))), (31, (.iconst 0, (.inl (0 : Int32), (32, (0, []))))), (32, (.invokevirtual 76, (sv_N, (35, (0, []))))), (35, (.iinc 4 1, (.inl (1 : Int32), (38, (0, []))))), (38, (.goto (-18), (sv_N, (41, (20, []))))), (41, (.aload_n 0, (sv_N, (42, (0, []))))), (42, (.iload_n 3, (sv_N, (43, (0, []))))), (43, (.iconst 0, (.inl (0 : Int32), (44, (0, []))))), (44, (.iload_n 1, (sv_N, (45, (0, []))))), (45, (.invokevirtual 76, (sv_N, (48, (0, []))))), (48, (.aload_n 0, (sv_N, (49, (0, []))))), (49, (.iload_n 3, (sv_N, (50, (0, []))))), (50, (.iconst 1, (.inl (1 : Int32), (51, (0, []))))), (51, (.iload_n 2, (sv_N, (52, (0, []))))), (52, (.invokevirtual 76, (sv_N, (55, (0, []))))), (55, (.aload_n 0, (sv_N, (56, (0, []))))), (56, (.iload_n 3, (sv_N, (57, (0, []))))), (57, (.bipush 7, (.inl (7 : Int32), (59, (0, []))))), (59, (.iconst 1, (.inl (1 : Int32), (60, (0, []))))), (60, (.invokevirtual 76, (sv_N, (63, (0, []))))), (63, (.return_, (sv_N, (64, (0, [])))))]
noncomputable def ev_Mo_comes : sv_E := (fun i => sv_lk i fl_12, (fun i => sv_lk i kc_12, (fun _ => false, (true, fun pc => sv_lk pc [(32, (4, .inr (.inl n_Mo_sets))), (45, (4, .inr (.inl n_Mo_sets))), (52, (4, .inr (.inl n_Mo_sets))), (60, (4, .inr (.inl n_Mo_sets)))]))))
noncomputable def kk_Mo_comes_20 (n : Nat) : sv_K (sv_S) := fun pc => sv_lk pc [(20, fun lo st σ => match lo, st with
    | [some (.inr (.inr (some (30, 0)))), some (.inl x1), some (.inl x2), some (.inl x3), some (.inl x4)], [] => f_Mo_comes_20 n x1 x2 x3 x4 σ
    | _, _ => none)]
set_option maxRecDepth 20000 in
theorem e_Mo_comes_20 (n : Nat) (x1 : Int32) (x2 : Int32) (x3 : Int32) (x4 : Int32) (σ : sv_S) : sv_ex ev_Mo_comes sv_rV (kk_Mo_comes_20 n) cd_Mo_comes 43 20 [some (.inr (.inr (some (30, 0)))), some (.inl x1), some (.inl x2), some (.inl x3), some (.inl x4)] [] σ = f_Mo_comes_20 (n + 1) x1 x2 x3 x4 σ := by
  rw [f_Mo_comes_20.eq_2]
  delta ev_Mo_comes kk_Mo_comes_20 n_Mo_sets
  generalize f_Mo_sets = c0
  generalize f_Mo_comes_20 = c1
  rfl
noncomputable def kk_Mo_comes : sv_K (sv_S) := fun pc => sv_lk pc [(20, fun lo st σ => match lo, st with
    | [some (.inr (.inr (some (30, 0)))), some (.inl x1), some (.inl x2), some (.inl x3), some (.inl x4)], [] => f_Mo_comes_20 sv_fu x1 x2 x3 x4 σ
    | _, _ => none)]
set_option maxRecDepth 20000 in
theorem e_Mo_comes (a1 : Int32) (a2 : Int32) (σ : sv_S) : sv_ex ev_Mo_comes sv_rV kk_Mo_comes cd_Mo_comes 43 0 [some (.inr (.inr (some (30, 0)))), some (.inl a1), some (.inl a2), none, none] [] σ = f_Mo_comes a1 a2 σ := by
  unfold f_Mo_comes
  delta ev_Mo_comes kk_Mo_comes n_Mo_sets
  generalize f_Mo_sets = c0
  generalize f_Mo_comes_20 = c1
  rfl
theorem d_Mo_comes : cd_Mo_comes.all (sv_dk cX12_comes) = true := by decide +kernel
set_option maxRecDepth 20000 in
theorem w_Mo_comes_20 {Γ : sv_Ga} {res : sv_S} (X : sv_Ok Γ ev_Mo_comes cX12_comes sv_rV res) : ∀ (n : Nat) (x1 : Int32) (x2 : Int32) (x3 : Int32) (x4 : Int32) (σ : sv_S), f_Mo_comes_20 n x1 x2 x3 x4 σ = some res → sv_T Γ 20 [some (.inr (.inr (some (30, 0)))), some (.inl x1), some (.inl x2), some (.inl x3), some (.inl x4)] [] σ := by
  intro n
  induction n with
  | zero =>
    intro x1 x2 x3 x4 σ h
    rw [f_Mo_comes_20.eq_1] at h
    cases h
  | succ n ih =>
    intro x1 x2 x3 x4 σ h
    refine sv_run X d_Mo_comes (K := kk_Mo_comes_20 n) (sv_lk_all (P := fun pc (k : sv_Lo → List sv_V → sv_S → Option (sv_S)) => ∀ lo st σ, k lo st σ = some res → sv_T Γ pc lo st σ) ?_) _ _ _ _ _ ((e_Mo_comes_20 n x1 x2 x3 x4 σ).trans h)
    clear h
    refine List.forall_mem_cons.mpr ⟨fun lo st σ h => ?_, fun _ h => absurd h List.not_mem_nil⟩
    · dsimp only at h
      split at h
      · exact ih _ _ _ _ _ h
      · cases h

set_option maxRecDepth 20000 in
theorem b_Mo_comes (Γ : sv_Ga) (res : sv_S) (X : sv_Ok Γ ev_Mo_comes cX12_comes sv_rV res) (as : List sv_V) (σ : sv_S) (h : n_Mo_comes as σ = some res) : sv_T Γ 0 (sv_e0 5 as) [] σ := by
  unfold n_Mo_comes at h
  split at h
  · refine sv_run X d_Mo_comes (K := kk_Mo_comes) (sv_lk_all (P := fun pc (k : sv_Lo → List sv_V → sv_S → Option (sv_S)) => ∀ lo st σ, k lo st σ = some res → sv_T Γ pc lo st σ) ?_) _ _ _ _ _ ((e_Mo_comes _ _ _).trans h)
    clear h
    refine List.forall_mem_cons.mpr ⟨fun lo st σ h => ?_, fun _ h => absurd h List.not_mem_nil⟩
    · dsimp only at h
      split at h
      · exact w_Mo_comes_20 X _ _ _ _ _ _ h
      · cases h
  · cases h
theorem a_Mo_comes (as : List sv_V) (σ : sv_S) (x : sv_S) (h : n_Mo_comes as σ = some x) : sv_args 5 ev_Mo_comes.2.2.2.1 as := by
  unfold n_Mo_comes at h
  split at h
  · exact ⟨Nat.le_of_ble_eq_true rfl, fun _ v hv => by
      simp only [List.mem_cons, List.not_mem_nil, or_false] at hv
      rcases hv with rfl | rfl | rfl <;> trivial⟩
  · cases h
theorem g_Mo_comes (as : List sv_V) (σ : sv_S) (x : Option sv_V × sv_S) (h : sv_gV n_Mo_comes as σ = some x) : ∃ r i as', as = sv_R r i :: as' ∧ sv_kd r i = .inl 12 := by
  obtain ⟨_, h, -⟩ := sv_b0_some h
  unfold n_Mo_comes at h
  split at h
  · exact ⟨_, _, _, rfl, rfl⟩
  · cases h
theorem tw_8 : Cond.selects RX12 yX12_sets yX12_sets ∈ gw_tbl := gw_at 8 (by decide +kernel) rfl
theorem tw_1108 : Cond.methodLink RX12 76 yX12_sets ∈ gw_tbl := gw_at 1108 (by decide +kernel) rfl
theorem tw_1110 : Cond.instanceMethod yX12_sets ∈ gw_tbl := gw_at 1110 (by decide +kernel) rfl
theorem tw_1111 : Cond.code yX12_sets cX12_sets 4 none ∈ gw_tbl := gw_at 1111 (by decide +kernel) rfl
set_option maxRecDepth 20000 in
theorem m_Mo_comes (l : Launch) : sv_M l yX12_comes cX12_comes 5 none (sv_gV n_Mo_comes) 1 := by
  refine sv_mV (E := ev_Mo_comes) (by decide +kernel) (ln_gen fk_12 kk_12 (sv_ns _ (fun _ => rfl) _)) ?_ a_Mo_comes b_Mo_comes
  intro p e R s m args below meth c cells slots Q base ad dC dI cA n0 S hkn hR hf pc n f h
  refine sv_lk_all (P := fun pc (x : Nat × sv_F) => sv_cok p l e R s m args below meth c cells slots Q base ad dC dI cA true 5 n0 pc x.1 x.2) ?_ pc (n, f) h
  exact List.forall_mem_cons.mpr ⟨(sv_cV S hkn (m_Mo_sets l) ⟨Nat.le_trans (by decide) hR.1, Nat.le_trans (by decide) hR.2⟩ (by decide) hf rfl g_Mo_sets (sv_w5 tw_1108 tw_1110 tw_8 tw_65 tw_1111) (by decide +kernel) (sv_dc3 d_Mo_comes (pc := 32) rfl rfl)).V,
      List.forall_mem_cons.mpr ⟨(sv_cV S hkn (m_Mo_sets l) ⟨Nat.le_trans (by decide) hR.1, Nat.le_trans (by decide) hR.2⟩ (by decide) hf rfl g_Mo_sets (sv_w5 tw_1108 tw_1110 tw_8 tw_65 tw_1111) (by decide +kernel) (sv_dc3 d_Mo_comes (pc := 45) rfl rfl)).V,
      List.forall_mem_cons.mpr ⟨(sv_cV S hkn (m_Mo_sets l) ⟨Nat.le_trans (by decide) hR.1, Nat.le_trans (by decide) hR.2⟩ (by decide) hf rfl g_Mo_sets (sv_w5 tw_1108 tw_1110 tw_8 tw_65 tw_1111) (by decide +kernel) (sv_dc3 d_Mo_comes (pc := 52) rfl rfl)).V,
      List.forall_mem_cons.mpr ⟨(sv_cV S hkn (m_Mo_sets l) ⟨Nat.le_trans (by decide) hR.1, Nat.le_trans (by decide) hR.2⟩ (by decide) hf rfl g_Mo_sets (sv_w5 tw_1108 tw_1110 tw_8 tw_65 tw_1111) (by decide +kernel) (sv_dc3 d_Mo_comes (pc := 60) rfl rfl)).V,
      fun _ h => absurd h List.not_mem_nil⟩⟩⟩⟩
noncomputable def f_Mo_drummer (a1 : Int32) (a2 : Int32) (σ : sv_S) : Option (Int32 × sv_S) :=
  sv_b (f_Mo_isIn (a1.toInt64) (0 : Int64) (5 : Int64) σ) (fun v1 σ2 =>
    sv_if (v1 = 0)
      (some ((-1000000001 : Int32), σ2))
      (sv_b (f_Mo_isIn (a2.toInt64) (1 : Int64) (9 : Int64) σ2) (fun v3 σ4 =>
        sv_if (v3 = 0)
          (some ((-1000000001 : Int32), σ4))
          (sv_g (sv_in (0 : Int32) 3086) (sv_if ((σ4 31 0 ((0 : Int32).toNatClampNeg)) = (10 : Int32))
            (some ((-1000000003 : Int32), σ4))
            (sv_b0 (f_Mo_comes a1 a2 σ4) (fun σ5 =>
              sv_g (sv_in (0 : Int32) 3086) (some ((σ5 31 0 ((0 : Int32).toNatClampNeg)) - (1 : Int32), σ5)))))))))
noncomputable def n_Mo_drummer : List sv_V → sv_S → Option (Int32 × sv_S)
  | [.inr (.inr (some (30, 0))), .inl a1, .inl a2], σ => f_Mo_drummer a1 a2 σ
  | _, _ => none
def cd_Mo_drummer : sv_C := [(0, (.iload_n 1, (sv_N, (1, (0, []))))), (1, (.i2l, (sv_N, (2, (0, []))))), (2, (.lconst 0, (.inr (.inl (0 : Int64)), (3, (0, []))))), (3, (.ldc2_w 80, (sv_N, (6, (0, []))))), (6, (.invokestatic 71, (sv_N, (9, (0, []))))), (9, (.ifCond .eq 15, (sv_N, (12, (24, []))))), (12, (.iload_n 2, (sv_N, (13, (0, []))))), (13, (.i2l, (sv_N, (14, (0, []))))), (14, (.lconst 1, (.inr (.inl (1 : Int64)), (15, (0, []))))), (15, (.ldc2_w 82, (sv_N, (18, (0, []))))), (18, (.invokestatic 71, (sv_N, (21, (0, []))))), (21, (.ifCond .ne 6, (sv_N, (24, (27, []))))), (24, (.ldc 84, (sv_N, (26, (0, []))))), (26, (.ireturn, (sv_N, (27, (0, []))))), (27, (.aload_n 0, (sv_N, (28, (0, []))))), (28, (.getfield 7, (sv_N, (31, (0, []))))), (31, (.iconst 0, (.inl (0 : Int32), (32, (0, []))))), (32, (.iaload, (sv_N, (33, (0, []))))), (33, (.bipush 10, (.inl (10 : Int32), (35, (0, []))))), (35, (.if_icmp .ne 6, (sv_N, (38, (41, []))))), (38, (.ldc 85, (sv_N, (40, (0, []))))), (40, (.ireturn, (sv_N, (41, (0, []))))), (41, (.aload_n 0, (sv_N, (42, (0, []))))), (42, (.iload_n 1, (sv_N, (43, (0, []))))), (43, (.iload_n 2, (sv_N, (44, (0, []))))), (44, (.invokevirtual 86, (sv_N, (47, (0, []))))), (47, (.aload_n 0, (sv_N, (48, (0, []))))), (48, (.getfield 7, (sv_N, (51, (0, []))))), (51, (.iconst 0, (.inl (0 : Int32), (52, (0, []))))), (52, (.iaload, (sv_N, (53, (0, []))))), (53, (.iconst 1, (.inl (1 : Int32), (54, (0, []))))), (54, (.isub, (sv_N, (55, (0, []))))), (55, (.ireturn, (sv_N, (56, (0, [])))))]
noncomputable def ev_Mo_drummer : sv_E := (fun i => sv_lk i fl_12, (fun i => sv_lk i kc_12, (fun _ => false, (true, fun pc => sv_lk pc [(6, (3, .inl n_Mo_isIn)), (18, (3, .inl n_Mo_isIn)), (44, (3, .inr (.inl n_Mo_comes)))]))))
noncomputable def kk_Mo_drummer : sv_K (Int32 × sv_S) := fun pc => sv_lk pc []
set_option maxRecDepth 20000 in
theorem e_Mo_drummer (a1 : Int32) (a2 : Int32) (σ : sv_S) : sv_ex ev_Mo_drummer sv_rI kk_Mo_drummer cd_Mo_drummer 35 0 [some (.inr (.inr (some (30, 0)))), some (.inl a1), some (.inl a2)] [] σ = f_Mo_drummer a1 a2 σ := by
  unfold f_Mo_drummer
  delta ev_Mo_drummer kk_Mo_drummer n_Mo_isIn n_Mo_comes
  generalize f_Mo_isIn = c0
  generalize f_Mo_comes = c1
  rfl
theorem d_Mo_drummer : cd_Mo_drummer.all (sv_dk cX12_drummer) = true := by decide +kernel
set_option maxRecDepth 20000 in
theorem b_Mo_drummer (Γ : sv_Ga) (res : Int32 × sv_S) (X : sv_Ok Γ ev_Mo_drummer cX12_drummer sv_rI res) (as : List sv_V) (σ : sv_S) (h : n_Mo_drummer as σ = some res) : sv_T Γ 0 (sv_e0 3 as) [] σ := by
  unfold n_Mo_drummer at h
  split at h
  · refine sv_run X d_Mo_drummer (K := kk_Mo_drummer) (sv_lk_all (P := fun pc (k : sv_Lo → List sv_V → sv_S → Option (Int32 × sv_S)) => ∀ lo st σ, k lo st σ = some res → sv_T Γ pc lo st σ) ?_) _ _ _ _ _ ((e_Mo_drummer _ _ _).trans h)
    clear h
    exact fun _ h => absurd h List.not_mem_nil
  · cases h
theorem a_Mo_drummer (as : List sv_V) (σ : sv_S) (x : Int32 × sv_S) (h : n_Mo_drummer as σ = some x) : sv_args 3 ev_Mo_drummer.2.2.2.1 as := by
  unfold n_Mo_drummer at h
  split at h
  · exact ⟨Nat.le_of_ble_eq_true rfl, fun _ v hv => by
      simp only [List.mem_cons, List.not_mem_nil, or_false] at hv
      rcases hv with rfl | rfl | rfl <;> trivial⟩
  · cases h
theorem g_Mo_drummer (as : List sv_V) (σ : sv_S) (x : Option sv_V × sv_S) (h : sv_gI n_Mo_drummer as σ = some x) : ∃ r i as', as = sv_R r i :: as' ∧ sv_kd r i = .inl 12 := by
  obtain ⟨_, _, h, -⟩ := sv_b_some h
  unfold n_Mo_drummer at h
  split at h
  · exact ⟨_, _, _, rfl, rfl⟩
  · cases h
theorem tw_7 : Cond.selects RX12 yX12_comes yX12_comes ∈ gw_tbl := gw_at 7 (by decide +kernel) rfl
theorem tw_1104 : Cond.methodLink RX12 86 yX12_comes ∈ gw_tbl := gw_at 1104 (by decide +kernel) rfl
theorem tw_1106 : Cond.instanceMethod yX12_comes ∈ gw_tbl := gw_at 1106 (by decide +kernel) rfl
theorem tw_1107 : Cond.code yX12_comes cX12_comes 5 none ∈ gw_tbl := gw_at 1107 (by decide +kernel) rfl
set_option maxRecDepth 20000 in
theorem m_Mo_drummer (l : Launch) : sv_M l yX12_drummer cX12_drummer 3 (some .int) (sv_gI n_Mo_drummer) 2 := by
  refine sv_mI (E := ev_Mo_drummer) (by decide +kernel) (ln_gen fk_12 kk_12 (sv_ns _ (fun _ => rfl) _)) ?_ a_Mo_drummer b_Mo_drummer
  intro p e R s m args below meth c cells slots Q base ad dC dI cA n0 S hkn hR hf pc n f h
  refine sv_lk_all (P := fun pc (x : Nat × sv_F) => sv_cok p l e R s m args below meth c cells slots Q base ad dC dI cA true 3 n0 pc x.1 x.2) ?_ pc (n, f) h
  exact List.forall_mem_cons.mpr ⟨(sv_cS S hkn (m_Mo_isIn l) ⟨Nat.le_trans (by decide) hR.1, Nat.le_trans (by decide) hR.2⟩ (by decide) hf (sv_w4 tw_1098 tw_1099 tw_65 tw_1100) (by decide +kernel) (sv_dc3 d_Mo_drummer (pc := 6) rfl rfl)).I,
      List.forall_mem_cons.mpr ⟨(sv_cS S hkn (m_Mo_isIn l) ⟨Nat.le_trans (by decide) hR.1, Nat.le_trans (by decide) hR.2⟩ (by decide) hf (sv_w4 tw_1098 tw_1099 tw_65 tw_1100) (by decide +kernel) (sv_dc3 d_Mo_drummer (pc := 18) rfl rfl)).I,
      List.forall_mem_cons.mpr ⟨(sv_cV S hkn (m_Mo_comes l) ⟨Nat.le_trans (by decide) hR.1, Nat.le_trans (by decide) hR.2⟩ (by decide) hf rfl g_Mo_comes (sv_w5 tw_1104 tw_1106 tw_7 tw_65 tw_1107) (by decide +kernel) (sv_dc3 d_Mo_drummer (pc := 44) rfl rfl)).V,
      fun _ h => absurd h List.not_mem_nil⟩⟩⟩
noncomputable def f_Mo_ago (a1 : Int32) (a2 : Int32) (σ : sv_S) : Option (Int32 × sv_S) :=
  sv_b (f_Mo_of a1 ((2 : Int32) + a2) σ) (fun v1 σ2 =>
    some (v1, σ2))
noncomputable def n_Mo_ago : List sv_V → sv_S → Option (Int32 × sv_S)
  | [.inr (.inr (some (30, 0))), .inl a1, .inl a2], σ => f_Mo_ago a1 a2 σ
  | _, _ => none
def cd_Mo_ago : sv_C := [(0, (.aload_n 0, (sv_N, (1, (0, []))))), (1, (.iload_n 1, (sv_N, (2, (0, []))))), (2, (.iconst 2, (.inl (2 : Int32), (3, (0, []))))), (3, (.iload_n 2, (sv_N, (4, (0, []))))), (4, (.iadd, (sv_N, (5, (0, []))))), (5, (.invokevirtual 90, (sv_N, (8, (0, []))))), (8, (.ireturn, (sv_N, (9, (0, [])))))]
noncomputable def ev_Mo_ago : sv_E := (fun i => sv_lk i fl_12, (fun i => sv_lk i kc_12, (fun _ => false, (true, fun pc => sv_lk pc [(5, (3, .inl n_Mo_of))]))))
noncomputable def kk_Mo_ago : sv_K (Int32 × sv_S) := fun pc => sv_lk pc []
set_option maxRecDepth 20000 in
theorem e_Mo_ago (a1 : Int32) (a2 : Int32) (σ : sv_S) : sv_ex ev_Mo_ago sv_rI kk_Mo_ago cd_Mo_ago 9 0 [some (.inr (.inr (some (30, 0)))), some (.inl a1), some (.inl a2)] [] σ = f_Mo_ago a1 a2 σ := by
  unfold f_Mo_ago
  delta ev_Mo_ago kk_Mo_ago n_Mo_of
  generalize f_Mo_of = c0
  rfl
theorem d_Mo_ago : cd_Mo_ago.all (sv_dk cX12_ago) = true := by decide +kernel
set_option maxRecDepth 20000 in
theorem b_Mo_ago (Γ : sv_Ga) (res : Int32 × sv_S) (X : sv_Ok Γ ev_Mo_ago cX12_ago sv_rI res) (as : List sv_V) (σ : sv_S) (h : n_Mo_ago as σ = some res) : sv_T Γ 0 (sv_e0 3 as) [] σ := by
  unfold n_Mo_ago at h
  split at h
  · refine sv_run X d_Mo_ago (K := kk_Mo_ago) (sv_lk_all (P := fun pc (k : sv_Lo → List sv_V → sv_S → Option (Int32 × sv_S)) => ∀ lo st σ, k lo st σ = some res → sv_T Γ pc lo st σ) ?_) _ _ _ _ _ ((e_Mo_ago _ _ _).trans h)
    clear h
    exact fun _ h => absurd h List.not_mem_nil
  · cases h
theorem a_Mo_ago (as : List sv_V) (σ : sv_S) (x : Int32 × sv_S) (h : n_Mo_ago as σ = some x) : sv_args 3 ev_Mo_ago.2.2.2.1 as := by
  unfold n_Mo_ago at h
  split at h
  · exact ⟨Nat.le_of_ble_eq_true rfl, fun _ v hv => by
      simp only [List.mem_cons, List.not_mem_nil, or_false] at hv
      rcases hv with rfl | rfl | rfl <;> trivial⟩
  · cases h
theorem g_Mo_ago (as : List sv_V) (σ : sv_S) (x : Option sv_V × sv_S) (h : sv_gI n_Mo_ago as σ = some x) : ∃ r i as', as = sv_R r i :: as' ∧ sv_kd r i = .inl 12 := by
  obtain ⟨_, _, h, -⟩ := sv_b_some h
  unfold n_Mo_ago at h
  split at h
  · exact ⟨_, _, _, rfl, rfl⟩
  · cases h
theorem tw_10 : Cond.selects RX12 yX12_of yX12_of ∈ gw_tbl := gw_at 10 (by decide +kernel) rfl
theorem tw_1120 : Cond.methodLink RX12 90 yX12_of ∈ gw_tbl := gw_at 1120 (by decide +kernel) rfl
theorem tw_1122 : Cond.instanceMethod yX12_of ∈ gw_tbl := gw_at 1122 (by decide +kernel) rfl
theorem tw_1123 : Cond.code yX12_of cX12_of 3 (some .int) ∈ gw_tbl := gw_at 1123 (by decide +kernel) rfl
set_option maxRecDepth 20000 in
theorem m_Mo_ago (l : Launch) : sv_M l yX12_ago cX12_ago 3 (some .int) (sv_gI n_Mo_ago) 1 := by
  refine sv_mI (E := ev_Mo_ago) (by decide +kernel) (ln_gen fk_12 kk_12 (sv_ns _ (fun _ => rfl) _)) ?_ a_Mo_ago b_Mo_ago
  intro p e R s m args below meth c cells slots Q base ad dC dI cA n0 S hkn hR hf pc n f h
  refine sv_lk_all (P := fun pc (x : Nat × sv_F) => sv_cok p l e R s m args below meth c cells slots Q base ad dC dI cA true 3 n0 pc x.1 x.2) ?_ pc (n, f) h
  exact List.forall_mem_cons.mpr ⟨(sv_cV S hkn (m_Mo_of l) ⟨Nat.le_trans (by decide) hR.1, Nat.le_trans (by decide) hR.2⟩ (by decide) hf rfl g_Mo_of (sv_w5 tw_1120 tw_1122 tw_10 tw_65 tw_1123) (by decide +kernel) (sv_dc3 d_Mo_ago (pc := 5) rfl rfl)).I,
      fun _ h => absurd h List.not_mem_nil⟩
noncomputable def f_Mo_left (a1 : Int32) (σ : sv_S) : Option (Int32 × sv_S) :=
  sv_if (a1 = 0)
    (some ((0 : Int32), σ))
    (sv_b (f_Mo_of (a1 - (1 : Int32)) (7 : Int32) σ) (fun v1 σ2 =>
      sv_b (f_Mo_ago (a1 - (1 : Int32)) (v1 - (1 : Int32)) σ2) (fun v3 σ4 =>
        some (v3, σ4))))
noncomputable def n_Mo_left : List sv_V → sv_S → Option (Int32 × sv_S)
  | [.inr (.inr (some (30, 0))), .inl a1], σ => f_Mo_left a1 σ
  | _, _ => none
def cd_Mo_left : sv_C := [(0, (.iload_n 1, (sv_N, (1, (0, []))))), (1, (.ifCond .ne 7, (sv_N, (4, (8, []))))), (4, (.iconst 0, (.inl (0 : Int32), (5, (0, []))))), (5, (.goto 21, (sv_N, (8, (26, []))))), (8, (.aload_n 0, (sv_N, (9, (0, []))))), (9, (.iload_n 1, (sv_N, (10, (0, []))))), (10, (.iconst 1, (.inl (1 : Int32), (11, (0, []))))), (11, (.isub, (sv_N, (12, (0, []))))), (12, (.aload_n 0, (sv_N, (13, (0, []))))), (13, (.iload_n 1, (sv_N, (14, (0, []))))), (14, (.iconst 1, (.inl (1 : Int32), (15, (0, []))))), (15, (.isub, (sv_N, (16, (0, []))))), (16, (.bipush 7, (.inl (7 : Int32), (18, (0, []))))), (18, (.invokevirtual 90, (sv_N, (21, (0, []))))), (21, (.iconst 1, (.inl (1 : Int32), (22, (0, []))))), (22, (.isub, (sv_N, (23, (0, []))))), (23, (.invokevirtual 94, (sv_N, (26, (0, []))))), (26, (.ireturn, (sv_N, (27, (0, [])))))]
noncomputable def ev_Mo_left : sv_E := (fun i => sv_lk i fl_12, (fun i => sv_lk i kc_12, (fun _ => false, (true, fun pc => sv_lk pc [(18, (3, .inl n_Mo_of)), (23, (3, .inl n_Mo_ago))]))))
noncomputable def kk_Mo_left : sv_K (Int32 × sv_S) := fun pc => sv_lk pc []
set_option maxRecDepth 20000 in
theorem e_Mo_left (a1 : Int32) (σ : sv_S) : sv_ex ev_Mo_left sv_rI kk_Mo_left cd_Mo_left 20 0 [some (.inr (.inr (some (30, 0)))), some (.inl a1)] [] σ = f_Mo_left a1 σ := by
  unfold f_Mo_left
  delta ev_Mo_left kk_Mo_left n_Mo_of n_Mo_ago
  generalize f_Mo_of = c0
  generalize f_Mo_ago = c1
  rfl
theorem d_Mo_left : cd_Mo_left.all (sv_dk cX12_left) = true := by decide +kernel
set_option maxRecDepth 20000 in
theorem b_Mo_left (Γ : sv_Ga) (res : Int32 × sv_S) (X : sv_Ok Γ ev_Mo_left cX12_left sv_rI res) (as : List sv_V) (σ : sv_S) (h : n_Mo_left as σ = some res) : sv_T Γ 0 (sv_e0 2 as) [] σ := by
  unfold n_Mo_left at h
  split at h
  · refine sv_run X d_Mo_left (K := kk_Mo_left) (sv_lk_all (P := fun pc (k : sv_Lo → List sv_V → sv_S → Option (Int32 × sv_S)) => ∀ lo st σ, k lo st σ = some res → sv_T Γ pc lo st σ) ?_) _ _ _ _ _ ((e_Mo_left _ _).trans h)
    clear h
    exact fun _ h => absurd h List.not_mem_nil
  · cases h
theorem a_Mo_left (as : List sv_V) (σ : sv_S) (x : Int32 × sv_S) (h : n_Mo_left as σ = some x) : sv_args 2 ev_Mo_left.2.2.2.1 as := by
  unfold n_Mo_left at h
  split at h
  · exact ⟨Nat.le_of_ble_eq_true rfl, fun _ v hv => by
      simp only [List.mem_cons, List.not_mem_nil, or_false] at hv
      rcases hv with rfl | rfl <;> trivial⟩
  · cases h
theorem g_Mo_left (as : List sv_V) (σ : sv_S) (x : Option sv_V × sv_S) (h : sv_gI n_Mo_left as σ = some x) : ∃ r i as', as = sv_R r i :: as' ∧ sv_kd r i = .inl 12 := by
  obtain ⟨_, _, h, -⟩ := sv_b_some h
  unfold n_Mo_left at h
  split at h
  · exact ⟨_, _, _, rfl, rfl⟩
  · cases h
theorem tw_13 : Cond.selects RX12 yX12_ago yX12_ago ∈ gw_tbl := gw_at 13 (by decide +kernel) rfl
theorem tw_1133 : Cond.methodLink RX12 94 yX12_ago ∈ gw_tbl := gw_at 1133 (by decide +kernel) rfl
theorem tw_1135 : Cond.instanceMethod yX12_ago ∈ gw_tbl := gw_at 1135 (by decide +kernel) rfl
theorem tw_1136 : Cond.code yX12_ago cX12_ago 3 (some .int) ∈ gw_tbl := gw_at 1136 (by decide +kernel) rfl
set_option maxRecDepth 20000 in
theorem m_Mo_left (l : Launch) : sv_M l yX12_left cX12_left 2 (some .int) (sv_gI n_Mo_left) 2 := by
  refine sv_mI (E := ev_Mo_left) (by decide +kernel) (ln_gen fk_12 kk_12 (sv_ns _ (fun _ => rfl) _)) ?_ a_Mo_left b_Mo_left
  intro p e R s m args below meth c cells slots Q base ad dC dI cA n0 S hkn hR hf pc n f h
  refine sv_lk_all (P := fun pc (x : Nat × sv_F) => sv_cok p l e R s m args below meth c cells slots Q base ad dC dI cA true 2 n0 pc x.1 x.2) ?_ pc (n, f) h
  exact List.forall_mem_cons.mpr ⟨(sv_cV S hkn (m_Mo_of l) ⟨Nat.le_trans (by decide) hR.1, Nat.le_trans (by decide) hR.2⟩ (by decide) hf rfl g_Mo_of (sv_w5 tw_1120 tw_1122 tw_10 tw_65 tw_1123) (by decide +kernel) (sv_dc3 d_Mo_left (pc := 18) rfl rfl)).I,
      List.forall_mem_cons.mpr ⟨(sv_cV S hkn (m_Mo_ago l) ⟨Nat.le_trans (by decide) hR.1, Nat.le_trans (by decide) hR.2⟩ (by decide) hf rfl g_Mo_ago (sv_w5 tw_1133 tw_1135 tw_13 tw_65 tw_1136) (by decide +kernel) (sv_dc3 d_Mo_left (pc := 23) rfl rfl)).I,
      fun _ h => absurd h List.not_mem_nil⟩⟩
noncomputable def f_Mo_right (a1 : Int32) (σ : sv_S) : Option (Int32 × sv_S) :=
  sv_g (sv_in (0 : Int32) 3086) (sv_if ((a1 + (1 : Int32)) = (σ 31 0 ((0 : Int32).toNatClampNeg)))
    (some ((0 : Int32), σ))
    (sv_b (f_Mo_of a1 (7 : Int32) σ) (fun v1 σ2 =>
      sv_b (f_Mo_ago (a1 + (1 : Int32)) (v1 - (1 : Int32)) σ2) (fun v3 σ4 =>
        some (v3, σ4)))))
noncomputable def n_Mo_right : List sv_V → sv_S → Option (Int32 × sv_S)
  | [.inr (.inr (some (30, 0))), .inl a1], σ => f_Mo_right a1 σ
  | _, _ => none
def cd_Mo_right : sv_C := [(0, (.iload_n 1, (sv_N, (1, (0, []))))), (1, (.iconst 1, (.inl (1 : Int32), (2, (0, []))))), (2, (.iadd, (sv_N, (3, (0, []))))), (3, (.aload_n 0, (sv_N, (4, (0, []))))), (4, (.getfield 7, (sv_N, (7, (0, []))))), (7, (.iconst 0, (.inl (0 : Int32), (8, (0, []))))), (8, (.iaload, (sv_N, (9, (0, []))))), (9, (.if_icmp .ne 7, (sv_N, (12, (16, []))))), (12, (.iconst 0, (.inl (0 : Int32), (13, (0, []))))), (13, (.goto 19, (sv_N, (16, (32, []))))), (16, (.aload_n 0, (sv_N, (17, (0, []))))), (17, (.iload_n 1, (sv_N, (18, (0, []))))), (18, (.iconst 1, (.inl (1 : Int32), (19, (0, []))))), (19, (.iadd, (sv_N, (20, (0, []))))), (20, (.aload_n 0, (sv_N, (21, (0, []))))), (21, (.iload_n 1, (sv_N, (22, (0, []))))), (22, (.bipush 7, (.inl (7 : Int32), (24, (0, []))))), (24, (.invokevirtual 90, (sv_N, (27, (0, []))))), (27, (.iconst 1, (.inl (1 : Int32), (28, (0, []))))), (28, (.isub, (sv_N, (29, (0, []))))), (29, (.invokevirtual 94, (sv_N, (32, (0, []))))), (32, (.ireturn, (sv_N, (33, (0, [])))))]
noncomputable def ev_Mo_right : sv_E := (fun i => sv_lk i fl_12, (fun i => sv_lk i kc_12, (fun _ => false, (true, fun pc => sv_lk pc [(24, (3, .inl n_Mo_of)), (29, (3, .inl n_Mo_ago))]))))
noncomputable def kk_Mo_right : sv_K (Int32 × sv_S) := fun pc => sv_lk pc []
set_option maxRecDepth 20000 in
theorem e_Mo_right (a1 : Int32) (σ : sv_S) : sv_ex ev_Mo_right sv_rI kk_Mo_right cd_Mo_right 24 0 [some (.inr (.inr (some (30, 0)))), some (.inl a1)] [] σ = f_Mo_right a1 σ := by
  unfold f_Mo_right
  delta ev_Mo_right kk_Mo_right n_Mo_of n_Mo_ago
  generalize f_Mo_of = c0
  generalize f_Mo_ago = c1
  rfl
theorem d_Mo_right : cd_Mo_right.all (sv_dk cX12_right) = true := by decide +kernel
set_option maxRecDepth 20000 in
theorem b_Mo_right (Γ : sv_Ga) (res : Int32 × sv_S) (X : sv_Ok Γ ev_Mo_right cX12_right sv_rI res) (as : List sv_V) (σ : sv_S) (h : n_Mo_right as σ = some res) : sv_T Γ 0 (sv_e0 2 as) [] σ := by
  unfold n_Mo_right at h
  split at h
  · refine sv_run X d_Mo_right (K := kk_Mo_right) (sv_lk_all (P := fun pc (k : sv_Lo → List sv_V → sv_S → Option (Int32 × sv_S)) => ∀ lo st σ, k lo st σ = some res → sv_T Γ pc lo st σ) ?_) _ _ _ _ _ ((e_Mo_right _ _).trans h)
    clear h
    exact fun _ h => absurd h List.not_mem_nil
  · cases h
theorem a_Mo_right (as : List sv_V) (σ : sv_S) (x : Int32 × sv_S) (h : n_Mo_right as σ = some x) : sv_args 2 ev_Mo_right.2.2.2.1 as := by
  unfold n_Mo_right at h
  split at h
  · exact ⟨Nat.le_of_ble_eq_true rfl, fun _ v hv => by
      simp only [List.mem_cons, List.not_mem_nil, or_false] at hv
      rcases hv with rfl | rfl <;> trivial⟩
  · cases h
theorem g_Mo_right (as : List sv_V) (σ : sv_S) (x : Option sv_V × sv_S) (h : sv_gI n_Mo_right as σ = some x) : ∃ r i as', as = sv_R r i :: as' ∧ sv_kd r i = .inl 12 := by
  obtain ⟨_, _, h, -⟩ := sv_b_some h
  unfold n_Mo_right at h
  split at h
  · exact ⟨_, _, _, rfl, rfl⟩
  · cases h

set_option maxRecDepth 20000 in
theorem m_Mo_right (l : Launch) : sv_M l yX12_right cX12_right 2 (some .int) (sv_gI n_Mo_right) 2 := by
  refine sv_mI (E := ev_Mo_right) (by decide +kernel) (ln_gen fk_12 kk_12 (sv_ns _ (fun _ => rfl) _)) ?_ a_Mo_right b_Mo_right
  intro p e R s m args below meth c cells slots Q base ad dC dI cA n0 S hkn hR hf pc n f h
  refine sv_lk_all (P := fun pc (x : Nat × sv_F) => sv_cok p l e R s m args below meth c cells slots Q base ad dC dI cA true 2 n0 pc x.1 x.2) ?_ pc (n, f) h
  exact List.forall_mem_cons.mpr ⟨(sv_cV S hkn (m_Mo_of l) ⟨Nat.le_trans (by decide) hR.1, Nat.le_trans (by decide) hR.2⟩ (by decide) hf rfl g_Mo_of (sv_w5 tw_1120 tw_1122 tw_10 tw_65 tw_1123) (by decide +kernel) (sv_dc3 d_Mo_right (pc := 24) rfl rfl)).I,
      List.forall_mem_cons.mpr ⟨(sv_cV S hkn (m_Mo_ago l) ⟨Nat.le_trans (by decide) hR.1, Nat.le_trans (by decide) hR.2⟩ (by decide) hf rfl g_Mo_ago (sv_w5 tw_1133 tw_1135 tw_13 tw_65 tw_1136) (by decide +kernel) (sv_dc3 d_Mo_right (pc := 29) rfl rfl)).I,
      fun _ h => absurd h List.not_mem_nil⟩⟩
noncomputable def f_Mo_counts_4 : Nat → Int32 → Int32 → Int32 → sv_S → Option (Int32 × sv_S)
  | 0, _, _, _, _ => none
  | n + 1, x1, x2, x3, σ =>
    sv_g (sv_in (1 : Int32) 3086) (sv_if ((σ 31 0 ((1 : Int32).toNatClampNeg)) ≤ x3)
      (some (x2, σ))
      (sv_b (f_Mo_textAt x3 σ) (fun v1 σ2 =>
        sv_g (sv_in v1 3086) (sv_if ((σ2 31 0 (v1.toNatClampNeg)) = x1)
          (f_Mo_counts_4 n x1 x3 (x3 + (1 : Int32)) σ2)
          (f_Mo_counts_4 n x1 x2 (x3 + (1 : Int32)) σ2)))))
noncomputable def f_Mo_counts (a1 : Int32) (σ : sv_S) : Option (Int32 × sv_S) :=
  f_Mo_counts_4 sv_fu a1 (-1 : Int32) (0 : Int32) σ
noncomputable def n_Mo_counts : List sv_V → sv_S → Option (Int32 × sv_S)
  | [.inr (.inr (some (30, 0))), .inl a1], σ => f_Mo_counts a1 σ
  | _, _ => none
def cd_Mo_counts : sv_C := [(0, (.iconst (-1), (.inl (-1 : Int32), (1, (0, []))))), (1, (.istore_n 2, (sv_N, (2, (0, []))))), (2, (.iconst 0, (.inl (0 : Int32), (3, (0, []))))), (3, (.istore_n 3, (sv_N, (4, (0, []))))), (4, (.iload_n 3, (sv_N, (5, (0, []))))), (5, (.aload_n 0, (sv_N, (6, (0, []))))), (6, (.getfield 7, (sv_N, (9, (0, []))))), (9, (.iconst 1, (.inl (1 : Int32), (10, (0, []))))), (10, (.iaload, (sv_N, (11, (0, []))))), (11, (.if_icmp .ge 29, (sv_N, (14, (40, []))))), (14, (.aload_n 0, (sv_N, (15, (0, []))))), (15, (.getfield 7, (sv_N, (18, (0, []))))), (18, (.aload_n 0, (sv_N, (19, (0, []))))), (19, (.iload_n 3, (sv_N, (20, (0, []))))), (20, (.invokevirtual 282, (sv_N, (23, (0, []))))), (23, (.iaload, (sv_N, (24, (0, []))))), (24, (.iload_n 1, (sv_N, (25, (0, []))))), (25, (.if_icmp .ne 7, (sv_N, (28, (32, []))))), (28, (.iload_n 3, (sv_N, (29, (0, []))))), (29, (.goto 4, (sv_N, (32, (33, []))))), (32, (.iload_n 2, (sv_N, (33, (0, []))))), (33, (.istore_n 2, (sv_N, (34, (0, []))))), (34, (.iinc 3 1, (.inl (1 : Int32), (37, (0, []))))), (37, (.goto (-33), (sv_N, (40, (4, []))))), (40, (.iload_n 2, (sv_N, (41, (0, []))))), (41, (.ireturn, (sv_N, (42, (0, [])))))]
noncomputable def ev_Mo_counts : sv_E := (fun i => sv_lk i fl_12, (fun i => sv_lk i kc_12, (fun _ => false, (true, fun pc => sv_lk pc [(20, (2, .inl n_Mo_textAt))]))))
noncomputable def kk_Mo_counts_4 (n : Nat) : sv_K (Int32 × sv_S) := fun pc => sv_lk pc [(4, fun lo st σ => match lo, st with
    | [some (.inr (.inr (some (30, 0)))), some (.inl x1), some (.inl x2), some (.inl x3)], [] => f_Mo_counts_4 n x1 x2 x3 σ
    | _, _ => none)]
set_option maxRecDepth 20000 in
theorem e_Mo_counts_4 (n : Nat) (x1 : Int32) (x2 : Int32) (x3 : Int32) (σ : sv_S) : sv_ex ev_Mo_counts sv_rI (kk_Mo_counts_4 n) cd_Mo_counts 28 4 [some (.inr (.inr (some (30, 0)))), some (.inl x1), some (.inl x2), some (.inl x3)] [] σ = f_Mo_counts_4 (n + 1) x1 x2 x3 σ := by
  rw [f_Mo_counts_4.eq_2]
  delta ev_Mo_counts kk_Mo_counts_4 n_Mo_textAt
  generalize f_Mo_textAt = c0
  generalize f_Mo_counts_4 = c1
  rfl
noncomputable def kk_Mo_counts : sv_K (Int32 × sv_S) := fun pc => sv_lk pc [(4, fun lo st σ => match lo, st with
    | [some (.inr (.inr (some (30, 0)))), some (.inl x1), some (.inl x2), some (.inl x3)], [] => f_Mo_counts_4 sv_fu x1 x2 x3 σ
    | _, _ => none)]
set_option maxRecDepth 20000 in
theorem e_Mo_counts (a1 : Int32) (σ : sv_S) : sv_ex ev_Mo_counts sv_rI kk_Mo_counts cd_Mo_counts 28 0 [some (.inr (.inr (some (30, 0)))), some (.inl a1), none, none] [] σ = f_Mo_counts a1 σ := by
  unfold f_Mo_counts
  delta ev_Mo_counts kk_Mo_counts n_Mo_textAt
  generalize f_Mo_textAt = c0
  generalize f_Mo_counts_4 = c1
  rfl
theorem d_Mo_counts : cd_Mo_counts.all (sv_dk cX12_counts) = true := by decide +kernel
set_option maxRecDepth 20000 in
theorem w_Mo_counts_4 {Γ : sv_Ga} {res : Int32 × sv_S} (X : sv_Ok Γ ev_Mo_counts cX12_counts sv_rI res) : ∀ (n : Nat) (x1 : Int32) (x2 : Int32) (x3 : Int32) (σ : sv_S), f_Mo_counts_4 n x1 x2 x3 σ = some res → sv_T Γ 4 [some (.inr (.inr (some (30, 0)))), some (.inl x1), some (.inl x2), some (.inl x3)] [] σ := by
  intro n
  induction n with
  | zero =>
    intro x1 x2 x3 σ h
    rw [f_Mo_counts_4.eq_1] at h
    cases h
  | succ n ih =>
    intro x1 x2 x3 σ h
    refine sv_run X d_Mo_counts (K := kk_Mo_counts_4 n) (sv_lk_all (P := fun pc (k : sv_Lo → List sv_V → sv_S → Option (Int32 × sv_S)) => ∀ lo st σ, k lo st σ = some res → sv_T Γ pc lo st σ) ?_) _ _ _ _ _ ((e_Mo_counts_4 n x1 x2 x3 σ).trans h)
    clear h
    refine List.forall_mem_cons.mpr ⟨fun lo st σ h => ?_, fun _ h => absurd h List.not_mem_nil⟩
    · dsimp only at h
      split at h
      · exact ih _ _ _ _ h
      · cases h

set_option maxRecDepth 20000 in
theorem b_Mo_counts (Γ : sv_Ga) (res : Int32 × sv_S) (X : sv_Ok Γ ev_Mo_counts cX12_counts sv_rI res) (as : List sv_V) (σ : sv_S) (h : n_Mo_counts as σ = some res) : sv_T Γ 0 (sv_e0 4 as) [] σ := by
  unfold n_Mo_counts at h
  split at h
  · refine sv_run X d_Mo_counts (K := kk_Mo_counts) (sv_lk_all (P := fun pc (k : sv_Lo → List sv_V → sv_S → Option (Int32 × sv_S)) => ∀ lo st σ, k lo st σ = some res → sv_T Γ pc lo st σ) ?_) _ _ _ _ _ ((e_Mo_counts _ _).trans h)
    clear h
    refine List.forall_mem_cons.mpr ⟨fun lo st σ h => ?_, fun _ h => absurd h List.not_mem_nil⟩
    · dsimp only at h
      split at h
      · exact w_Mo_counts_4 X _ _ _ _ _ h
      · cases h
  · cases h
theorem a_Mo_counts (as : List sv_V) (σ : sv_S) (x : Int32 × sv_S) (h : n_Mo_counts as σ = some x) : sv_args 4 ev_Mo_counts.2.2.2.1 as := by
  unfold n_Mo_counts at h
  split at h
  · exact ⟨Nat.le_of_ble_eq_true rfl, fun _ v hv => by
      simp only [List.mem_cons, List.not_mem_nil, or_false] at hv
      rcases hv with rfl | rfl <;> trivial⟩
  · cases h
theorem g_Mo_counts (as : List sv_V) (σ : sv_S) (x : Option sv_V × sv_S) (h : sv_gI n_Mo_counts as σ = some x) : ∃ r i as', as = sv_R r i :: as' ∧ sv_kd r i = .inl 12 := by
  obtain ⟨_, _, h, -⟩ := sv_b_some h
  unfold n_Mo_counts at h
  split at h
  · exact ⟨_, _, _, rfl, rfl⟩
  · cases h
theorem tw_15 : Cond.selects RX12 yX12_textAt yX12_textAt ∈ gw_tbl := gw_at 15 (by decide +kernel) rfl
theorem tw_1141 : Cond.methodLink RX12 282 yX12_textAt ∈ gw_tbl := gw_at 1141 (by decide +kernel) rfl
theorem tw_1143 : Cond.instanceMethod yX12_textAt ∈ gw_tbl := gw_at 1143 (by decide +kernel) rfl
theorem tw_1144 : Cond.code yX12_textAt cX12_textAt 2 (some .int) ∈ gw_tbl := gw_at 1144 (by decide +kernel) rfl
set_option maxRecDepth 20000 in
theorem m_Mo_counts (l : Launch) : sv_M l yX12_counts cX12_counts 4 (some .int) (sv_gI n_Mo_counts) 1 := by
  refine sv_mI (E := ev_Mo_counts) (by decide +kernel) (ln_gen fk_12 kk_12 (sv_ns _ (fun _ => rfl) _)) ?_ a_Mo_counts b_Mo_counts
  intro p e R s m args below meth c cells slots Q base ad dC dI cA n0 S hkn hR hf pc n f h
  refine sv_lk_all (P := fun pc (x : Nat × sv_F) => sv_cok p l e R s m args below meth c cells slots Q base ad dC dI cA true 4 n0 pc x.1 x.2) ?_ pc (n, f) h
  exact List.forall_mem_cons.mpr ⟨(sv_cV S hkn (m_Mo_textAt l) ⟨Nat.le_trans (by decide) hR.1, Nat.le_trans (by decide) hR.2⟩ (by decide) hf rfl g_Mo_textAt (sv_w5 tw_1141 tw_1143 tw_15 tw_65 tw_1144) (by decide +kernel) (sv_dc3 d_Mo_counts (pc := 20) rfl rfl)).I,
      fun _ h => absurd h List.not_mem_nil⟩
noncomputable def f_Mo_joined (a0 : Int32) (a1 : Int32) (a2 : Int32) (σ : sv_S) : Option (Int32 × sv_S) :=
  sv_if (a0.toInt = 38)
    (sv_if (a1 = 0)
      (some ((0 : Int32), σ))
      (sv_if (a2 = 0)
        (some ((0 : Int32), σ))
        (some ((1 : Int32), σ))))
    (sv_if (a0.toInt = 39)
    (sv_if (a1 = 0)
      (sv_if (a2 = 0)
        (some ((0 : Int32), σ))
        (some ((1 : Int32), σ)))
      (some ((1 : Int32), σ)))
    (sv_if (a0.toInt = 40)
    (sv_if (a1 = 0)
      (sv_if (a2 = 0)
        (some ((0 : Int32), σ))
        (some ((1 : Int32), σ)))
      (some ((1 : Int32), σ)))
    (sv_if (a0.toInt = 41)
    (sv_if (a1 = 0)
      (sv_if (a2 = 0)
        (some ((0 : Int32), σ))
        (some ((1 : Int32), σ)))
      (some ((1 : Int32), σ)))
    (sv_if (a0.toInt = 42)
    (some (a1 * a2, σ))
    (sv_if (a0.toInt = 43)
    (some (a1 + a2, σ))
    (sv_if (a0.toInt = 44)
    (sv_if (a1 = 0)
      (sv_if (a2 = 0)
        (some ((0 : Int32), σ))
        (some ((1 : Int32), σ)))
      (some ((1 : Int32), σ)))
    (sv_if (a0.toInt = 45)
    (some (a1 - a2, σ))
    (sv_if (a0.toInt = 46)
    (sv_if (a1 = 0)
      (sv_if (a2 = 0)
        (some ((0 : Int32), σ))
        (some ((1 : Int32), σ)))
      (some ((1 : Int32), σ)))
    (sv_if (a0.toInt = 47)
    (sv_if (a2 = 0)
      (some ((0 : Int32), σ))
      (sv_if (a2 = (-1 : Int32))
        (some (-a1, σ))
        (sv_g (¬ a2 = 0) (some (a1 / a2, σ)))))
    (sv_if (a0.toInt = 48)
    (sv_if (a1 = 0)
      (sv_if (a2 = 0)
        (some ((0 : Int32), σ))
        (some ((1 : Int32), σ)))
      (some ((1 : Int32), σ)))
    (sv_if (a0.toInt = 49)
    (sv_if (a1 = 0)
      (sv_if (a2 = 0)
        (some ((0 : Int32), σ))
        (some ((1 : Int32), σ)))
      (some ((1 : Int32), σ)))
    (sv_if (a0.toInt = 50)
    (sv_if (a1 = 0)
      (sv_if (a2 = 0)
        (some ((0 : Int32), σ))
        (some ((1 : Int32), σ)))
      (some ((1 : Int32), σ)))
    (sv_if (a0.toInt = 51)
    (sv_if (a1 = 0)
      (sv_if (a2 = 0)
        (some ((0 : Int32), σ))
        (some ((1 : Int32), σ)))
      (some ((1 : Int32), σ)))
    (sv_if (a0.toInt = 52)
    (sv_if (a1 = 0)
      (sv_if (a2 = 0)
        (some ((0 : Int32), σ))
        (some ((1 : Int32), σ)))
      (some ((1 : Int32), σ)))
    (sv_if (a0.toInt = 53)
    (sv_if (a1 = 0)
      (sv_if (a2 = 0)
        (some ((0 : Int32), σ))
        (some ((1 : Int32), σ)))
      (some ((1 : Int32), σ)))
    (sv_if (a0.toInt = 54)
    (sv_if (a1 = 0)
      (sv_if (a2 = 0)
        (some ((0 : Int32), σ))
        (some ((1 : Int32), σ)))
      (some ((1 : Int32), σ)))
    (sv_if (a0.toInt = 55)
    (sv_if (a1 = 0)
      (sv_if (a2 = 0)
        (some ((0 : Int32), σ))
        (some ((1 : Int32), σ)))
      (some ((1 : Int32), σ)))
    (sv_if (a0.toInt = 56)
    (sv_if (a1 = 0)
      (sv_if (a2 = 0)
        (some ((0 : Int32), σ))
        (some ((1 : Int32), σ)))
      (some ((1 : Int32), σ)))
    (sv_if (a0.toInt = 57)
    (sv_if (a1 = 0)
      (sv_if (a2 = 0)
        (some ((0 : Int32), σ))
        (some ((1 : Int32), σ)))
      (some ((1 : Int32), σ)))
    (sv_if (a0.toInt = 58)
    (sv_if (a1 = 0)
      (sv_if (a2 = 0)
        (some ((0 : Int32), σ))
        (some ((1 : Int32), σ)))
      (some ((1 : Int32), σ)))
    (sv_if (a0.toInt = 59)
    (sv_if (a1 = 0)
      (sv_if (a2 = 0)
        (some ((0 : Int32), σ))
        (some ((1 : Int32), σ)))
      (some ((1 : Int32), σ)))
    (sv_if (a0.toInt = 60)
    (sv_if (a2 ≤ a1)
      (some ((0 : Int32), σ))
      (some ((1 : Int32), σ)))
    (sv_if (a0.toInt = 61)
    (sv_if (a1 = a2)
      (some ((1 : Int32), σ))
      (some ((0 : Int32), σ)))
    (sv_if (a0.toInt = 62)
    (sv_if (a1 ≤ a2)
      (some ((0 : Int32), σ))
      (some ((1 : Int32), σ)))
    (sv_if (a1 = 0)
      (sv_if (a2 = 0)
        (some ((0 : Int32), σ))
        (some ((1 : Int32), σ)))
      (some ((1 : Int32), σ)))))))))))))))))))))))))))
noncomputable def n_Mo_joined : List sv_V → sv_S → Option (Int32 × sv_S)
  | [.inl a0, .inl a1, .inl a2], σ => f_Mo_joined a0 a1 a2 σ
  | _, _ => none
def cd_Mo_joined : sv_C := [(0, (.iload_n 0, (sv_N, (1, (0, []))))), (1, (.tableswitch 196 38 62 #[182, 196, 196, 196, 123, 115, 196, 119, 196, 127, 196, 196, 196, 196, 196, 196, 196, 196, 196, 196, 196, 196, 149, 171, 160], (sv_N, (1, (197, [(38, 183), (39, 197), (40, 197), (41, 197), (42, 124), (43, 116), (44, 197), (45, 120), (46, 197), (47, 128), (48, 197), (49, 197), (50, 197), (51, 197), (52, 197), (53, 197), (54, 197), (55, 197), (56, 197), (57, 197), (58, 197), (59, 197), (60, 150), (61, 172), (62, 161)]))))), (116, (.iload_n 1, (sv_N, (117, (0, []))))), (117, (.iload_n 2, (sv_N, (118, (0, []))))), (118, (.iadd, (sv_N, (119, (0, []))))), (119, (.ireturn, (sv_N, (120, (0, []))))), (120, (.iload_n 1, (sv_N, (121, (0, []))))), (121, (.iload_n 2, (sv_N, (122, (0, []))))), (122, (.isub, (sv_N, (123, (0, []))))), (123, (.ireturn, (sv_N, (124, (0, []))))), (124, (.iload_n 1, (sv_N, (125, (0, []))))), (125, (.iload_n 2, (sv_N, (126, (0, []))))), (126, (.imul, (sv_N, (127, (0, []))))), (127, (.ireturn, (sv_N, (128, (0, []))))), (128, (.iload_n 2, (sv_N, (129, (0, []))))), (129, (.ifCond .ne 7, (sv_N, (132, (136, []))))), (132, (.iconst 0, (.inl (0 : Int32), (133, (0, []))))), (133, (.goto 16, (sv_N, (136, (149, []))))), (136, (.iload_n 2, (sv_N, (137, (0, []))))), (137, (.iconst (-1), (.inl (-1 : Int32), (138, (0, []))))), (138, (.if_icmp .ne 8, (sv_N, (141, (146, []))))), (141, (.iload_n 1, (sv_N, (142, (0, []))))), (142, (.ineg, (sv_N, (143, (0, []))))), (143, (.goto 6, (sv_N, (146, (149, []))))), (146, (.iload_n 1, (sv_N, (147, (0, []))))), (147, (.iload_n 2, (sv_N, (148, (0, []))))), (148, (.idiv, (sv_N, (149, (0, []))))), (149, (.ireturn, (sv_N, (150, (0, []))))), (150, (.iload_n 1, (sv_N, (151, (0, []))))), (151, (.iload_n 2, (sv_N, (152, (0, []))))), (152, (.if_icmp .ge 7, (sv_N, (155, (159, []))))), (155, (.iconst 1, (.inl (1 : Int32), (156, (0, []))))), (156, (.goto 4, (sv_N, (159, (160, []))))), (159, (.iconst 0, (.inl (0 : Int32), (160, (0, []))))), (160, (.ireturn, (sv_N, (161, (0, []))))), (161, (.iload_n 1, (sv_N, (162, (0, []))))), (162, (.iload_n 2, (sv_N, (163, (0, []))))), (163, (.if_icmp .le 7, (sv_N, (166, (170, []))))), (166, (.iconst 1, (.inl (1 : Int32), (167, (0, []))))), (167, (.goto 4, (sv_N, (170, (171, []))))), (170, (.iconst 0, (.inl (0 : Int32), (171, (0, []))))), (171, (.ireturn, (sv_N, (172, (0, []))))), (172, (.iload_n 1, (sv_N, (173, (0, []))))), (173, (.iload_n 2, (sv_N, (174, (0, []))))), (174, (.if_icmp .ne 7, (sv_N, (177, (181, []))))), (177, (.iconst 1, (.inl (1 : Int32), (178, (0, []))))), (178, (.goto 4, (sv_N, (181, (182, []))))), (181, (.iconst 0, (.inl (0 : Int32), (182, (0, []))))), (182, (.ireturn, (sv_N, (183, (0, []))))), (183, (.iload_n 1, (sv_N, (184, (0, []))))), (184, (.ifCond .eq 11, (sv_N, (187, (195, []))))), (187, (.iload_n 2, (sv_N, (188, (0, []))))), (188, (.ifCond .eq 7, (sv_N, (191, (195, []))))), (191, (.iconst 1, (.inl (1 : Int32), (192, (0, []))))), (192, (.goto 4, (sv_N, (195, (196, []))))), (195, (.iconst 0, (.inl (0 : Int32), (196, (0, []))))), (196, (.ireturn, (sv_N, (197, (0, []))))), (197, (.iload_n 1, (sv_N, (198, (0, []))))), (198, (.ifCond .ne 7, (sv_N, (201, (205, []))))), (201, (.iload_n 2, (sv_N, (202, (0, []))))), (202, (.ifCond .eq 7, (sv_N, (205, (209, []))))), (205, (.iconst 1, (.inl (1 : Int32), (206, (0, []))))), (206, (.goto 4, (sv_N, (209, (210, []))))), (209, (.iconst 0, (.inl (0 : Int32), (210, (0, []))))), (210, (.ireturn, (sv_N, (211, (0, [])))))]
noncomputable def ev_Mo_joined : sv_E := (fun i => sv_lk i fl_12, (fun i => sv_lk i kc_12, (fun _ => false, (true, fun pc => sv_lk pc []))))
noncomputable def kk_Mo_joined : sv_K (Int32 × sv_S) := fun pc => sv_lk pc []
set_option maxRecDepth 20000 in
theorem e_Mo_joined (a0 : Int32) (a1 : Int32) (a2 : Int32) (σ : sv_S) : sv_ex ev_Mo_joined sv_rI kk_Mo_joined cd_Mo_joined 67 0 [some (.inl a0), some (.inl a1), some (.inl a2)] [] σ = f_Mo_joined a0 a1 a2 σ := by
  unfold f_Mo_joined
  delta ev_Mo_joined kk_Mo_joined
  rfl
theorem d_Mo_joined : cd_Mo_joined.all (sv_dk cX12_joined) = true := by decide +kernel
set_option maxRecDepth 20000 in
theorem b_Mo_joined (Γ : sv_Ga) (res : Int32 × sv_S) (X : sv_Ok Γ ev_Mo_joined cX12_joined sv_rI res) (as : List sv_V) (σ : sv_S) (h : n_Mo_joined as σ = some res) : sv_T Γ 0 (sv_e0 3 as) [] σ := by
  unfold n_Mo_joined at h
  split at h
  · refine sv_run X d_Mo_joined (K := kk_Mo_joined) (sv_lk_all (P := fun pc (k : sv_Lo → List sv_V → sv_S → Option (Int32 × sv_S)) => ∀ lo st σ, k lo st σ = some res → sv_T Γ pc lo st σ) ?_) _ _ _ _ _ ((e_Mo_joined _ _ _ _).trans h)
    clear h
    exact fun _ h => absurd h List.not_mem_nil
  · cases h
theorem a_Mo_joined (as : List sv_V) (σ : sv_S) (x : Int32 × sv_S) (h : n_Mo_joined as σ = some x) : sv_args 3 ev_Mo_joined.2.2.2.1 as := by
  unfold n_Mo_joined at h
  split at h
  · exact ⟨Nat.le_of_ble_eq_true rfl, fun _ v hv => by
      simp only [List.mem_cons, List.not_mem_nil, or_false] at hv
      rcases hv with rfl | rfl | rfl <;> trivial⟩
  · cases h

set_option maxRecDepth 20000 in
theorem m_Mo_joined (l : Launch) : sv_M l yX12_joined cX12_joined 3 (some .int) (sv_gI n_Mo_joined) 0 := by
  refine sv_mI (E := ev_Mo_joined) (by decide +kernel) (ln_gen fk_12 kk_12 (sv_ns _ (fun _ => rfl) _)) ?_ a_Mo_joined b_Mo_joined
  intro p e R s m args below meth c cells slots Q base ad dC dI cA n0 S hkn hR hf pc n f h
  refine sv_lk_all (P := fun pc (x : Nat × sv_F) => sv_cok p l e R s m args below meth c cells slots Q base ad dC dI cA true 3 n0 pc x.1 x.2) ?_ pc (n, f) h
  exact fun _ h => absurd h List.not_mem_nil
noncomputable def f_Mo_worked_86 (k4 : Int32 → Int32 → Int32 → sv_S → Option (Int32 × sv_S)) (x1 : Int32) (x2 : Int32) (x3 : Int32) (y0 : Int32) (y1 : Int32) (y2 : Nat) (σ : sv_S) : Option (Int32 × sv_S) :=
    sv_g (sv_in y1 (sv_ml y2)) (k4 x1 (x2 + (1 : Int32)) (x3 + (1 : Int32)) (sv_up σ 31 y2 (y1.toNatClampNeg) y0))
noncomputable def f_Mo_worked_4 : Nat → Int32 → Int32 → Int32 → sv_S → Option (Int32 × sv_S)
  | 0, _, _, _, _ => none
  | n + 1, x1, x2, x3, σ =>
    sv_b (f_Mo_textAt x1 σ) (fun v1 σ2 =>
      sv_g (sv_in (v1 + (2 : Int32)) 3086) (sv_if ((σ2 31 0 ((v1 + (2 : Int32)).toNatClampNeg)) ≤ x3)
        (sv_g (sv_in (0 : Int32) 100) (some (σ2 31 29 ((0 : Int32).toNatClampNeg), σ2)))
        (sv_b (f_Mo_textAt x1 σ2) (fun v3 σ4 =>
          sv_g (sv_in ((v3 + (4 : Int32)) + ((2 : Int32) * x3)) 3086) (sv_b (f_Mo_textAt x1 σ4) (fun v5 σ6 =>
            sv_g (sv_in (((v5 + (4 : Int32)) + ((2 : Int32) * x3)) + (1 : Int32)) 3086) (sv_if ((σ4 31 0 (((v3 + (4 : Int32)) + ((2 : Int32) * x3)).toNatClampNeg)) = (2 : Int32))
              (sv_if ((σ6 31 0 ((((v5 + (4 : Int32)) + ((2 : Int32) * x3)) + (1 : Int32)).toNatClampNeg)) = (33 : Int32))
                (sv_g (sv_in (x2 - (1 : Int32)) 100) (sv_if ((σ6 31 29 ((x2 - (1 : Int32)).toNatClampNeg)) = 0)
                  (sv_g (sv_in (x2 - (1 : Int32)) 100) (f_Mo_worked_4 n x1 x2 (x3 + (1 : Int32)) (sv_up σ6 31 29 ((x2 - (1 : Int32)).toNatClampNeg) (1 : Int32))))
                  (sv_g (sv_in (x2 - (1 : Int32)) 100) (f_Mo_worked_4 n x1 x2 (x3 + (1 : Int32)) (sv_up σ6 31 29 ((x2 - (1 : Int32)).toNatClampNeg) (0 : Int32))))))
                (sv_g (sv_in ((x2 + (-1 : Int32)) - (1 : Int32)) 100) (sv_g (sv_in (x2 + (-1 : Int32)) 100) (sv_b (f_Mo_joined (σ6 31 0 ((((v5 + (4 : Int32)) + ((2 : Int32) * x3)) + (1 : Int32)).toNatClampNeg)) (σ6 31 29 (((x2 + (-1 : Int32)) - (1 : Int32)).toNatClampNeg)) (σ6 31 29 ((x2 + (-1 : Int32)).toNatClampNeg)) σ6) (fun v7 σ8 =>
                  sv_g (sv_in ((x2 + (-1 : Int32)) - (1 : Int32)) 100) (f_Mo_worked_4 n x1 (x2 + (-1 : Int32)) (x3 + (1 : Int32)) (sv_up σ8 31 29 (((x2 + (-1 : Int32)) - (1 : Int32)).toNatClampNeg) v7)))))))
              (sv_if ((σ4 31 0 (((v3 + (4 : Int32)) + ((2 : Int32) * x3)).toNatClampNeg)) = 0)
                (f_Mo_worked_86 (f_Mo_worked_4 n) x1 x2 x3 (σ6 31 0 ((((v5 + (4 : Int32)) + ((2 : Int32) * x3)) + (1 : Int32)).toNatClampNeg)) x2 29 σ6)
                (sv_g (sv_in (σ6 31 0 ((((v5 + (4 : Int32)) + ((2 : Int32) * x3)) + (1 : Int32)).toNatClampNeg)) 128) (f_Mo_worked_86 (f_Mo_worked_4 n) x1 x2 x3 (σ6 31 28 ((σ6 31 0 ((((v5 + (4 : Int32)) + ((2 : Int32) * x3)) + (1 : Int32)).toNatClampNeg)).toNatClampNeg)) x2 29 σ6))))))))))
noncomputable def f_Mo_worked (a1 : Int32) (σ : sv_S) : Option (Int32 × sv_S) :=
  f_Mo_worked_4 sv_fu a1 (0 : Int32) (0 : Int32) σ
noncomputable def n_Mo_worked : List sv_V → sv_S → Option (Int32 × sv_S)
  | [.inr (.inr (some (30, 0))), .inl a1], σ => f_Mo_worked a1 σ
  | _, _ => none
def cd_Mo_worked : sv_C := [(0, (.iconst 0, (.inl (0 : Int32), (1, (0, []))))), (1, (.istore_n 2, (sv_N, (2, (0, []))))), (2, (.iconst 0, (.inl (0 : Int32), (3, (0, []))))), (3, (.istore_n 3, (sv_N, (4, (0, []))))), (4, (.iload_n 3, (sv_N, (5, (0, []))))), (5, (.aload_n 0, (sv_N, (6, (0, []))))), (6, (.getfield 7, (sv_N, (9, (0, []))))), (9, (.aload_n 0, (sv_N, (10, (0, []))))), (10, (.iload_n 1, (sv_N, (11, (0, []))))), (11, (.invokevirtual 282, (sv_N, (14, (0, []))))), (14, (.iconst 2, (.inl (2 : Int32), (15, (0, []))))), (15, (.iadd, (sv_N, (16, (0, []))))), (16, (.iaload, (sv_N, (17, (0, []))))), (17, (.if_icmp .ge 146, (sv_N, (20, (163, []))))), (20, (.aload_n 0, (sv_N, (21, (0, []))))), (21, (.getfield 7, (sv_N, (24, (0, []))))), (24, (.aload_n 0, (sv_N, (25, (0, []))))), (25, (.iload_n 1, (sv_N, (26, (0, []))))), (26, (.invokevirtual 282, (sv_N, (29, (0, []))))), (29, (.iconst 4, (.inl (4 : Int32), (30, (0, []))))), (30, (.iadd, (sv_N, (31, (0, []))))), (31, (.iconst 2, (.inl (2 : Int32), (32, (0, []))))), (32, (.iload_n 3, (sv_N, (33, (0, []))))), (33, (.imul, (sv_N, (34, (0, []))))), (34, (.iadd, (sv_N, (35, (0, []))))), (35, (.iaload, (sv_N, (36, (0, []))))), (36, (.istore 4, (sv_N, (38, (0, []))))), (38, (.aload_n 0, (sv_N, (39, (0, []))))), (39, (.getfield 7, (sv_N, (42, (0, []))))), (42, (.aload_n 0, (sv_N, (43, (0, []))))), (43, (.iload_n 1, (sv_N, (44, (0, []))))), (44, (.invokevirtual 282, (sv_N, (47, (0, []))))), (47, (.iconst 4, (.inl (4 : Int32), (48, (0, []))))), (48, (.iadd, (sv_N, (49, (0, []))))), (49, (.iconst 2, (.inl (2 : Int32), (50, (0, []))))), (50, (.iload_n 3, (sv_N, (51, (0, []))))), (51, (.imul, (sv_N, (52, (0, []))))), (52, (.iadd, (sv_N, (53, (0, []))))), (53, (.iconst 1, (.inl (1 : Int32), (54, (0, []))))), (54, (.iadd, (sv_N, (55, (0, []))))), (55, (.iaload, (sv_N, (56, (0, []))))), (56, (.istore 5, (sv_N, (58, (0, []))))), (58, (.iload 4, (sv_N, (60, (0, []))))), (60, (.iconst 2, (.inl (2 : Int32), (61, (0, []))))), (61, (.if_icmp .eq 32, (sv_N, (64, (93, []))))), (64, (.aload_n 0, (sv_N, (65, (0, []))))), (65, (.getfield 58, (sv_N, (68, (0, []))))), (68, (.iload_n 2, (sv_N, (69, (0, []))))), (69, (.iload 4, (sv_N, (71, (0, []))))), (71, (.ifCond .ne 8, (sv_N, (74, (79, []))))), (74, (.iload 5, (sv_N, (76, (0, []))))), (76, (.goto 10, (sv_N, (79, (86, []))))), (79, (.aload_n 0, (sv_N, (80, (0, []))))), (80, (.getfield 55, (sv_N, (83, (0, []))))), (83, (.iload 5, (sv_N, (85, (0, []))))), (85, (.iaload, (sv_N, (86, (0, []))))), (86, (.iastore, (sv_N, (87, (0, []))))), (87, (.iinc 2 1, (.inl (1 : Int32), (90, (0, []))))), (90, (.goto 67, (sv_N, (93, (157, []))))), (93, (.iload 5, (sv_N, (95, (0, []))))), (95, (.bipush 33, (.inl (33 : Int32), (97, (0, []))))), (97, (.if_icmp .ne 30, (sv_N, (100, (127, []))))), (100, (.aload_n 0, (sv_N, (101, (0, []))))), (101, (.getfield 58, (sv_N, (104, (0, []))))), (104, (.iload_n 2, (sv_N, (105, (0, []))))), (105, (.iconst 1, (.inl (1 : Int32), (106, (0, []))))), (106, (.isub, (sv_N, (107, (0, []))))), (107, (.aload_n 0, (sv_N, (108, (0, []))))), (108, (.getfield 58, (sv_N, (111, (0, []))))), (111, (.iload_n 2, (sv_N, (112, (0, []))))), (112, (.iconst 1, (.inl (1 : Int32), (113, (0, []))))), (113, (.isub, (sv_N, (114, (0, []))))), (114, (.iaload, (sv_N, (115, (0, []))))), (115, (.ifCond .ne 7, (sv_N, (118, (122, []))))), (118, (.iconst 1, (.inl (1 : Int32), (119, (0, []))))), (119, (.goto 4, (sv_N, (122, (123, []))))), (122, (.iconst 0, (.inl (0 : Int32), (123, (0, []))))), (123, (.iastore, (sv_N, (124, (0, []))))), (124, (.goto 33, (sv_N, (127, (157, []))))), (127, (.iinc 2 (-1), (.inl (-1 : Int32), (130, (0, []))))), (130, (.aload_n 0, (sv_N, (131, (0, []))))), (131, (.getfield 58, (sv_N, (134, (0, []))))), (134, (.iload_n 2, (sv_N, (135, (0, []))))), (135, (.iconst 1, (.inl (1 : Int32), (136, (0, []))))), (136, (.isub, (sv_N, (137, (0, []))))), (137, (.iload 5, (sv_N, (139, (0, []))))), (139, (.aload_n 0, (sv_N, (140, (0, []))))), (140, (.getfield 58, (sv_N, (143, (0, []))))), (143, (.iload_n 2, (sv_N, (144, (0, []))))), (144, (.iconst 1, (.inl (1 : Int32), (145, (0, []))))), (145, (.isub, (sv_N, (146, (0, []))))), (146, (.iaload, (sv_N, (147, (0, []))))), (147, (.aload_n 0, (sv_N, (148, (0, []))))), (148, (.getfield 58, (sv_N, (151, (0, []))))), (151, (.iload_n 2, (sv_N, (152, (0, []))))), (152, (.iaload, (sv_N, (153, (0, []))))), (153, (.invokestatic 294, (sv_N, (156, (0, []))))), (156, (.iastore, (sv_N, (157, (0, []))))), (157, (.iinc 3 1, (.inl (1 : Int32), (160, (0, []))))), (160, (.goto (-156), (sv_N, (163, (4, []))))), (163, (.aload_n 0, (sv_N, (164, (0, []))))), (164, (.getfield 58, (sv_N, (167, (0, []))))), (167, (.iconst 0, (.inl (0 : Int32), (168, (0, []))))), (168, (.iaload, (sv_N, (169, (0, []))))), (169, (.ireturn, (sv_N, (170, (0, [])))))]
noncomputable def ev_Mo_worked : sv_E := (fun i => sv_lk i fl_12, (fun i => sv_lk i kc_12, (fun _ => false, (true, fun pc => sv_lk pc [(11, (2, .inl n_Mo_textAt)), (26, (2, .inl n_Mo_textAt)), (44, (2, .inl n_Mo_textAt)), (153, (3, .inl n_Mo_joined))]))))
noncomputable def kk_Mo_worked_86 (k4 : Int32 → Int32 → Int32 → sv_S → Option (Int32 × sv_S)) : sv_K (Int32 × sv_S) := fun pc => sv_lk pc [(4, fun lo st σ => match lo, st with
    | [some (.inr (.inr (some (30, 0)))), some (.inl x1), some (.inl x2), some (.inl x3), _, _], [] => k4 x1 x2 x3 σ
    | _, _ => none)]
set_option maxRecDepth 20000 in
theorem e_Mo_worked_86 (k4 : Int32 → Int32 → Int32 → sv_S → Option (Int32 × sv_S)) (x1 : Int32) (x2 : Int32) (x3 : Int32) (y0 : Int32) (y1 : Int32) (y2 : Nat) (z4 z5 : Option sv_V) (σ : sv_S) : sv_ex ev_Mo_worked sv_rI (kk_Mo_worked_86 k4) cd_Mo_worked 107 86 [some (.inr (.inr (some (30, 0)))), some (.inl x1), some (.inl x2), some (.inl x3), z4, z5] [.inl y0, .inl y1, .inr (.inr (some (31, y2)))] σ = f_Mo_worked_86 k4 x1 x2 x3 y0 y1 y2 σ := by
  unfold f_Mo_worked_86
  delta ev_Mo_worked kk_Mo_worked_86 n_Mo_textAt n_Mo_joined
  generalize f_Mo_textAt = c0
  generalize f_Mo_joined = c1
  generalize f_Mo_worked_4 = c2
  rfl
noncomputable def kk_Mo_worked_4 (n : Nat) : sv_K (Int32 × sv_S) := fun pc => sv_lk pc [(4, fun lo st σ => match lo, st with
    | [some (.inr (.inr (some (30, 0)))), some (.inl x1), some (.inl x2), some (.inl x3), _, _], [] => f_Mo_worked_4 n x1 x2 x3 σ
    | _, _ => none),
  (86, fun lo st σ => match lo, st with
    | [some (.inr (.inr (some (30, 0)))), some (.inl x1), some (.inl x2), some (.inl x3), _, _], [.inl y0, .inl y1, .inr (.inr (some (31, y2)))] => f_Mo_worked_86 (f_Mo_worked_4 n) x1 x2 x3 y0 y1 y2 σ
    | _, _ => none)]
set_option maxRecDepth 20000 in
theorem e_Mo_worked_4 (n : Nat) (x1 : Int32) (x2 : Int32) (x3 : Int32) (z4 z5 : Option sv_V) (σ : sv_S) : sv_ex ev_Mo_worked sv_rI (kk_Mo_worked_4 n) cd_Mo_worked 107 4 [some (.inr (.inr (some (30, 0)))), some (.inl x1), some (.inl x2), some (.inl x3), z4, z5] [] σ = f_Mo_worked_4 (n + 1) x1 x2 x3 σ := by
  rw [f_Mo_worked_4.eq_2]
  delta ev_Mo_worked kk_Mo_worked_4 n_Mo_textAt n_Mo_joined
  generalize f_Mo_textAt = c0
  generalize f_Mo_joined = c1
  generalize f_Mo_worked_4 = c2
  generalize f_Mo_worked_86 = c3
  rfl
noncomputable def kk_Mo_worked : sv_K (Int32 × sv_S) := fun pc => sv_lk pc [(4, fun lo st σ => match lo, st with
    | [some (.inr (.inr (some (30, 0)))), some (.inl x1), some (.inl x2), some (.inl x3), _, _], [] => f_Mo_worked_4 sv_fu x1 x2 x3 σ
    | _, _ => none)]
set_option maxRecDepth 20000 in
theorem e_Mo_worked (a1 : Int32) (σ : sv_S) : sv_ex ev_Mo_worked sv_rI kk_Mo_worked cd_Mo_worked 107 0 [some (.inr (.inr (some (30, 0)))), some (.inl a1), none, none, none, none] [] σ = f_Mo_worked a1 σ := by
  unfold f_Mo_worked
  delta ev_Mo_worked kk_Mo_worked n_Mo_textAt n_Mo_joined
  generalize f_Mo_textAt = c0
  generalize f_Mo_joined = c1
  generalize f_Mo_worked_4 = c2
  rfl
theorem d_Mo_worked : cd_Mo_worked.all (sv_dk cX12_worked) = true := by decide +kernel
set_option maxRecDepth 20000 in
theorem w_Mo_worked_86 {Γ : sv_Ga} {res : Int32 × sv_S} (X : sv_Ok Γ ev_Mo_worked cX12_worked sv_rI res) (k4 : Int32 → Int32 → Int32 → sv_S → Option (Int32 × sv_S)) (h4 : ∀ (x1 : Int32) (x2 : Int32) (x3 : Int32) (z4 z5 : Option sv_V) (σ : sv_S), k4 x1 x2 x3 σ = some res → sv_T Γ 4 [some (.inr (.inr (some (30, 0)))), some (.inl x1), some (.inl x2), some (.inl x3), z4, z5] [] σ) : ∀ (x1 : Int32) (x2 : Int32) (x3 : Int32) (y0 : Int32) (y1 : Int32) (y2 : Nat) (z4 z5 : Option sv_V) (σ : sv_S), f_Mo_worked_86 k4 x1 x2 x3 y0 y1 y2 σ = some res → sv_T Γ 86 [some (.inr (.inr (some (30, 0)))), some (.inl x1), some (.inl x2), some (.inl x3), z4, z5] [.inl y0, .inl y1, .inr (.inr (some (31, y2)))] σ := by
  intro x1 x2 x3 y0 y1 y2 z4 z5 σ h
  refine sv_run X d_Mo_worked (K := kk_Mo_worked_86 k4) (sv_lk_all (P := fun pc (k : sv_Lo → List sv_V → sv_S → Option (Int32 × sv_S)) => ∀ lo st σ, k lo st σ = some res → sv_T Γ pc lo st σ) ?_) _ _ _ _ _ ((e_Mo_worked_86 k4 x1 x2 x3 y0 y1 y2 z4 z5 σ).trans h)
  clear h
  refine List.forall_mem_cons.mpr ⟨fun lo st σ h => ?_, fun _ h => absurd h List.not_mem_nil⟩
  · dsimp only at h
    split at h
    · exact h4 _ _ _ _ _ _ h
    · cases h

set_option maxRecDepth 20000 in
theorem w_Mo_worked_4 {Γ : sv_Ga} {res : Int32 × sv_S} (X : sv_Ok Γ ev_Mo_worked cX12_worked sv_rI res) : ∀ (n : Nat) (x1 : Int32) (x2 : Int32) (x3 : Int32) (z4 z5 : Option sv_V) (σ : sv_S), f_Mo_worked_4 n x1 x2 x3 σ = some res → sv_T Γ 4 [some (.inr (.inr (some (30, 0)))), some (.inl x1), some (.inl x2), some (.inl x3), z4, z5] [] σ := by
  intro n
  induction n with
  | zero =>
    intro x1 x2 x3 z4 z5 σ h
    rw [f_Mo_worked_4.eq_1] at h
    cases h
  | succ n ih =>
    intro x1 x2 x3 z4 z5 σ h
    refine sv_run X d_Mo_worked (K := kk_Mo_worked_4 n) (sv_lk_all (P := fun pc (k : sv_Lo → List sv_V → sv_S → Option (Int32 × sv_S)) => ∀ lo st σ, k lo st σ = some res → sv_T Γ pc lo st σ) ?_) _ _ _ _ _ ((e_Mo_worked_4 n x1 x2 x3 z4 z5 σ).trans h)
    clear h
    refine List.forall_mem_cons.mpr ⟨fun lo st σ h => ?_, List.forall_mem_cons.mpr ⟨fun lo st σ h => ?_, fun _ h => absurd h List.not_mem_nil⟩⟩
    · dsimp only at h
      split at h
      · exact ih _ _ _ _ _ _ h
      · cases h
    · dsimp only at h
      split at h
      · exact w_Mo_worked_86 X _ ih _ _ _ _ _ _ _ _ _ h
      · cases h

set_option maxRecDepth 20000 in
theorem b_Mo_worked (Γ : sv_Ga) (res : Int32 × sv_S) (X : sv_Ok Γ ev_Mo_worked cX12_worked sv_rI res) (as : List sv_V) (σ : sv_S) (h : n_Mo_worked as σ = some res) : sv_T Γ 0 (sv_e0 6 as) [] σ := by
  unfold n_Mo_worked at h
  split at h
  · refine sv_run X d_Mo_worked (K := kk_Mo_worked) (sv_lk_all (P := fun pc (k : sv_Lo → List sv_V → sv_S → Option (Int32 × sv_S)) => ∀ lo st σ, k lo st σ = some res → sv_T Γ pc lo st σ) ?_) _ _ _ _ _ ((e_Mo_worked _ _).trans h)
    clear h
    refine List.forall_mem_cons.mpr ⟨fun lo st σ h => ?_, fun _ h => absurd h List.not_mem_nil⟩
    · dsimp only at h
      split at h
      · exact w_Mo_worked_4 X _ _ _ _ _ _ _ h
      · cases h
  · cases h
theorem a_Mo_worked (as : List sv_V) (σ : sv_S) (x : Int32 × sv_S) (h : n_Mo_worked as σ = some x) : sv_args 6 ev_Mo_worked.2.2.2.1 as := by
  unfold n_Mo_worked at h
  split at h
  · exact ⟨Nat.le_of_ble_eq_true rfl, fun _ v hv => by
      simp only [List.mem_cons, List.not_mem_nil, or_false] at hv
      rcases hv with rfl | rfl <;> trivial⟩
  · cases h
theorem g_Mo_worked (as : List sv_V) (σ : sv_S) (x : Option sv_V × sv_S) (h : sv_gI n_Mo_worked as σ = some x) : ∃ r i as', as = sv_R r i :: as' ∧ sv_kd r i = .inl 12 := by
  obtain ⟨_, _, h, -⟩ := sv_b_some h
  unfold n_Mo_worked at h
  split at h
  · exact ⟨_, _, _, rfl, rfl⟩
  · cases h
theorem tw_1153 : Cond.methodLink RX12 294 yX12_joined ∈ gw_tbl := gw_at 1153 (by decide +kernel) rfl
theorem tw_1154 : Cond.static yX12_joined ∈ gw_tbl := gw_at 1154 (by decide +kernel) rfl
theorem tw_1155 : Cond.code yX12_joined cX12_joined 3 (some .int) ∈ gw_tbl := gw_at 1155 (by decide +kernel) rfl
set_option maxRecDepth 20000 in
theorem m_Mo_worked (l : Launch) : sv_M l yX12_worked cX12_worked 6 (some .int) (sv_gI n_Mo_worked) 1 := by
  refine sv_mI (E := ev_Mo_worked) (by decide +kernel) (ln_gen fk_12 kk_12 (sv_ns _ (fun _ => rfl) _)) ?_ a_Mo_worked b_Mo_worked
  intro p e R s m args below meth c cells slots Q base ad dC dI cA n0 S hkn hR hf pc n f h
  refine sv_lk_all (P := fun pc (x : Nat × sv_F) => sv_cok p l e R s m args below meth c cells slots Q base ad dC dI cA true 6 n0 pc x.1 x.2) ?_ pc (n, f) h
  exact List.forall_mem_cons.mpr ⟨(sv_cV S hkn (m_Mo_textAt l) ⟨Nat.le_trans (by decide) hR.1, Nat.le_trans (by decide) hR.2⟩ (by decide) hf rfl g_Mo_textAt (sv_w5 tw_1141 tw_1143 tw_15 tw_65 tw_1144) (by decide +kernel) (sv_dc3 d_Mo_worked (pc := 11) rfl rfl)).I,
      List.forall_mem_cons.mpr ⟨(sv_cV S hkn (m_Mo_textAt l) ⟨Nat.le_trans (by decide) hR.1, Nat.le_trans (by decide) hR.2⟩ (by decide) hf rfl g_Mo_textAt (sv_w5 tw_1141 tw_1143 tw_15 tw_65 tw_1144) (by decide +kernel) (sv_dc3 d_Mo_worked (pc := 26) rfl rfl)).I,
      List.forall_mem_cons.mpr ⟨(sv_cV S hkn (m_Mo_textAt l) ⟨Nat.le_trans (by decide) hR.1, Nat.le_trans (by decide) hR.2⟩ (by decide) hf rfl g_Mo_textAt (sv_w5 tw_1141 tw_1143 tw_15 tw_65 tw_1144) (by decide +kernel) (sv_dc3 d_Mo_worked (pc := 44) rfl rfl)).I,
      List.forall_mem_cons.mpr ⟨(sv_cS S hkn (m_Mo_joined l) ⟨Nat.le_trans (by decide) hR.1, Nat.le_trans (by decide) hR.2⟩ (by decide) hf (sv_w4 tw_1153 tw_1154 tw_65 tw_1155) (by decide +kernel) (sv_dc3 d_Mo_worked (pc := 153) rfl rfl)).I,
      fun _ h => absurd h List.not_mem_nil⟩⟩⟩⟩
noncomputable def f_Mo_hears (a1 : Int32) (σ : sv_S) : Option (Int32 × sv_S) :=
  sv_b (f_Mo_of a1 (0 : Int32) σ) (fun v1 σ2 =>
    sv_if (v1 = (5 : Int32))
      (sv_b (f_Mo_left a1 σ2) (fun v3 σ4 =>
        sv_if (v3 ≤ 0)
          (sv_g ((0 : Int32) = 0 ∨ (0 : Int32) = 1) (some ((0 : Int32), σ4)))
          (sv_g ((1 : Int32) = 0 ∨ (1 : Int32) = 1) (some ((1 : Int32), σ4)))))
      (sv_b (f_Mo_counts (0 : Int32) σ2) (fun v5 σ6 =>
        sv_if (0 ≤ v5)
          (sv_b (f_Mo_left a1 σ6) (fun v7 σ8 =>
            sv_g (sv_in (108 : Int32) 128) (sv_b (f_Mo_right a1 (sv_up σ8 31 28 ((108 : Int32).toNatClampNeg) v7)) (fun v9 σ10 =>
              sv_g (sv_in (114 : Int32) 128) (sv_g (sv_in (110 : Int32) 128) (sv_b (f_Mo_worked v5 (sv_up (sv_up σ10 31 28 ((114 : Int32).toNatClampNeg) v9) 31 28 ((110 : Int32).toNatClampNeg) a1)) (fun v11 σ12 =>
                sv_if (v11 = 0)
                  (sv_g ((0 : Int32) = 0 ∨ (0 : Int32) = 1) (some ((0 : Int32), σ12)))
                  (sv_g ((1 : Int32) = 0 ∨ (1 : Int32) = 1) (some ((1 : Int32), σ12))))))))))
          (sv_b (f_Mo_left a1 σ6) (fun v13 σ14 =>
            sv_if (0 < v13)
              (sv_g ((1 : Int32) = 0 ∨ (1 : Int32) = 1) (some ((1 : Int32), σ14)))
              (sv_b (f_Mo_right a1 σ14) (fun v15 σ16 =>
                sv_if (v15 ≤ 0)
                  (sv_g ((0 : Int32) = 0 ∨ (0 : Int32) = 1) (some ((0 : Int32), σ16)))
                  (sv_g ((1 : Int32) = 0 ∨ (1 : Int32) = 1) (some ((1 : Int32), σ16))))))))))
noncomputable def n_Mo_hears : List sv_V → sv_S → Option (Int32 × sv_S)
  | [.inr (.inr (some (30, 0))), .inl a1], σ => f_Mo_hears a1 σ
  | _, _ => none
def cd_Mo_hears : sv_C := [(0, (.aload_n 0, (sv_N, (1, (0, []))))), (1, (.iload_n 1, (sv_N, (2, (0, []))))), (2, (.iconst 0, (.inl (0 : Int32), (3, (0, []))))), (3, (.invokevirtual 90, (sv_N, (6, (0, []))))), (6, (.iconst 5, (.inl (5 : Int32), (7, (0, []))))), (7, (.if_icmp .ne 17, (sv_N, (10, (24, []))))), (10, (.aload_n 0, (sv_N, (11, (0, []))))), (11, (.iload_n 1, (sv_N, (12, (0, []))))), (12, (.invokevirtual 97, (sv_N, (15, (0, []))))), (15, (.ifCond .le 7, (sv_N, (18, (22, []))))), (18, (.iconst 1, (.inl (1 : Int32), (19, (0, []))))), (19, (.goto 4, (sv_N, (22, (23, []))))), (22, (.iconst 0, (.inl (0 : Int32), (23, (0, []))))), (23, (.ireturn, (sv_N, (24, (0, []))))), (24, (.aload_n 0, (sv_N, (25, (0, []))))), (25, (.iconst 0, (.inl (0 : Int32), (26, (0, []))))), (26, (.invokevirtual 101, (sv_N, (29, (0, []))))), (29, (.istore_n 2, (sv_N, (30, (0, []))))), (30, (.iload_n 2, (sv_N, (31, (0, []))))), (31, (.ifCond .ge 25, (sv_N, (34, (56, []))))), (34, (.aload_n 0, (sv_N, (35, (0, []))))), (35, (.iload_n 1, (sv_N, (36, (0, []))))), (36, (.invokevirtual 97, (sv_N, (39, (0, []))))), (39, (.ifCond .gt 11, (sv_N, (42, (50, []))))), (42, (.aload_n 0, (sv_N, (43, (0, []))))), (43, (.iload_n 1, (sv_N, (44, (0, []))))), (44, (.invokevirtual 104, (sv_N, (47, (0, []))))), (47, (.ifCond .le 7, (sv_N, (50, (54, []))))), (50, (.iconst 1, (.inl (1 : Int32), (51, (0, []))))), (51, (.goto 4, (sv_N, (54, (55, []))))), (54, (.iconst 0, (.inl (0 : Int32), (55, (0, []))))), (55, (.ireturn, (sv_N, (56, (0, []))))), (56, (.aload_n 0, (sv_N, (57, (0, []))))), (57, (.getfield 55, (sv_N, (60, (0, []))))), (60, (.bipush 108, (.inl (108 : Int32), (62, (0, []))))), (62, (.aload_n 0, (sv_N, (63, (0, []))))), (63, (.iload_n 1, (sv_N, (64, (0, []))))), (64, (.invokevirtual 97, (sv_N, (67, (0, []))))), (67, (.iastore, (sv_N, (68, (0, []))))), (68, (.aload_n 0, (sv_N, (69, (0, []))))), (69, (.getfield 55, (sv_N, (72, (0, []))))), (72, (.bipush 114, (.inl (114 : Int32), (74, (0, []))))), (74, (.aload_n 0, (sv_N, (75, (0, []))))), (75, (.iload_n 1, (sv_N, (76, (0, []))))), (76, (.invokevirtual 104, (sv_N, (79, (0, []))))), (79, (.iastore, (sv_N, (80, (0, []))))), (80, (.aload_n 0, (sv_N, (81, (0, []))))), (81, (.getfield 55, (sv_N, (84, (0, []))))), (84, (.bipush 110, (.inl (110 : Int32), (86, (0, []))))), (86, (.iload_n 1, (sv_N, (87, (0, []))))), (87, (.iastore, (sv_N, (88, (0, []))))), (88, (.aload_n 0, (sv_N, (89, (0, []))))), (89, (.iload_n 2, (sv_N, (90, (0, []))))), (90, (.invokevirtual 107, (sv_N, (93, (0, []))))), (93, (.ifCond .eq 7, (sv_N, (96, (100, []))))), (96, (.iconst 1, (.inl (1 : Int32), (97, (0, []))))), (97, (.goto 4, (sv_N, (100, (101, []))))), (100, (.iconst 0, (.inl (0 : Int32), (101, (0, []))))), (101, (.ireturn, (sv_N, (102, (0, [])))))]
noncomputable def ev_Mo_hears : sv_E := (fun i => sv_lk i fl_12, (fun i => sv_lk i kc_12, (fun _ => false, (true, fun pc => sv_lk pc [(3, (3, .inl n_Mo_of)), (12, (2, .inl n_Mo_left)), (26, (2, .inl n_Mo_counts)), (36, (2, .inl n_Mo_left)), (44, (2, .inl n_Mo_right)), (64, (2, .inl n_Mo_left)), (76, (2, .inl n_Mo_right)), (90, (2, .inl n_Mo_worked))]))))
noncomputable def kk_Mo_hears : sv_K (Int32 × sv_S) := fun pc => sv_lk pc []
set_option maxRecDepth 20000 in
theorem e_Mo_hears (a1 : Int32) (σ : sv_S) : sv_ex ev_Mo_hears sv_rZ kk_Mo_hears cd_Mo_hears 61 0 [some (.inr (.inr (some (30, 0)))), some (.inl a1), none] [] σ = f_Mo_hears a1 σ := by
  unfold f_Mo_hears
  delta ev_Mo_hears kk_Mo_hears n_Mo_of n_Mo_left n_Mo_counts n_Mo_right n_Mo_worked
  generalize f_Mo_of = c0
  generalize f_Mo_left = c1
  generalize f_Mo_counts = c2
  generalize f_Mo_right = c3
  generalize f_Mo_worked = c4
  rfl
theorem d_Mo_hears : cd_Mo_hears.all (sv_dk cX12_hears) = true := by decide +kernel
set_option maxRecDepth 20000 in
theorem b_Mo_hears (Γ : sv_Ga) (res : Int32 × sv_S) (X : sv_Ok Γ ev_Mo_hears cX12_hears sv_rZ res) (as : List sv_V) (σ : sv_S) (h : n_Mo_hears as σ = some res) : sv_T Γ 0 (sv_e0 3 as) [] σ := by
  unfold n_Mo_hears at h
  split at h
  · refine sv_run X d_Mo_hears (K := kk_Mo_hears) (sv_lk_all (P := fun pc (k : sv_Lo → List sv_V → sv_S → Option (Int32 × sv_S)) => ∀ lo st σ, k lo st σ = some res → sv_T Γ pc lo st σ) ?_) _ _ _ _ _ ((e_Mo_hears _ _).trans h)
    clear h
    exact fun _ h => absurd h List.not_mem_nil
  · cases h
theorem a_Mo_hears (as : List sv_V) (σ : sv_S) (x : Int32 × sv_S) (h : n_Mo_hears as σ = some x) : sv_args 3 ev_Mo_hears.2.2.2.1 as := by
  unfold n_Mo_hears at h
  split at h
  · exact ⟨Nat.le_of_ble_eq_true rfl, fun _ v hv => by
      simp only [List.mem_cons, List.not_mem_nil, or_false] at hv
      rcases hv with rfl | rfl <;> trivial⟩
  · cases h
theorem g_Mo_hears (as : List sv_V) (σ : sv_S) (x : Option sv_V × sv_S) (h : sv_gI n_Mo_hears as σ = some x) : ∃ r i as', as = sv_R r i :: as' ∧ sv_kd r i = .inl 12 := by
  obtain ⟨_, _, h, -⟩ := sv_b_some h
  unfold n_Mo_hears at h
  split at h
  · exact ⟨_, _, _, rfl, rfl⟩
  · cases h
theorem tw_12 : Cond.selects RX12 yX12_left yX12_left ∈ gw_tbl := gw_at 12 (by decide +kernel) rfl
theorem tw_14 : Cond.selects RX12 yX12_counts yX12_counts ∈ gw_tbl := gw_at 14 (by decide +kernel) rfl
theorem tw_16 : Cond.selects RX12 yX12_right yX12_right ∈ gw_tbl := gw_at 16 (by decide +kernel) rfl
theorem tw_17 : Cond.selects RX12 yX12_worked yX12_worked ∈ gw_tbl := gw_at 17 (by decide +kernel) rfl
theorem tw_1129 : Cond.methodLink RX12 97 yX12_left ∈ gw_tbl := gw_at 1129 (by decide +kernel) rfl
theorem tw_1131 : Cond.instanceMethod yX12_left ∈ gw_tbl := gw_at 1131 (by decide +kernel) rfl
theorem tw_1132 : Cond.code yX12_left cX12_left 2 (some .int) ∈ gw_tbl := gw_at 1132 (by decide +kernel) rfl
theorem tw_1137 : Cond.methodLink RX12 101 yX12_counts ∈ gw_tbl := gw_at 1137 (by decide +kernel) rfl
theorem tw_1139 : Cond.instanceMethod yX12_counts ∈ gw_tbl := gw_at 1139 (by decide +kernel) rfl
theorem tw_1140 : Cond.code yX12_counts cX12_counts 4 (some .int) ∈ gw_tbl := gw_at 1140 (by decide +kernel) rfl
theorem tw_1145 : Cond.methodLink RX12 104 yX12_right ∈ gw_tbl := gw_at 1145 (by decide +kernel) rfl
theorem tw_1147 : Cond.instanceMethod yX12_right ∈ gw_tbl := gw_at 1147 (by decide +kernel) rfl
theorem tw_1148 : Cond.code yX12_right cX12_right 2 (some .int) ∈ gw_tbl := gw_at 1148 (by decide +kernel) rfl
theorem tw_1149 : Cond.methodLink RX12 107 yX12_worked ∈ gw_tbl := gw_at 1149 (by decide +kernel) rfl
theorem tw_1151 : Cond.instanceMethod yX12_worked ∈ gw_tbl := gw_at 1151 (by decide +kernel) rfl
theorem tw_1152 : Cond.code yX12_worked cX12_worked 6 (some .int) ∈ gw_tbl := gw_at 1152 (by decide +kernel) rfl
set_option maxRecDepth 20000 in
theorem m_Mo_hears (l : Launch) : sv_M l yX12_hears cX12_hears 3 (some .boolean) (sv_gI n_Mo_hears) 3 := by
  refine sv_mZ (E := ev_Mo_hears) (by decide +kernel) (ln_gen fk_12 kk_12 (sv_ns _ (fun _ => rfl) _)) ?_ a_Mo_hears b_Mo_hears
  intro p e R s m args below meth c cells slots Q base ad dC dI cA n0 S hkn hR hf pc n f h
  refine sv_lk_all (P := fun pc (x : Nat × sv_F) => sv_cok p l e R s m args below meth c cells slots Q base ad dC dI cA true 3 n0 pc x.1 x.2) ?_ pc (n, f) h
  exact List.forall_mem_cons.mpr ⟨(sv_cV S hkn (m_Mo_of l) ⟨Nat.le_trans (by decide) hR.1, Nat.le_trans (by decide) hR.2⟩ (by decide) hf rfl g_Mo_of (sv_w5 tw_1120 tw_1122 tw_10 tw_65 tw_1123) (by decide +kernel) (sv_dc3 d_Mo_hears (pc := 3) rfl rfl)).I,
      List.forall_mem_cons.mpr ⟨(sv_cV S hkn (m_Mo_left l) ⟨Nat.le_trans (by decide) hR.1, Nat.le_trans (by decide) hR.2⟩ (by decide) hf rfl g_Mo_left (sv_w5 tw_1129 tw_1131 tw_12 tw_65 tw_1132) (by decide +kernel) (sv_dc3 d_Mo_hears (pc := 12) rfl rfl)).I,
      List.forall_mem_cons.mpr ⟨(sv_cV S hkn (m_Mo_counts l) ⟨Nat.le_trans (by decide) hR.1, Nat.le_trans (by decide) hR.2⟩ (by decide) hf rfl g_Mo_counts (sv_w5 tw_1137 tw_1139 tw_14 tw_65 tw_1140) (by decide +kernel) (sv_dc3 d_Mo_hears (pc := 26) rfl rfl)).I,
      List.forall_mem_cons.mpr ⟨(sv_cV S hkn (m_Mo_left l) ⟨Nat.le_trans (by decide) hR.1, Nat.le_trans (by decide) hR.2⟩ (by decide) hf rfl g_Mo_left (sv_w5 tw_1129 tw_1131 tw_12 tw_65 tw_1132) (by decide +kernel) (sv_dc3 d_Mo_hears (pc := 36) rfl rfl)).I,
      List.forall_mem_cons.mpr ⟨(sv_cV S hkn (m_Mo_right l) ⟨Nat.le_trans (by decide) hR.1, Nat.le_trans (by decide) hR.2⟩ (by decide) hf rfl g_Mo_right (sv_w5 tw_1145 tw_1147 tw_16 tw_65 tw_1148) (by decide +kernel) (sv_dc3 d_Mo_hears (pc := 44) rfl rfl)).I,
      List.forall_mem_cons.mpr ⟨(sv_cV S hkn (m_Mo_left l) ⟨Nat.le_trans (by decide) hR.1, Nat.le_trans (by decide) hR.2⟩ (by decide) hf rfl g_Mo_left (sv_w5 tw_1129 tw_1131 tw_12 tw_65 tw_1132) (by decide +kernel) (sv_dc3 d_Mo_hears (pc := 64) rfl rfl)).I,
      List.forall_mem_cons.mpr ⟨(sv_cV S hkn (m_Mo_right l) ⟨Nat.le_trans (by decide) hR.1, Nat.le_trans (by decide) hR.2⟩ (by decide) hf rfl g_Mo_right (sv_w5 tw_1145 tw_1147 tw_16 tw_65 tw_1148) (by decide +kernel) (sv_dc3 d_Mo_hears (pc := 76) rfl rfl)).I,
      List.forall_mem_cons.mpr ⟨(sv_cV S hkn (m_Mo_worked l) ⟨Nat.le_trans (by decide) hR.1, Nat.le_trans (by decide) hR.2⟩ (by decide) hf rfl g_Mo_worked (sv_w5 tw_1149 tw_1151 tw_17 tw_65 tw_1152) (by decide +kernel) (sv_dc3 d_Mo_hears (pc := 90) rfl rfl)).I,
      fun _ h => absurd h List.not_mem_nil⟩⟩⟩⟩⟩⟩⟩⟩
noncomputable def f_Mo_wakes_63 (x1 : Int32) (x2 : Int32) (σ : sv_S) : Option (Int32 × sv_S) :=
    sv_b (f_Mo_of x1 (0 : Int32) σ) (fun v1 σ2 =>
      sv_if (v1.toInt = 2)
        (sv_b (f_Mo_held (x2 + (1 : Int32)) (1 : Int32) (9 : Int32) σ2) (fun v3 σ4 =>
          some (v3, σ4)))
        (sv_if (v1.toInt = 3)
        (sv_b (f_Mo_held (x2 - (1 : Int32)) (1 : Int32) (9 : Int32) σ2) (fun v5 σ6 =>
          some (v5, σ6)))
        (sv_if (v1.toInt = 4)
        (sv_b (f_Mo_held (x2 + (1 : Int32)) (1 : Int32) (9 : Int32) σ2) (fun v7 σ8 =>
          some (v7, σ8)))
        (some (x2, σ2)))))
noncomputable def f_Mo_wakes (a1 : Int32) (σ : sv_S) : Option (Int32 × sv_S) :=
  sv_b (f_Mo_of a1 (1 : Int32) σ) (fun v1 σ2 =>
    sv_b (f_Mo_counts (1 : Int32) σ2) (fun v3 σ4 =>
      sv_if (v3 < 0)
        (f_Mo_wakes_63 a1 v1 σ4)
        (sv_b (f_Mo_of a1 (1 : Int32) σ4) (fun v5 σ6 =>
          sv_g (sv_in (115 : Int32) 128) (sv_g (sv_in (110 : Int32) 128) (sv_g (sv_in (3 : Int32) 3086) (sv_g (sv_in (98 : Int32) 128) (sv_b (f_Mo_worked v3 (sv_up (sv_up (sv_up σ6 31 28 ((115 : Int32).toNatClampNeg) v5) 31 28 ((110 : Int32).toNatClampNeg) a1) 31 28 ((98 : Int32).toNatClampNeg) ((sv_up (sv_up σ6 31 28 ((115 : Int32).toNatClampNeg) v5) 31 28 ((110 : Int32).toNatClampNeg) a1) 31 0 ((3 : Int32).toNatClampNeg)))) (fun v7 σ8 =>
            sv_b (f_Mo_held v7 (1 : Int32) (9 : Int32) σ8) (fun v9 σ10 =>
              f_Mo_wakes_63 a1 v9 σ10))))))))))
noncomputable def n_Mo_wakes : List sv_V → sv_S → Option (Int32 × sv_S)
  | [.inr (.inr (some (30, 0))), .inl a1], σ => f_Mo_wakes a1 σ
  | _, _ => none
def cd_Mo_wakes : sv_C := [(0, (.aload_n 0, (sv_N, (1, (0, []))))), (1, (.iload_n 1, (sv_N, (2, (0, []))))), (2, (.iconst 1, (.inl (1 : Int32), (3, (0, []))))), (3, (.invokevirtual 90, (sv_N, (6, (0, []))))), (6, (.istore_n 2, (sv_N, (7, (0, []))))), (7, (.aload_n 0, (sv_N, (8, (0, []))))), (8, (.iconst 1, (.inl (1 : Int32), (9, (0, []))))), (9, (.invokevirtual 101, (sv_N, (12, (0, []))))), (12, (.istore_n 3, (sv_N, (13, (0, []))))), (13, (.iload_n 3, (sv_N, (14, (0, []))))), (14, (.ifCond .lt 49, (sv_N, (17, (63, []))))), (17, (.aload_n 0, (sv_N, (18, (0, []))))), (18, (.getfield 55, (sv_N, (21, (0, []))))), (21, (.bipush 115, (.inl (115 : Int32), (23, (0, []))))), (23, (.aload_n 0, (sv_N, (24, (0, []))))), (24, (.iload_n 1, (sv_N, (25, (0, []))))), (25, (.iconst 1, (.inl (1 : Int32), (26, (0, []))))), (26, (.invokevirtual 90, (sv_N, (29, (0, []))))), (29, (.iastore, (sv_N, (30, (0, []))))), (30, (.aload_n 0, (sv_N, (31, (0, []))))), (31, (.getfield 55, (sv_N, (34, (0, []))))), (34, (.bipush 110, (.inl (110 : Int32), (36, (0, []))))), (36, (.iload_n 1, (sv_N, (37, (0, []))))), (37, (.iastore, (sv_N, (38, (0, []))))), (38, (.aload_n 0, (sv_N, (39, (0, []))))), (39, (.getfield 55, (sv_N, (42, (0, []))))), (42, (.bipush 98, (.inl (98 : Int32), (44, (0, []))))), (44, (.aload_n 0, (sv_N, (45, (0, []))))), (45, (.getfield 7, (sv_N, (48, (0, []))))), (48, (.iconst 3, (.inl (3 : Int32), (49, (0, []))))), (49, (.iaload, (sv_N, (50, (0, []))))), (50, (.iastore, (sv_N, (51, (0, []))))), (51, (.aload_n 0, (sv_N, (52, (0, []))))), (52, (.iload_n 3, (sv_N, (53, (0, []))))), (53, (.invokevirtual 107, (sv_N, (56, (0, []))))), (56, (.iconst 1, (.inl (1 : Int32), (57, (0, []))))), (57, (.bipush 9, (.inl (9 : Int32), (59, (0, []))))), (59, (.invokestatic 110, (sv_N, (62, (0, []))))), (62, (.istore_n 2, (sv_N, (63, (0, []))))), (63, (.aload_n 0, (sv_N, (64, (0, []))))), (64, (.iload_n 1, (sv_N, (65, (0, []))))), (65, (.iconst 0, (.inl (0 : Int32), (66, (0, []))))), (66, (.invokevirtual 90, (sv_N, (69, (0, []))))), (69, (.tableswitch 47 2 4 #[37, 27, 37], (sv_N, (69, (116, [(2, 106), (3, 96), (4, 106)]))))), (96, (.iload_n 2, (sv_N, (97, (0, []))))), (97, (.iconst 1, (.inl (1 : Int32), (98, (0, []))))), (98, (.isub, (sv_N, (99, (0, []))))), (99, (.iconst 1, (.inl (1 : Int32), (100, (0, []))))), (100, (.bipush 9, (.inl (9 : Int32), (102, (0, []))))), (102, (.invokestatic 110, (sv_N, (105, (0, []))))), (105, (.ireturn, (sv_N, (106, (0, []))))), (106, (.iload_n 2, (sv_N, (107, (0, []))))), (107, (.iconst 1, (.inl (1 : Int32), (108, (0, []))))), (108, (.iadd, (sv_N, (109, (0, []))))), (109, (.iconst 1, (.inl (1 : Int32), (110, (0, []))))), (110, (.bipush 9, (.inl (9 : Int32), (112, (0, []))))), (112, (.invokestatic 110, (sv_N, (115, (0, []))))), (115, (.ireturn, (sv_N, (116, (0, []))))), (116, (.iload_n 2, (sv_N, (117, (0, []))))), (117, (.ireturn, (sv_N, (118, (0, [])))))]
noncomputable def ev_Mo_wakes : sv_E := (fun i => sv_lk i fl_12, (fun i => sv_lk i kc_12, (fun _ => false, (true, fun pc => sv_lk pc [(3, (3, .inl n_Mo_of)), (9, (2, .inl n_Mo_counts)), (26, (3, .inl n_Mo_of)), (53, (2, .inl n_Mo_worked)), (59, (3, .inl n_Mo_held)), (66, (3, .inl n_Mo_of)), (102, (3, .inl n_Mo_held)), (112, (3, .inl n_Mo_held))]))))
noncomputable def kk_Mo_wakes_63 : sv_K (Int32 × sv_S) := fun pc => sv_lk pc []
set_option maxRecDepth 20000 in
theorem e_Mo_wakes_63 (x1 : Int32) (x2 : Int32) (z3 : Option sv_V) (σ : sv_S) : sv_ex ev_Mo_wakes sv_rI (kk_Mo_wakes_63) cd_Mo_wakes 62 63 [some (.inr (.inr (some (30, 0)))), some (.inl x1), some (.inl x2), z3] [] σ = f_Mo_wakes_63 x1 x2 σ := by
  unfold f_Mo_wakes_63
  delta ev_Mo_wakes kk_Mo_wakes_63 n_Mo_of n_Mo_counts n_Mo_worked n_Mo_held
  generalize f_Mo_of = c0
  generalize f_Mo_counts = c1
  generalize f_Mo_worked = c2
  generalize f_Mo_held = c3
  rfl
noncomputable def kk_Mo_wakes : sv_K (Int32 × sv_S) := fun pc => sv_lk pc [(63, fun lo st σ => match lo, st with
    | [some (.inr (.inr (some (30, 0)))), some (.inl x1), some (.inl x2), _], [] => f_Mo_wakes_63 x1 x2 σ
    | _, _ => none)]
set_option maxRecDepth 20000 in
theorem e_Mo_wakes (a1 : Int32) (σ : sv_S) : sv_ex ev_Mo_wakes sv_rI kk_Mo_wakes cd_Mo_wakes 62 0 [some (.inr (.inr (some (30, 0)))), some (.inl a1), none, none] [] σ = f_Mo_wakes a1 σ := by
  unfold f_Mo_wakes
  delta ev_Mo_wakes kk_Mo_wakes n_Mo_of n_Mo_counts n_Mo_worked n_Mo_held
  generalize f_Mo_of = c0
  generalize f_Mo_counts = c1
  generalize f_Mo_worked = c2
  generalize f_Mo_held = c3
  generalize f_Mo_wakes_63 = c4
  rfl
theorem d_Mo_wakes : cd_Mo_wakes.all (sv_dk cX12_wakes) = true := by decide +kernel
set_option maxRecDepth 20000 in
theorem w_Mo_wakes_63 {Γ : sv_Ga} {res : Int32 × sv_S} (X : sv_Ok Γ ev_Mo_wakes cX12_wakes sv_rI res) : ∀ (x1 : Int32) (x2 : Int32) (z3 : Option sv_V) (σ : sv_S), f_Mo_wakes_63 x1 x2 σ = some res → sv_T Γ 63 [some (.inr (.inr (some (30, 0)))), some (.inl x1), some (.inl x2), z3] [] σ := by
  intro x1 x2 z3 σ h
  refine sv_run X d_Mo_wakes (K := kk_Mo_wakes_63) (sv_lk_all (P := fun pc (k : sv_Lo → List sv_V → sv_S → Option (Int32 × sv_S)) => ∀ lo st σ, k lo st σ = some res → sv_T Γ pc lo st σ) ?_) _ _ _ _ _ ((e_Mo_wakes_63 x1 x2 z3 σ).trans h)
  clear h
  exact fun _ h => absurd h List.not_mem_nil

set_option maxRecDepth 20000 in
theorem b_Mo_wakes (Γ : sv_Ga) (res : Int32 × sv_S) (X : sv_Ok Γ ev_Mo_wakes cX12_wakes sv_rI res) (as : List sv_V) (σ : sv_S) (h : n_Mo_wakes as σ = some res) : sv_T Γ 0 (sv_e0 4 as) [] σ := by
  unfold n_Mo_wakes at h
  split at h
  · refine sv_run X d_Mo_wakes (K := kk_Mo_wakes) (sv_lk_all (P := fun pc (k : sv_Lo → List sv_V → sv_S → Option (Int32 × sv_S)) => ∀ lo st σ, k lo st σ = some res → sv_T Γ pc lo st σ) ?_) _ _ _ _ _ ((e_Mo_wakes _ _).trans h)
    clear h
    refine List.forall_mem_cons.mpr ⟨fun lo st σ h => ?_, fun _ h => absurd h List.not_mem_nil⟩
    · dsimp only at h
      split at h
      · exact w_Mo_wakes_63 X _ _ _ _ h
      · cases h
  · cases h
theorem a_Mo_wakes (as : List sv_V) (σ : sv_S) (x : Int32 × sv_S) (h : n_Mo_wakes as σ = some x) : sv_args 4 ev_Mo_wakes.2.2.2.1 as := by
  unfold n_Mo_wakes at h
  split at h
  · exact ⟨Nat.le_of_ble_eq_true rfl, fun _ v hv => by
      simp only [List.mem_cons, List.not_mem_nil, or_false] at hv
      rcases hv with rfl | rfl <;> trivial⟩
  · cases h
theorem g_Mo_wakes (as : List sv_V) (σ : sv_S) (x : Option sv_V × sv_S) (h : sv_gI n_Mo_wakes as σ = some x) : ∃ r i as', as = sv_R r i :: as' ∧ sv_kd r i = .inl 12 := by
  obtain ⟨_, _, h, -⟩ := sv_b_some h
  unfold n_Mo_wakes at h
  split at h
  · exact ⟨_, _, _, rfl, rfl⟩
  · cases h
theorem tw_1160 : Cond.methodLink RX12 110 yX12_held ∈ gw_tbl := gw_at 1160 (by decide +kernel) rfl
theorem tw_1161 : Cond.static yX12_held ∈ gw_tbl := gw_at 1161 (by decide +kernel) rfl
theorem tw_1162 : Cond.code yX12_held cX12_held 3 (some .int) ∈ gw_tbl := gw_at 1162 (by decide +kernel) rfl
set_option maxRecDepth 20000 in
theorem m_Mo_wakes (l : Launch) : sv_M l yX12_wakes cX12_wakes 4 (some .int) (sv_gI n_Mo_wakes) 2 := by
  refine sv_mI (E := ev_Mo_wakes) (by decide +kernel) (ln_gen fk_12 kk_12 (sv_ns _ (fun _ => rfl) _)) ?_ a_Mo_wakes b_Mo_wakes
  intro p e R s m args below meth c cells slots Q base ad dC dI cA n0 S hkn hR hf pc n f h
  refine sv_lk_all (P := fun pc (x : Nat × sv_F) => sv_cok p l e R s m args below meth c cells slots Q base ad dC dI cA true 4 n0 pc x.1 x.2) ?_ pc (n, f) h
  exact List.forall_mem_cons.mpr ⟨(sv_cV S hkn (m_Mo_of l) ⟨Nat.le_trans (by decide) hR.1, Nat.le_trans (by decide) hR.2⟩ (by decide) hf rfl g_Mo_of (sv_w5 tw_1120 tw_1122 tw_10 tw_65 tw_1123) (by decide +kernel) (sv_dc3 d_Mo_wakes (pc := 3) rfl rfl)).I,
      List.forall_mem_cons.mpr ⟨(sv_cV S hkn (m_Mo_counts l) ⟨Nat.le_trans (by decide) hR.1, Nat.le_trans (by decide) hR.2⟩ (by decide) hf rfl g_Mo_counts (sv_w5 tw_1137 tw_1139 tw_14 tw_65 tw_1140) (by decide +kernel) (sv_dc3 d_Mo_wakes (pc := 9) rfl rfl)).I,
      List.forall_mem_cons.mpr ⟨(sv_cV S hkn (m_Mo_of l) ⟨Nat.le_trans (by decide) hR.1, Nat.le_trans (by decide) hR.2⟩ (by decide) hf rfl g_Mo_of (sv_w5 tw_1120 tw_1122 tw_10 tw_65 tw_1123) (by decide +kernel) (sv_dc3 d_Mo_wakes (pc := 26) rfl rfl)).I,
      List.forall_mem_cons.mpr ⟨(sv_cV S hkn (m_Mo_worked l) ⟨Nat.le_trans (by decide) hR.1, Nat.le_trans (by decide) hR.2⟩ (by decide) hf rfl g_Mo_worked (sv_w5 tw_1149 tw_1151 tw_17 tw_65 tw_1152) (by decide +kernel) (sv_dc3 d_Mo_wakes (pc := 53) rfl rfl)).I,
      List.forall_mem_cons.mpr ⟨(sv_cS S hkn (m_Mo_held l) ⟨Nat.le_trans (by decide) hR.1, Nat.le_trans (by decide) hR.2⟩ (by decide) hf (sv_w4 tw_1160 tw_1161 tw_65 tw_1162) (by decide +kernel) (sv_dc3 d_Mo_wakes (pc := 59) rfl rfl)).I,
      List.forall_mem_cons.mpr ⟨(sv_cV S hkn (m_Mo_of l) ⟨Nat.le_trans (by decide) hR.1, Nat.le_trans (by decide) hR.2⟩ (by decide) hf rfl g_Mo_of (sv_w5 tw_1120 tw_1122 tw_10 tw_65 tw_1123) (by decide +kernel) (sv_dc3 d_Mo_wakes (pc := 66) rfl rfl)).I,
      List.forall_mem_cons.mpr ⟨(sv_cS S hkn (m_Mo_held l) ⟨Nat.le_trans (by decide) hR.1, Nat.le_trans (by decide) hR.2⟩ (by decide) hf (sv_w4 tw_1160 tw_1161 tw_65 tw_1162) (by decide +kernel) (sv_dc3 d_Mo_wakes (pc := 102) rfl rfl)).I,
      List.forall_mem_cons.mpr ⟨(sv_cS S hkn (m_Mo_held l) ⟨Nat.le_trans (by decide) hR.1, Nat.le_trans (by decide) hR.2⟩ (by decide) hf (sv_w4 tw_1160 tw_1161 tw_65 tw_1162) (by decide +kernel) (sv_dc3 d_Mo_wakes (pc := 112) rfl rfl)).I,
      fun _ h => absurd h List.not_mem_nil⟩⟩⟩⟩⟩⟩⟩⟩
noncomputable def f_Mo_stepFrom_35 (x2 : Int32) (x3 : Int32) (σ : sv_S) : Option (Int32 × sv_S) :=
    sv_if (x2 = (9 : Int32))
      (some ((0 : Int32), σ))
      (sv_if (x2 = (8 : Int32))
        (sv_if (x3 = (4 : Int32))
          (some ((0 : Int32), σ))
          (some (x2 + (1 : Int32), σ)))
        (some (x2 + (1 : Int32), σ)))
noncomputable def f_Mo_stepFrom_21 (x2 : Int32) (x3 : Int32) (σ : sv_S) : Option (Int32 × sv_S) :=
    sv_g (sv_in (3 : Int32) 3086) (sv_g (¬ (4 : Int32) = 0) (sv_if (((σ 31 0 ((3 : Int32).toNatClampNeg)) - (σ 31 0 ((3 : Int32).toNatClampNeg)) / (4 : Int32) * (4 : Int32)) = (3 : Int32))
      (some (x2, σ))
      (f_Mo_stepFrom_35 x2 x3 σ)))
noncomputable def f_Mo_stepFrom (a1 : Int32) (a2 : Int32) (σ : sv_S) : Option (Int32 × sv_S) :=
  sv_b (f_Mo_of a1 (0 : Int32) σ) (fun v1 σ2 =>
    sv_if (a2 = 0)
      (some (a2, σ2))
      (sv_if (v1 = (1 : Int32))
        (f_Mo_stepFrom_21 a2 v1 σ2)
        (sv_if (v1 = (3 : Int32))
          (f_Mo_stepFrom_21 a2 v1 σ2)
          (f_Mo_stepFrom_35 a2 v1 σ2))))
noncomputable def n_Mo_stepFrom : List sv_V → sv_S → Option (Int32 × sv_S)
  | [.inr (.inr (some (30, 0))), .inl a1, .inl a2], σ => f_Mo_stepFrom a1 a2 σ
  | _, _ => none
def cd_Mo_stepFrom : sv_C := [(0, (.aload_n 0, (sv_N, (1, (0, []))))), (1, (.iload_n 1, (sv_N, (2, (0, []))))), (2, (.iconst 0, (.inl (0 : Int32), (3, (0, []))))), (3, (.invokevirtual 90, (sv_N, (6, (0, []))))), (6, (.istore_n 3, (sv_N, (7, (0, []))))), (7, (.iload_n 2, (sv_N, (8, (0, []))))), (8, (.ifCond .eq 25, (sv_N, (11, (33, []))))), (11, (.iload_n 3, (sv_N, (12, (0, []))))), (12, (.iconst 1, (.inl (1 : Int32), (13, (0, []))))), (13, (.if_icmp .eq 8, (sv_N, (16, (21, []))))), (16, (.iload_n 3, (sv_N, (17, (0, []))))), (17, (.iconst 3, (.inl (3 : Int32), (18, (0, []))))), (18, (.if_icmp .ne 17, (sv_N, (21, (35, []))))), (21, (.aload_n 0, (sv_N, (22, (0, []))))), (22, (.getfield 7, (sv_N, (25, (0, []))))), (25, (.iconst 3, (.inl (3 : Int32), (26, (0, []))))), (26, (.iaload, (sv_N, (27, (0, []))))), (27, (.iconst 4, (.inl (4 : Int32), (28, (0, []))))), (28, (.irem, (sv_N, (29, (0, []))))), (29, (.iconst 3, (.inl (3 : Int32), (30, (0, []))))), (30, (.if_icmp .ne 5, (sv_N, (33, (35, []))))), (33, (.iload_n 2, (sv_N, (34, (0, []))))), (34, (.ireturn, (sv_N, (35, (0, []))))), (35, (.iload_n 2, (sv_N, (36, (0, []))))), (36, (.bipush 9, (.inl (9 : Int32), (38, (0, []))))), (38, (.if_icmp .eq 14, (sv_N, (41, (52, []))))), (41, (.iload_n 2, (sv_N, (42, (0, []))))), (42, (.bipush 8, (.inl (8 : Int32), (44, (0, []))))), (44, (.if_icmp .ne 12, (sv_N, (47, (56, []))))), (47, (.iload_n 3, (sv_N, (48, (0, []))))), (48, (.iconst 4, (.inl (4 : Int32), (49, (0, []))))), (49, (.if_icmp .ne 7, (sv_N, (52, (56, []))))), (52, (.iconst 0, (.inl (0 : Int32), (53, (0, []))))), (53, (.goto 6, (sv_N, (56, (59, []))))), (56, (.iload_n 2, (sv_N, (57, (0, []))))), (57, (.iconst 1, (.inl (1 : Int32), (58, (0, []))))), (58, (.iadd, (sv_N, (59, (0, []))))), (59, (.ireturn, (sv_N, (60, (0, [])))))]
noncomputable def ev_Mo_stepFrom : sv_E := (fun i => sv_lk i fl_12, (fun i => sv_lk i kc_12, (fun _ => false, (true, fun pc => sv_lk pc [(3, (3, .inl n_Mo_of))]))))
noncomputable def kk_Mo_stepFrom_35 : sv_K (Int32 × sv_S) := fun pc => sv_lk pc []
set_option maxRecDepth 20000 in
theorem e_Mo_stepFrom_35 (x2 : Int32) (x3 : Int32) (z0 z1 : Option sv_V) (σ : sv_S) : sv_ex ev_Mo_stepFrom sv_rI (kk_Mo_stepFrom_35) cd_Mo_stepFrom 40 35 [z0, z1, some (.inl x2), some (.inl x3)] [] σ = f_Mo_stepFrom_35 x2 x3 σ := by
  unfold f_Mo_stepFrom_35
  delta ev_Mo_stepFrom kk_Mo_stepFrom_35 n_Mo_of
  generalize f_Mo_of = c0
  rfl
noncomputable def kk_Mo_stepFrom_21 : sv_K (Int32 × sv_S) := fun pc => sv_lk pc [(35, fun lo st σ => match lo, st with
    | [_, _, some (.inl x2), some (.inl x3)], [] => f_Mo_stepFrom_35 x2 x3 σ
    | _, _ => none)]
set_option maxRecDepth 20000 in
theorem e_Mo_stepFrom_21 (x2 : Int32) (x3 : Int32) (z1 : Option sv_V) (σ : sv_S) : sv_ex ev_Mo_stepFrom sv_rI (kk_Mo_stepFrom_21) cd_Mo_stepFrom 40 21 [some (.inr (.inr (some (30, 0)))), z1, some (.inl x2), some (.inl x3)] [] σ = f_Mo_stepFrom_21 x2 x3 σ := by
  unfold f_Mo_stepFrom_21
  delta ev_Mo_stepFrom kk_Mo_stepFrom_21 n_Mo_of
  generalize f_Mo_of = c0
  generalize f_Mo_stepFrom_35 = c1
  rfl
noncomputable def kk_Mo_stepFrom : sv_K (Int32 × sv_S) := fun pc => sv_lk pc [(21, fun lo st σ => match lo, st with
    | [some (.inr (.inr (some (30, 0)))), _, some (.inl x2), some (.inl x3)], [] => f_Mo_stepFrom_21 x2 x3 σ
    | _, _ => none),
  (35, fun lo st σ => match lo, st with
    | [_, _, some (.inl x2), some (.inl x3)], [] => f_Mo_stepFrom_35 x2 x3 σ
    | _, _ => none)]
set_option maxRecDepth 20000 in
theorem e_Mo_stepFrom (a1 : Int32) (a2 : Int32) (σ : sv_S) : sv_ex ev_Mo_stepFrom sv_rI kk_Mo_stepFrom cd_Mo_stepFrom 40 0 [some (.inr (.inr (some (30, 0)))), some (.inl a1), some (.inl a2), none] [] σ = f_Mo_stepFrom a1 a2 σ := by
  unfold f_Mo_stepFrom
  delta ev_Mo_stepFrom kk_Mo_stepFrom n_Mo_of
  generalize f_Mo_of = c0
  generalize f_Mo_stepFrom_21 = c1
  generalize f_Mo_stepFrom_35 = c2
  rfl
theorem d_Mo_stepFrom : cd_Mo_stepFrom.all (sv_dk cX12_stepFrom) = true := by decide +kernel
set_option maxRecDepth 20000 in
theorem w_Mo_stepFrom_35 {Γ : sv_Ga} {res : Int32 × sv_S} (X : sv_Ok Γ ev_Mo_stepFrom cX12_stepFrom sv_rI res) : ∀ (x2 : Int32) (x3 : Int32) (z0 z1 : Option sv_V) (σ : sv_S), f_Mo_stepFrom_35 x2 x3 σ = some res → sv_T Γ 35 [z0, z1, some (.inl x2), some (.inl x3)] [] σ := by
  intro x2 x3 z0 z1 σ h
  refine sv_run X d_Mo_stepFrom (K := kk_Mo_stepFrom_35) (sv_lk_all (P := fun pc (k : sv_Lo → List sv_V → sv_S → Option (Int32 × sv_S)) => ∀ lo st σ, k lo st σ = some res → sv_T Γ pc lo st σ) ?_) _ _ _ _ _ ((e_Mo_stepFrom_35 x2 x3 z0 z1 σ).trans h)
  clear h
  exact fun _ h => absurd h List.not_mem_nil

set_option maxRecDepth 20000 in
theorem w_Mo_stepFrom_21 {Γ : sv_Ga} {res : Int32 × sv_S} (X : sv_Ok Γ ev_Mo_stepFrom cX12_stepFrom sv_rI res) : ∀ (x2 : Int32) (x3 : Int32) (z1 : Option sv_V) (σ : sv_S), f_Mo_stepFrom_21 x2 x3 σ = some res → sv_T Γ 21 [some (.inr (.inr (some (30, 0)))), z1, some (.inl x2), some (.inl x3)] [] σ := by
  intro x2 x3 z1 σ h
  refine sv_run X d_Mo_stepFrom (K := kk_Mo_stepFrom_21) (sv_lk_all (P := fun pc (k : sv_Lo → List sv_V → sv_S → Option (Int32 × sv_S)) => ∀ lo st σ, k lo st σ = some res → sv_T Γ pc lo st σ) ?_) _ _ _ _ _ ((e_Mo_stepFrom_21 x2 x3 z1 σ).trans h)
  clear h
  refine List.forall_mem_cons.mpr ⟨fun lo st σ h => ?_, fun _ h => absurd h List.not_mem_nil⟩
  · dsimp only at h
    split at h
    · exact w_Mo_stepFrom_35 X _ _ _ _ _ h
    · cases h

set_option maxRecDepth 20000 in
theorem b_Mo_stepFrom (Γ : sv_Ga) (res : Int32 × sv_S) (X : sv_Ok Γ ev_Mo_stepFrom cX12_stepFrom sv_rI res) (as : List sv_V) (σ : sv_S) (h : n_Mo_stepFrom as σ = some res) : sv_T Γ 0 (sv_e0 4 as) [] σ := by
  unfold n_Mo_stepFrom at h
  split at h
  · refine sv_run X d_Mo_stepFrom (K := kk_Mo_stepFrom) (sv_lk_all (P := fun pc (k : sv_Lo → List sv_V → sv_S → Option (Int32 × sv_S)) => ∀ lo st σ, k lo st σ = some res → sv_T Γ pc lo st σ) ?_) _ _ _ _ _ ((e_Mo_stepFrom _ _ _).trans h)
    clear h
    refine List.forall_mem_cons.mpr ⟨fun lo st σ h => ?_, List.forall_mem_cons.mpr ⟨fun lo st σ h => ?_, fun _ h => absurd h List.not_mem_nil⟩⟩
    · dsimp only at h
      split at h
      · exact w_Mo_stepFrom_21 X _ _ _ _ h
      · cases h
    · dsimp only at h
      split at h
      · exact w_Mo_stepFrom_35 X _ _ _ _ _ h
      · cases h
  · cases h
theorem a_Mo_stepFrom (as : List sv_V) (σ : sv_S) (x : Int32 × sv_S) (h : n_Mo_stepFrom as σ = some x) : sv_args 4 ev_Mo_stepFrom.2.2.2.1 as := by
  unfold n_Mo_stepFrom at h
  split at h
  · exact ⟨Nat.le_of_ble_eq_true rfl, fun _ v hv => by
      simp only [List.mem_cons, List.not_mem_nil, or_false] at hv
      rcases hv with rfl | rfl | rfl <;> trivial⟩
  · cases h
theorem g_Mo_stepFrom (as : List sv_V) (σ : sv_S) (x : Option sv_V × sv_S) (h : sv_gI n_Mo_stepFrom as σ = some x) : ∃ r i as', as = sv_R r i :: as' ∧ sv_kd r i = .inl 12 := by
  obtain ⟨_, _, h, -⟩ := sv_b_some h
  unfold n_Mo_stepFrom at h
  split at h
  · exact ⟨_, _, _, rfl, rfl⟩
  · cases h

set_option maxRecDepth 20000 in
theorem m_Mo_stepFrom (l : Launch) : sv_M l yX12_stepFrom cX12_stepFrom 4 (some .int) (sv_gI n_Mo_stepFrom) 1 := by
  refine sv_mI (E := ev_Mo_stepFrom) (by decide +kernel) (ln_gen fk_12 kk_12 (sv_ns _ (fun _ => rfl) _)) ?_ a_Mo_stepFrom b_Mo_stepFrom
  intro p e R s m args below meth c cells slots Q base ad dC dI cA n0 S hkn hR hf pc n f h
  refine sv_lk_all (P := fun pc (x : Nat × sv_F) => sv_cok p l e R s m args below meth c cells slots Q base ad dC dI cA true 4 n0 pc x.1 x.2) ?_ pc (n, f) h
  exact List.forall_mem_cons.mpr ⟨(sv_cV S hkn (m_Mo_of l) ⟨Nat.le_trans (by decide) hR.1, Nat.le_trans (by decide) hR.2⟩ (by decide) hf rfl g_Mo_of (sv_w5 tw_1120 tw_1122 tw_10 tw_65 tw_1123) (by decide +kernel) (sv_dc3 d_Mo_stepFrom (pc := 3) rfl rfl)).I,
      fun _ h => absurd h List.not_mem_nil⟩
noncomputable def f_Mo_worth (a1 : Int32) (σ : sv_S) : Option (Int32 × sv_S) :=
  sv_b (f_Mo_of a1 (1 : Int32) σ) (fun v1 σ2 =>
    sv_b (f_Mo_of a1 (0 : Int32) σ2) (fun v3 σ4 =>
      sv_if (v3.toInt = 1)
        (some (v1 + (4 : Int32), σ4))
        (sv_if (v3.toInt = 2)
        (some ((20 : Int32) - v1, σ4))
        (sv_if (v3.toInt = 3)
        (some ((2 : Int32) * (v1 + (4 : Int32)), σ4))
        (sv_if (v3.toInt = 4)
        (some ((15 : Int32) - v1, σ4))
        (sv_if (v3.toInt = 5)
        (some ((6 : Int32), σ4))
        (some (v1, σ4))))))))
noncomputable def n_Mo_worth : List sv_V → sv_S → Option (Int32 × sv_S)
  | [.inr (.inr (some (30, 0))), .inl a1], σ => f_Mo_worth a1 σ
  | _, _ => none
def cd_Mo_worth : sv_C := [(0, (.aload_n 0, (sv_N, (1, (0, []))))), (1, (.iload_n 1, (sv_N, (2, (0, []))))), (2, (.iconst 1, (.inl (1 : Int32), (3, (0, []))))), (3, (.invokevirtual 90, (sv_N, (6, (0, []))))), (6, (.istore_n 2, (sv_N, (7, (0, []))))), (7, (.aload_n 0, (sv_N, (8, (0, []))))), (8, (.iload_n 1, (sv_N, (9, (0, []))))), (9, (.iconst 0, (.inl (0 : Int32), (10, (0, []))))), (10, (.invokevirtual 90, (sv_N, (13, (0, []))))), (13, (.tableswitch 58 1 5 #[35, 39, 44, 50, 55], (sv_N, (13, (71, [(1, 48), (2, 52), (3, 57), (4, 63), (5, 68)]))))), (48, (.iload_n 2, (sv_N, (49, (0, []))))), (49, (.iconst 4, (.inl (4 : Int32), (50, (0, []))))), (50, (.iadd, (sv_N, (51, (0, []))))), (51, (.ireturn, (sv_N, (52, (0, []))))), (52, (.bipush 20, (.inl (20 : Int32), (54, (0, []))))), (54, (.iload_n 2, (sv_N, (55, (0, []))))), (55, (.isub, (sv_N, (56, (0, []))))), (56, (.ireturn, (sv_N, (57, (0, []))))), (57, (.iconst 2, (.inl (2 : Int32), (58, (0, []))))), (58, (.iload_n 2, (sv_N, (59, (0, []))))), (59, (.iconst 4, (.inl (4 : Int32), (60, (0, []))))), (60, (.iadd, (sv_N, (61, (0, []))))), (61, (.imul, (sv_N, (62, (0, []))))), (62, (.ireturn, (sv_N, (63, (0, []))))), (63, (.bipush 15, (.inl (15 : Int32), (65, (0, []))))), (65, (.iload_n 2, (sv_N, (66, (0, []))))), (66, (.isub, (sv_N, (67, (0, []))))), (67, (.ireturn, (sv_N, (68, (0, []))))), (68, (.bipush 6, (.inl (6 : Int32), (70, (0, []))))), (70, (.ireturn, (sv_N, (71, (0, []))))), (71, (.iload_n 2, (sv_N, (72, (0, []))))), (72, (.ireturn, (sv_N, (73, (0, [])))))]
noncomputable def ev_Mo_worth : sv_E := (fun i => sv_lk i fl_12, (fun i => sv_lk i kc_12, (fun _ => false, (true, fun pc => sv_lk pc [(3, (3, .inl n_Mo_of)), (10, (3, .inl n_Mo_of))]))))
noncomputable def kk_Mo_worth : sv_K (Int32 × sv_S) := fun pc => sv_lk pc []
set_option maxRecDepth 20000 in
theorem e_Mo_worth (a1 : Int32) (σ : sv_S) : sv_ex ev_Mo_worth sv_rI kk_Mo_worth cd_Mo_worth 34 0 [some (.inr (.inr (some (30, 0)))), some (.inl a1), none] [] σ = f_Mo_worth a1 σ := by
  unfold f_Mo_worth
  delta ev_Mo_worth kk_Mo_worth n_Mo_of
  generalize f_Mo_of = c0
  rfl
theorem d_Mo_worth : cd_Mo_worth.all (sv_dk cX12_worth) = true := by decide +kernel
set_option maxRecDepth 20000 in
theorem b_Mo_worth (Γ : sv_Ga) (res : Int32 × sv_S) (X : sv_Ok Γ ev_Mo_worth cX12_worth sv_rI res) (as : List sv_V) (σ : sv_S) (h : n_Mo_worth as σ = some res) : sv_T Γ 0 (sv_e0 3 as) [] σ := by
  unfold n_Mo_worth at h
  split at h
  · refine sv_run X d_Mo_worth (K := kk_Mo_worth) (sv_lk_all (P := fun pc (k : sv_Lo → List sv_V → sv_S → Option (Int32 × sv_S)) => ∀ lo st σ, k lo st σ = some res → sv_T Γ pc lo st σ) ?_) _ _ _ _ _ ((e_Mo_worth _ _).trans h)
    clear h
    exact fun _ h => absurd h List.not_mem_nil
  · cases h
theorem a_Mo_worth (as : List sv_V) (σ : sv_S) (x : Int32 × sv_S) (h : n_Mo_worth as σ = some x) : sv_args 3 ev_Mo_worth.2.2.2.1 as := by
  unfold n_Mo_worth at h
  split at h
  · exact ⟨Nat.le_of_ble_eq_true rfl, fun _ v hv => by
      simp only [List.mem_cons, List.not_mem_nil, or_false] at hv
      rcases hv with rfl | rfl <;> trivial⟩
  · cases h
theorem g_Mo_worth (as : List sv_V) (σ : sv_S) (x : Option sv_V × sv_S) (h : sv_gI n_Mo_worth as σ = some x) : ∃ r i as', as = sv_R r i :: as' ∧ sv_kd r i = .inl 12 := by
  obtain ⟨_, _, h, -⟩ := sv_b_some h
  unfold n_Mo_worth at h
  split at h
  · exact ⟨_, _, _, rfl, rfl⟩
  · cases h

set_option maxRecDepth 20000 in
theorem m_Mo_worth (l : Launch) : sv_M l yX12_worth cX12_worth 3 (some .int) (sv_gI n_Mo_worth) 1 := by
  refine sv_mI (E := ev_Mo_worth) (by decide +kernel) (ln_gen fk_12 kk_12 (sv_ns _ (fun _ => rfl) _)) ?_ a_Mo_worth b_Mo_worth
  intro p e R s m args below meth c cells slots Q base ad dC dI cA n0 S hkn hR hf pc n f h
  refine sv_lk_all (P := fun pc (x : Nat × sv_F) => sv_cok p l e R s m args below meth c cells slots Q base ad dC dI cA true 3 n0 pc x.1 x.2) ?_ pc (n, f) h
  exact List.forall_mem_cons.mpr ⟨(sv_cV S hkn (m_Mo_of l) ⟨Nat.le_trans (by decide) hR.1, Nat.le_trans (by decide) hR.2⟩ (by decide) hf rfl g_Mo_of (sv_w5 tw_1120 tw_1122 tw_10 tw_65 tw_1123) (by decide +kernel) (sv_dc3 d_Mo_worth (pc := 3) rfl rfl)).I,
      List.forall_mem_cons.mpr ⟨(sv_cV S hkn (m_Mo_of l) ⟨Nat.le_trans (by decide) hR.1, Nat.le_trans (by decide) hR.2⟩ (by decide) hf rfl g_Mo_of (sv_w5 tw_1120 tw_1122 tw_10 tw_65 tw_1123) (by decide +kernel) (sv_dc3 d_Mo_worth (pc := 10) rfl rfl)).I,
      fun _ h => absurd h List.not_mem_nil⟩⟩
noncomputable def f_Mo_told (a1 : Int32) (a2 : Int32) (σ : sv_S) : Option (Int32 × sv_S) :=
  sv_b (f_Mo_isDrummer a1 σ) (fun v1 σ2 =>
    sv_if (v1 = 0)
      (some ((-1000000001 : Int32), σ2))
      (sv_if (a2.toInt = 0)
        (sv_b (f_Mo_of a1 a2 σ2) (fun v3 σ4 =>
          some (v3, σ4)))
        (sv_if (a2.toInt = 1)
        (sv_b (f_Mo_of a1 a2 σ2) (fun v5 σ6 =>
          some (v5, σ6)))
        (sv_if (a2.toInt = 2)
        (sv_b (f_Mo_of a1 a2 σ2) (fun v7 σ8 =>
          some (v7, σ8)))
        (sv_if (a2.toInt = 3)
        (sv_b (f_Mo_of a1 a2 σ2) (fun v9 σ10 =>
          some (v9, σ10)))
        (sv_if (a2.toInt = 4)
        (sv_b (f_Mo_of a1 a2 σ2) (fun v11 σ12 =>
          some (v11, σ12)))
        (sv_if (a2.toInt = 5)
        (sv_b (f_Mo_of a1 a2 σ2) (fun v13 σ14 =>
          some (v13, σ14)))
        (sv_if (a2.toInt = 6)
        (sv_b (f_Mo_of a1 (6 : Int32) σ2) (fun v15 σ16 =>
          sv_if (v15 = 0)
            (some ((-1000000005 : Int32), σ16))
            (sv_b (f_Mo_of a1 (6 : Int32) σ16) (fun v17 σ18 =>
              some (v17, σ18)))))
        (sv_if (a2.toInt = 7)
        (sv_b (f_Mo_of a1 a2 σ2) (fun v19 σ20 =>
          some (v19, σ20)))
        (sv_if (a2.toInt = 8)
        (sv_b (f_Mo_hears a1 σ2) (fun v21 σ22 =>
          sv_if (v21 = 0)
            (some ((0 : Int32), σ22))
            (some ((1 : Int32), σ22))))
        (sv_if (a2.toInt = 9)
        (sv_b (f_Mo_wakes a1 σ2) (fun v23 σ24 =>
          some (v23, σ24)))
        (sv_if (a2.toInt = 10)
        (sv_b (f_Mo_of a1 (2 : Int32) σ2) (fun v25 σ26 =>
          sv_b (f_Mo_stepFrom a1 v25 σ26) (fun v27 σ28 =>
            some (v27, σ28))))
        (sv_if (a2.toInt = 11)
        (sv_b (f_Mo_worth a1 σ2) (fun v29 σ30 =>
          some (v29, σ30)))
        (some ((-1000000001 : Int32), σ2)))))))))))))))
noncomputable def n_Mo_told : List sv_V → sv_S → Option (Int32 × sv_S)
  | [.inr (.inr (some (30, 0))), .inl a1, .inl a2], σ => f_Mo_told a1 a2 σ
  | _, _ => none
def cd_Mo_told : sv_C := [(0, (.aload_n 0, (sv_N, (1, (0, []))))), (1, (.iload_n 1, (sv_N, (2, (0, []))))), (2, (.invokevirtual 113, (sv_N, (5, (0, []))))), (5, (.ifCond .ne 6, (sv_N, (8, (11, []))))), (8, (.ldc 84, (sv_N, (10, (0, []))))), (10, (.ireturn, (sv_N, (11, (0, []))))), (11, (.iload_n 2, (sv_N, (12, (0, []))))), (12, (.tableswitch 132 0 11 #[64, 64, 64, 64, 64, 64, 71, 64, 94, 108, 114, 126], (sv_N, (12, (144, [(0, 76), (1, 76), (2, 76), (3, 76), (4, 76), (5, 76), (6, 83), (7, 76), (8, 106), (9, 120), (10, 126), (11, 138)]))))), (76, (.aload_n 0, (sv_N, (77, (0, []))))), (77, (.iload_n 1, (sv_N, (78, (0, []))))), (78, (.iload_n 2, (sv_N, (79, (0, []))))), (79, (.invokevirtual 90, (sv_N, (82, (0, []))))), (82, (.ireturn, (sv_N, (83, (0, []))))), (83, (.aload_n 0, (sv_N, (84, (0, []))))), (84, (.iload_n 1, (sv_N, (85, (0, []))))), (85, (.bipush 6, (.inl (6 : Int32), (87, (0, []))))), (87, (.invokevirtual 90, (sv_N, (90, (0, []))))), (90, (.ifCond .ne 8, (sv_N, (93, (98, []))))), (93, (.ldc 70, (sv_N, (95, (0, []))))), (95, (.goto 10, (sv_N, (98, (105, []))))), (98, (.aload_n 0, (sv_N, (99, (0, []))))), (99, (.iload_n 1, (sv_N, (100, (0, []))))), (100, (.bipush 6, (.inl (6 : Int32), (102, (0, []))))), (102, (.invokevirtual 90, (sv_N, (105, (0, []))))), (105, (.ireturn, (sv_N, (106, (0, []))))), (106, (.aload_n 0, (sv_N, (107, (0, []))))), (107, (.iload_n 1, (sv_N, (108, (0, []))))), (108, (.invokevirtual 117, (sv_N, (111, (0, []))))), (111, (.ifCond .eq 7, (sv_N, (114, (118, []))))), (114, (.iconst 1, (.inl (1 : Int32), (115, (0, []))))), (115, (.goto 4, (sv_N, (118, (119, []))))), (118, (.iconst 0, (.inl (0 : Int32), (119, (0, []))))), (119, (.ireturn, (sv_N, (120, (0, []))))), (120, (.aload_n 0, (sv_N, (121, (0, []))))), (121, (.iload_n 1, (sv_N, (122, (0, []))))), (122, (.invokevirtual 120, (sv_N, (125, (0, []))))), (125, (.ireturn, (sv_N, (126, (0, []))))), (126, (.aload_n 0, (sv_N, (127, (0, []))))), (127, (.iload_n 1, (sv_N, (128, (0, []))))), (128, (.aload_n 0, (sv_N, (129, (0, []))))), (129, (.iload_n 1, (sv_N, (130, (0, []))))), (130, (.iconst 2, (.inl (2 : Int32), (131, (0, []))))), (131, (.invokevirtual 90, (sv_N, (134, (0, []))))), (134, (.invokevirtual 123, (sv_N, (137, (0, []))))), (137, (.ireturn, (sv_N, (138, (0, []))))), (138, (.aload_n 0, (sv_N, (139, (0, []))))), (139, (.iload_n 1, (sv_N, (140, (0, []))))), (140, (.invokevirtual 126, (sv_N, (143, (0, []))))), (143, (.ireturn, (sv_N, (144, (0, []))))), (144, (.ldc 84, (sv_N, (146, (0, []))))), (146, (.ireturn, (sv_N, (147, (0, [])))))]
noncomputable def ev_Mo_told : sv_E := (fun i => sv_lk i fl_12, (fun i => sv_lk i kc_12, (fun _ => false, (true, fun pc => sv_lk pc [(2, (2, .inl n_Mo_isDrummer)), (79, (3, .inl n_Mo_of)), (87, (3, .inl n_Mo_of)), (102, (3, .inl n_Mo_of)), (108, (2, .inl n_Mo_hears)), (122, (2, .inl n_Mo_wakes)), (131, (3, .inl n_Mo_of)), (134, (3, .inl n_Mo_stepFrom)), (140, (2, .inl n_Mo_worth))]))))
noncomputable def kk_Mo_told : sv_K (Int32 × sv_S) := fun pc => sv_lk pc []
set_option maxRecDepth 20000 in
theorem e_Mo_told (a1 : Int32) (a2 : Int32) (σ : sv_S) : sv_ex ev_Mo_told sv_rI kk_Mo_told cd_Mo_told 53 0 [some (.inr (.inr (some (30, 0)))), some (.inl a1), some (.inl a2)] [] σ = f_Mo_told a1 a2 σ := by
  unfold f_Mo_told
  delta ev_Mo_told kk_Mo_told n_Mo_isDrummer n_Mo_of n_Mo_hears n_Mo_wakes n_Mo_stepFrom n_Mo_worth
  generalize f_Mo_isDrummer = c0
  generalize f_Mo_of = c1
  generalize f_Mo_hears = c2
  generalize f_Mo_wakes = c3
  generalize f_Mo_stepFrom = c4
  generalize f_Mo_worth = c5
  rfl
theorem d_Mo_told : cd_Mo_told.all (sv_dk cX12_told) = true := by decide +kernel
set_option maxRecDepth 20000 in
theorem b_Mo_told (Γ : sv_Ga) (res : Int32 × sv_S) (X : sv_Ok Γ ev_Mo_told cX12_told sv_rI res) (as : List sv_V) (σ : sv_S) (h : n_Mo_told as σ = some res) : sv_T Γ 0 (sv_e0 3 as) [] σ := by
  unfold n_Mo_told at h
  split at h
  · refine sv_run X d_Mo_told (K := kk_Mo_told) (sv_lk_all (P := fun pc (k : sv_Lo → List sv_V → sv_S → Option (Int32 × sv_S)) => ∀ lo st σ, k lo st σ = some res → sv_T Γ pc lo st σ) ?_) _ _ _ _ _ ((e_Mo_told _ _ _).trans h)
    clear h
    exact fun _ h => absurd h List.not_mem_nil
  · cases h
theorem a_Mo_told (as : List sv_V) (σ : sv_S) (x : Int32 × sv_S) (h : n_Mo_told as σ = some x) : sv_args 3 ev_Mo_told.2.2.2.1 as := by
  unfold n_Mo_told at h
  split at h
  · exact ⟨Nat.le_of_ble_eq_true rfl, fun _ v hv => by
      simp only [List.mem_cons, List.not_mem_nil, or_false] at hv
      rcases hv with rfl | rfl | rfl <;> trivial⟩
  · cases h
theorem g_Mo_told (as : List sv_V) (σ : sv_S) (x : Option sv_V × sv_S) (h : sv_gI n_Mo_told as σ = some x) : ∃ r i as', as = sv_R r i :: as' ∧ sv_kd r i = .inl 12 := by
  obtain ⟨_, _, h, -⟩ := sv_b_some h
  unfold n_Mo_told at h
  split at h
  · exact ⟨_, _, _, rfl, rfl⟩
  · cases h
theorem tw_9 : Cond.selects RX12 yX12_isDrummer yX12_isDrummer ∈ gw_tbl := gw_at 9 (by decide +kernel) rfl
theorem tw_11 : Cond.selects RX12 yX12_hears yX12_hears ∈ gw_tbl := gw_at 11 (by decide +kernel) rfl
theorem tw_18 : Cond.selects RX12 yX12_wakes yX12_wakes ∈ gw_tbl := gw_at 18 (by decide +kernel) rfl
theorem tw_19 : Cond.selects RX12 yX12_stepFrom yX12_stepFrom ∈ gw_tbl := gw_at 19 (by decide +kernel) rfl
theorem tw_20 : Cond.selects RX12 yX12_worth yX12_worth ∈ gw_tbl := gw_at 20 (by decide +kernel) rfl
theorem tw_1116 : Cond.methodLink RX12 113 yX12_isDrummer ∈ gw_tbl := gw_at 1116 (by decide +kernel) rfl
theorem tw_1118 : Cond.instanceMethod yX12_isDrummer ∈ gw_tbl := gw_at 1118 (by decide +kernel) rfl
theorem tw_1119 : Cond.code yX12_isDrummer cX12_isDrummer 2 (some .boolean) ∈ gw_tbl := gw_at 1119 (by decide +kernel) rfl
theorem tw_1125 : Cond.methodLink RX12 117 yX12_hears ∈ gw_tbl := gw_at 1125 (by decide +kernel) rfl
theorem tw_1127 : Cond.instanceMethod yX12_hears ∈ gw_tbl := gw_at 1127 (by decide +kernel) rfl
theorem tw_1128 : Cond.code yX12_hears cX12_hears 3 (some .boolean) ∈ gw_tbl := gw_at 1128 (by decide +kernel) rfl
theorem tw_1156 : Cond.methodLink RX12 120 yX12_wakes ∈ gw_tbl := gw_at 1156 (by decide +kernel) rfl
theorem tw_1158 : Cond.instanceMethod yX12_wakes ∈ gw_tbl := gw_at 1158 (by decide +kernel) rfl
theorem tw_1159 : Cond.code yX12_wakes cX12_wakes 4 (some .int) ∈ gw_tbl := gw_at 1159 (by decide +kernel) rfl
theorem tw_1163 : Cond.methodLink RX12 123 yX12_stepFrom ∈ gw_tbl := gw_at 1163 (by decide +kernel) rfl
theorem tw_1165 : Cond.instanceMethod yX12_stepFrom ∈ gw_tbl := gw_at 1165 (by decide +kernel) rfl
theorem tw_1166 : Cond.code yX12_stepFrom cX12_stepFrom 4 (some .int) ∈ gw_tbl := gw_at 1166 (by decide +kernel) rfl
theorem tw_1167 : Cond.methodLink RX12 126 yX12_worth ∈ gw_tbl := gw_at 1167 (by decide +kernel) rfl
theorem tw_1169 : Cond.instanceMethod yX12_worth ∈ gw_tbl := gw_at 1169 (by decide +kernel) rfl
theorem tw_1170 : Cond.code yX12_worth cX12_worth 3 (some .int) ∈ gw_tbl := gw_at 1170 (by decide +kernel) rfl
set_option maxRecDepth 20000 in
theorem m_Mo_told (l : Launch) : sv_M l yX12_told cX12_told 3 (some .int) (sv_gI n_Mo_told) 4 := by
  refine sv_mI (E := ev_Mo_told) (by decide +kernel) (ln_gen fk_12 kk_12 (sv_ns _ (fun _ => rfl) _)) ?_ a_Mo_told b_Mo_told
  intro p e R s m args below meth c cells slots Q base ad dC dI cA n0 S hkn hR hf pc n f h
  refine sv_lk_all (P := fun pc (x : Nat × sv_F) => sv_cok p l e R s m args below meth c cells slots Q base ad dC dI cA true 3 n0 pc x.1 x.2) ?_ pc (n, f) h
  exact List.forall_mem_cons.mpr ⟨(sv_cV S hkn (m_Mo_isDrummer l) ⟨Nat.le_trans (by decide) hR.1, Nat.le_trans (by decide) hR.2⟩ (by decide) hf rfl g_Mo_isDrummer (sv_w5 tw_1116 tw_1118 tw_9 tw_65 tw_1119) (by decide +kernel) (sv_dc3 d_Mo_told (pc := 2) rfl rfl)).I,
      List.forall_mem_cons.mpr ⟨(sv_cV S hkn (m_Mo_of l) ⟨Nat.le_trans (by decide) hR.1, Nat.le_trans (by decide) hR.2⟩ (by decide) hf rfl g_Mo_of (sv_w5 tw_1120 tw_1122 tw_10 tw_65 tw_1123) (by decide +kernel) (sv_dc3 d_Mo_told (pc := 79) rfl rfl)).I,
      List.forall_mem_cons.mpr ⟨(sv_cV S hkn (m_Mo_of l) ⟨Nat.le_trans (by decide) hR.1, Nat.le_trans (by decide) hR.2⟩ (by decide) hf rfl g_Mo_of (sv_w5 tw_1120 tw_1122 tw_10 tw_65 tw_1123) (by decide +kernel) (sv_dc3 d_Mo_told (pc := 87) rfl rfl)).I,
      List.forall_mem_cons.mpr ⟨(sv_cV S hkn (m_Mo_of l) ⟨Nat.le_trans (by decide) hR.1, Nat.le_trans (by decide) hR.2⟩ (by decide) hf rfl g_Mo_of (sv_w5 tw_1120 tw_1122 tw_10 tw_65 tw_1123) (by decide +kernel) (sv_dc3 d_Mo_told (pc := 102) rfl rfl)).I,
      List.forall_mem_cons.mpr ⟨(sv_cV S hkn (m_Mo_hears l) ⟨Nat.le_trans (by decide) hR.1, Nat.le_trans (by decide) hR.2⟩ (by decide) hf rfl g_Mo_hears (sv_w5 tw_1125 tw_1127 tw_11 tw_65 tw_1128) (by decide +kernel) (sv_dc3 d_Mo_told (pc := 108) rfl rfl)).I,
      List.forall_mem_cons.mpr ⟨(sv_cV S hkn (m_Mo_wakes l) ⟨Nat.le_trans (by decide) hR.1, Nat.le_trans (by decide) hR.2⟩ (by decide) hf rfl g_Mo_wakes (sv_w5 tw_1156 tw_1158 tw_18 tw_65 tw_1159) (by decide +kernel) (sv_dc3 d_Mo_told (pc := 122) rfl rfl)).I,
      List.forall_mem_cons.mpr ⟨(sv_cV S hkn (m_Mo_of l) ⟨Nat.le_trans (by decide) hR.1, Nat.le_trans (by decide) hR.2⟩ (by decide) hf rfl g_Mo_of (sv_w5 tw_1120 tw_1122 tw_10 tw_65 tw_1123) (by decide +kernel) (sv_dc3 d_Mo_told (pc := 131) rfl rfl)).I,
      List.forall_mem_cons.mpr ⟨(sv_cV S hkn (m_Mo_stepFrom l) ⟨Nat.le_trans (by decide) hR.1, Nat.le_trans (by decide) hR.2⟩ (by decide) hf rfl g_Mo_stepFrom (sv_w5 tw_1163 tw_1165 tw_19 tw_65 tw_1166) (by decide +kernel) (sv_dc3 d_Mo_told (pc := 134) rfl rfl)).I,
      List.forall_mem_cons.mpr ⟨(sv_cV S hkn (m_Mo_worth l) ⟨Nat.le_trans (by decide) hR.1, Nat.le_trans (by decide) hR.2⟩ (by decide) hf rfl g_Mo_worth (sv_w5 tw_1167 tw_1169 tw_20 tw_65 tw_1170) (by decide +kernel) (sv_dc3 d_Mo_told (pc := 140) rfl rfl)).I,
      fun _ h => absurd h List.not_mem_nil⟩⟩⟩⟩⟩⟩⟩⟩⟩
noncomputable def f_Mo_isOf_19 (x0 : Int32) (x1 : Int32) (σ : sv_S) : Option (Int32 × sv_S) :=
    sv_if (x1 = (2 : Int32))
      (sv_if (x0 = (4 : Int32))
        (sv_g ((1 : Int32) = 0 ∨ (1 : Int32) = 1) (some ((1 : Int32), σ)))
        (sv_g ((0 : Int32) = 0 ∨ (0 : Int32) = 1) (some ((0 : Int32), σ))))
      (sv_g ((0 : Int32) = 0 ∨ (0 : Int32) = 1) (some ((0 : Int32), σ)))
noncomputable def f_Mo_isOf (a0 : Int32) (a1 : Int32) (σ : sv_S) : Option (Int32 × sv_S) :=
  sv_if (a0 = a1)
    (sv_g ((1 : Int32) = 0 ∨ (1 : Int32) = 1) (some ((1 : Int32), σ)))
    (sv_if (a1 = 0)
      (sv_g ((1 : Int32) = 0 ∨ (1 : Int32) = 1) (some ((1 : Int32), σ)))
      (sv_if (a1 = (1 : Int32))
        (sv_if (a0 = (3 : Int32))
          (sv_g ((1 : Int32) = 0 ∨ (1 : Int32) = 1) (some ((1 : Int32), σ)))
          (f_Mo_isOf_19 a0 a1 σ))
        (f_Mo_isOf_19 a0 a1 σ)))
noncomputable def n_Mo_isOf : List sv_V → sv_S → Option (Int32 × sv_S)
  | [.inl a0, .inl a1], σ => f_Mo_isOf a0 a1 σ
  | _, _ => none
def cd_Mo_isOf : sv_C := [(0, (.iload_n 0, (sv_N, (1, (0, []))))), (1, (.iload_n 1, (sv_N, (2, (0, []))))), (2, (.if_icmp .eq 27, (sv_N, (5, (29, []))))), (5, (.iload_n 1, (sv_N, (6, (0, []))))), (6, (.ifCond .eq 23, (sv_N, (9, (29, []))))), (9, (.iload_n 1, (sv_N, (10, (0, []))))), (10, (.iconst 1, (.inl (1 : Int32), (11, (0, []))))), (11, (.if_icmp .ne 8, (sv_N, (14, (19, []))))), (14, (.iload_n 0, (sv_N, (15, (0, []))))), (15, (.iconst 3, (.inl (3 : Int32), (16, (0, []))))), (16, (.if_icmp .eq 13, (sv_N, (19, (29, []))))), (19, (.iload_n 1, (sv_N, (20, (0, []))))), (20, (.iconst 2, (.inl (2 : Int32), (21, (0, []))))), (21, (.if_icmp .ne 12, (sv_N, (24, (33, []))))), (24, (.iload_n 0, (sv_N, (25, (0, []))))), (25, (.iconst 4, (.inl (4 : Int32), (26, (0, []))))), (26, (.if_icmp .ne 7, (sv_N, (29, (33, []))))), (29, (.iconst 1, (.inl (1 : Int32), (30, (0, []))))), (30, (.goto 4, (sv_N, (33, (34, []))))), (33, (.iconst 0, (.inl (0 : Int32), (34, (0, []))))), (34, (.ireturn, (sv_N, (35, (0, [])))))]
noncomputable def ev_Mo_isOf : sv_E := (fun i => sv_lk i fl_12, (fun i => sv_lk i kc_12, (fun _ => false, (true, fun pc => sv_lk pc []))))
noncomputable def kk_Mo_isOf_19 : sv_K (Int32 × sv_S) := fun pc => sv_lk pc []
set_option maxRecDepth 20000 in
theorem e_Mo_isOf_19 (x0 : Int32) (x1 : Int32) (σ : sv_S) : sv_ex ev_Mo_isOf sv_rZ (kk_Mo_isOf_19) cd_Mo_isOf 23 19 [some (.inl x0), some (.inl x1)] [] σ = f_Mo_isOf_19 x0 x1 σ := by
  unfold f_Mo_isOf_19
  delta ev_Mo_isOf kk_Mo_isOf_19
  rfl
noncomputable def kk_Mo_isOf : sv_K (Int32 × sv_S) := fun pc => sv_lk pc [(19, fun lo st σ => match lo, st with
    | [some (.inl x0), some (.inl x1)], [] => f_Mo_isOf_19 x0 x1 σ
    | _, _ => none)]
set_option maxRecDepth 20000 in
theorem e_Mo_isOf (a0 : Int32) (a1 : Int32) (σ : sv_S) : sv_ex ev_Mo_isOf sv_rZ kk_Mo_isOf cd_Mo_isOf 23 0 [some (.inl a0), some (.inl a1)] [] σ = f_Mo_isOf a0 a1 σ := by
  unfold f_Mo_isOf
  delta ev_Mo_isOf kk_Mo_isOf
  generalize f_Mo_isOf_19 = c0
  rfl
theorem d_Mo_isOf : cd_Mo_isOf.all (sv_dk cX12_isOf) = true := by decide +kernel
set_option maxRecDepth 20000 in
theorem w_Mo_isOf_19 {Γ : sv_Ga} {res : Int32 × sv_S} (X : sv_Ok Γ ev_Mo_isOf cX12_isOf sv_rZ res) : ∀ (x0 : Int32) (x1 : Int32) (σ : sv_S), f_Mo_isOf_19 x0 x1 σ = some res → sv_T Γ 19 [some (.inl x0), some (.inl x1)] [] σ := by
  intro x0 x1 σ h
  refine sv_run X d_Mo_isOf (K := kk_Mo_isOf_19) (sv_lk_all (P := fun pc (k : sv_Lo → List sv_V → sv_S → Option (Int32 × sv_S)) => ∀ lo st σ, k lo st σ = some res → sv_T Γ pc lo st σ) ?_) _ _ _ _ _ ((e_Mo_isOf_19 x0 x1 σ).trans h)
  clear h
  exact fun _ h => absurd h List.not_mem_nil

set_option maxRecDepth 20000 in
theorem b_Mo_isOf (Γ : sv_Ga) (res : Int32 × sv_S) (X : sv_Ok Γ ev_Mo_isOf cX12_isOf sv_rZ res) (as : List sv_V) (σ : sv_S) (h : n_Mo_isOf as σ = some res) : sv_T Γ 0 (sv_e0 2 as) [] σ := by
  unfold n_Mo_isOf at h
  split at h
  · refine sv_run X d_Mo_isOf (K := kk_Mo_isOf) (sv_lk_all (P := fun pc (k : sv_Lo → List sv_V → sv_S → Option (Int32 × sv_S)) => ∀ lo st σ, k lo st σ = some res → sv_T Γ pc lo st σ) ?_) _ _ _ _ _ ((e_Mo_isOf _ _ _).trans h)
    clear h
    refine List.forall_mem_cons.mpr ⟨fun lo st σ h => ?_, fun _ h => absurd h List.not_mem_nil⟩
    · dsimp only at h
      split at h
      · exact w_Mo_isOf_19 X _ _ _ h
      · cases h
  · cases h
theorem a_Mo_isOf (as : List sv_V) (σ : sv_S) (x : Int32 × sv_S) (h : n_Mo_isOf as σ = some x) : sv_args 2 ev_Mo_isOf.2.2.2.1 as := by
  unfold n_Mo_isOf at h
  split at h
  · exact ⟨Nat.le_of_ble_eq_true rfl, fun _ v hv => by
      simp only [List.mem_cons, List.not_mem_nil, or_false] at hv
      rcases hv with rfl | rfl <;> trivial⟩
  · cases h

set_option maxRecDepth 20000 in
theorem m_Mo_isOf (l : Launch) : sv_M l yX12_isOf cX12_isOf 2 (some .boolean) (sv_gI n_Mo_isOf) 0 := by
  refine sv_mZ (E := ev_Mo_isOf) (by decide +kernel) (ln_gen fk_12 kk_12 (sv_ns _ (fun _ => rfl) _)) ?_ a_Mo_isOf b_Mo_isOf
  intro p e R s m args below meth c cells slots Q base ad dC dI cA n0 S hkn hR hf pc n f h
  refine sv_lk_all (P := fun pc (x : Nat × sv_F) => sv_cok p l e R s m args below meth c cells slots Q base ad dC dI cA true 2 n0 pc x.1 x.2) ?_ pc (n, f) h
  exact fun _ h => absurd h List.not_mem_nil
noncomputable def f_Mo_as (a1 : Int32) (a2 : Int32) (σ : sv_S) : Option (Int32 × sv_S) :=
  sv_b (f_Mo_isDrummer a1 σ) (fun v1 σ2 =>
    sv_if (v1 = 0)
      (some ((-1000000001 : Int32), σ2))
      (sv_b (f_Mo_isIn (a2.toInt64) (0 : Int64) (5 : Int64) σ2) (fun v3 σ4 =>
        sv_if (v3 = 0)
          (some ((-1000000001 : Int32), σ4))
          (sv_b (f_Mo_of a1 (0 : Int32) σ4) (fun v5 σ6 =>
            sv_b (f_Mo_isOf v5 a2 σ6) (fun v7 σ8 =>
              sv_if (v7 = 0)
                (some ((-1000000012 : Int32), σ8))
                (sv_b (f_Mo_of a1 (1 : Int32) σ8) (fun v9 σ10 =>
                  some (v9, σ10)))))))))
noncomputable def n_Mo_as : List sv_V → sv_S → Option (Int32 × sv_S)
  | [.inr (.inr (some (30, 0))), .inl a1, .inl a2], σ => f_Mo_as a1 a2 σ
  | _, _ => none
def cd_Mo_as : sv_C := [(0, (.aload_n 0, (sv_N, (1, (0, []))))), (1, (.iload_n 1, (sv_N, (2, (0, []))))), (2, (.invokevirtual 113, (sv_N, (5, (0, []))))), (5, (.ifCond .eq 15, (sv_N, (8, (20, []))))), (8, (.iload_n 2, (sv_N, (9, (0, []))))), (9, (.i2l, (sv_N, (10, (0, []))))), (10, (.lconst 0, (.inr (.inl (0 : Int64)), (11, (0, []))))), (11, (.ldc2_w 80, (sv_N, (14, (0, []))))), (14, (.invokestatic 71, (sv_N, (17, (0, []))))), (17, (.ifCond .ne 6, (sv_N, (20, (23, []))))), (20, (.ldc 84, (sv_N, (22, (0, []))))), (22, (.ireturn, (sv_N, (23, (0, []))))), (23, (.aload_n 0, (sv_N, (24, (0, []))))), (24, (.iload_n 1, (sv_N, (25, (0, []))))), (25, (.iconst 0, (.inl (0 : Int32), (26, (0, []))))), (26, (.invokevirtual 90, (sv_N, (29, (0, []))))), (29, (.iload_n 2, (sv_N, (30, (0, []))))), (30, (.invokestatic 129, (sv_N, (33, (0, []))))), (33, (.ifCond .eq 12, (sv_N, (36, (45, []))))), (36, (.aload_n 0, (sv_N, (37, (0, []))))), (37, (.iload_n 1, (sv_N, (38, (0, []))))), (38, (.iconst 1, (.inl (1 : Int32), (39, (0, []))))), (39, (.invokevirtual 90, (sv_N, (42, (0, []))))), (42, (.goto 5, (sv_N, (45, (47, []))))), (45, (.ldc 133, (sv_N, (47, (0, []))))), (47, (.ireturn, (sv_N, (48, (0, [])))))]
noncomputable def ev_Mo_as : sv_E := (fun i => sv_lk i fl_12, (fun i => sv_lk i kc_12, (fun _ => false, (true, fun pc => sv_lk pc [(2, (2, .inl n_Mo_isDrummer)), (14, (3, .inl n_Mo_isIn)), (26, (3, .inl n_Mo_of)), (30, (2, .inl n_Mo_isOf)), (39, (3, .inl n_Mo_of))]))))
noncomputable def kk_Mo_as : sv_K (Int32 × sv_S) := fun pc => sv_lk pc []
set_option maxRecDepth 20000 in
theorem e_Mo_as (a1 : Int32) (a2 : Int32) (σ : sv_S) : sv_ex ev_Mo_as sv_rI kk_Mo_as cd_Mo_as 28 0 [some (.inr (.inr (some (30, 0)))), some (.inl a1), some (.inl a2)] [] σ = f_Mo_as a1 a2 σ := by
  unfold f_Mo_as
  delta ev_Mo_as kk_Mo_as n_Mo_isDrummer n_Mo_isIn n_Mo_of n_Mo_isOf
  generalize f_Mo_isDrummer = c0
  generalize f_Mo_isIn = c1
  generalize f_Mo_of = c2
  generalize f_Mo_isOf = c3
  rfl
theorem d_Mo_as : cd_Mo_as.all (sv_dk cX12_as) = true := by decide +kernel
set_option maxRecDepth 20000 in
theorem b_Mo_as (Γ : sv_Ga) (res : Int32 × sv_S) (X : sv_Ok Γ ev_Mo_as cX12_as sv_rI res) (as : List sv_V) (σ : sv_S) (h : n_Mo_as as σ = some res) : sv_T Γ 0 (sv_e0 3 as) [] σ := by
  unfold n_Mo_as at h
  split at h
  · refine sv_run X d_Mo_as (K := kk_Mo_as) (sv_lk_all (P := fun pc (k : sv_Lo → List sv_V → sv_S → Option (Int32 × sv_S)) => ∀ lo st σ, k lo st σ = some res → sv_T Γ pc lo st σ) ?_) _ _ _ _ _ ((e_Mo_as _ _ _).trans h)
    clear h
    exact fun _ h => absurd h List.not_mem_nil
  · cases h
theorem a_Mo_as (as : List sv_V) (σ : sv_S) (x : Int32 × sv_S) (h : n_Mo_as as σ = some x) : sv_args 3 ev_Mo_as.2.2.2.1 as := by
  unfold n_Mo_as at h
  split at h
  · exact ⟨Nat.le_of_ble_eq_true rfl, fun _ v hv => by
      simp only [List.mem_cons, List.not_mem_nil, or_false] at hv
      rcases hv with rfl | rfl | rfl <;> trivial⟩
  · cases h
theorem g_Mo_as (as : List sv_V) (σ : sv_S) (x : Option sv_V × sv_S) (h : sv_gI n_Mo_as as σ = some x) : ∃ r i as', as = sv_R r i :: as' ∧ sv_kd r i = .inl 12 := by
  obtain ⟨_, _, h, -⟩ := sv_b_some h
  unfold n_Mo_as at h
  split at h
  · exact ⟨_, _, _, rfl, rfl⟩
  · cases h
theorem tw_1175 : Cond.methodLink RX12 129 yX12_isOf ∈ gw_tbl := gw_at 1175 (by decide +kernel) rfl
theorem tw_1176 : Cond.static yX12_isOf ∈ gw_tbl := gw_at 1176 (by decide +kernel) rfl
theorem tw_1177 : Cond.code yX12_isOf cX12_isOf 2 (some .boolean) ∈ gw_tbl := gw_at 1177 (by decide +kernel) rfl
set_option maxRecDepth 20000 in
theorem m_Mo_as (l : Launch) : sv_M l yX12_as cX12_as 3 (some .int) (sv_gI n_Mo_as) 2 := by
  refine sv_mI (E := ev_Mo_as) (by decide +kernel) (ln_gen fk_12 kk_12 (sv_ns _ (fun _ => rfl) _)) ?_ a_Mo_as b_Mo_as
  intro p e R s m args below meth c cells slots Q base ad dC dI cA n0 S hkn hR hf pc n f h
  refine sv_lk_all (P := fun pc (x : Nat × sv_F) => sv_cok p l e R s m args below meth c cells slots Q base ad dC dI cA true 3 n0 pc x.1 x.2) ?_ pc (n, f) h
  exact List.forall_mem_cons.mpr ⟨(sv_cV S hkn (m_Mo_isDrummer l) ⟨Nat.le_trans (by decide) hR.1, Nat.le_trans (by decide) hR.2⟩ (by decide) hf rfl g_Mo_isDrummer (sv_w5 tw_1116 tw_1118 tw_9 tw_65 tw_1119) (by decide +kernel) (sv_dc3 d_Mo_as (pc := 2) rfl rfl)).I,
      List.forall_mem_cons.mpr ⟨(sv_cS S hkn (m_Mo_isIn l) ⟨Nat.le_trans (by decide) hR.1, Nat.le_trans (by decide) hR.2⟩ (by decide) hf (sv_w4 tw_1098 tw_1099 tw_65 tw_1100) (by decide +kernel) (sv_dc3 d_Mo_as (pc := 14) rfl rfl)).I,
      List.forall_mem_cons.mpr ⟨(sv_cV S hkn (m_Mo_of l) ⟨Nat.le_trans (by decide) hR.1, Nat.le_trans (by decide) hR.2⟩ (by decide) hf rfl g_Mo_of (sv_w5 tw_1120 tw_1122 tw_10 tw_65 tw_1123) (by decide +kernel) (sv_dc3 d_Mo_as (pc := 26) rfl rfl)).I,
      List.forall_mem_cons.mpr ⟨(sv_cS S hkn (m_Mo_isOf l) ⟨Nat.le_trans (by decide) hR.1, Nat.le_trans (by decide) hR.2⟩ (by decide) hf (sv_w4 tw_1175 tw_1176 tw_65 tw_1177) (by decide +kernel) (sv_dc3 d_Mo_as (pc := 30) rfl rfl)).I,
      List.forall_mem_cons.mpr ⟨(sv_cV S hkn (m_Mo_of l) ⟨Nat.le_trans (by decide) hR.1, Nat.le_trans (by decide) hR.2⟩ (by decide) hf rfl g_Mo_of (sv_w5 tw_1120 tw_1122 tw_10 tw_65 tw_1123) (by decide +kernel) (sv_dc3 d_Mo_as (pc := 39) rfl rfl)).I,
      fun _ h => absurd h List.not_mem_nil⟩⟩⟩⟩⟩
noncomputable def f_Mo_turns (a1 : Int32) (a2 : Int32) (σ : sv_S) : Option (Int32 × sv_S) :=
  sv_b (f_Mo_isDrummer a1 σ) (fun v1 σ2 =>
    sv_if (v1 = 0)
      (some ((-1000000001 : Int32), σ2))
      (sv_b (f_Mo_isIn (a2.toInt64) (0 : Int64) (5 : Int64) σ2) (fun v3 σ4 =>
        sv_if (v3 = 0)
          (some ((-1000000001 : Int32), σ4))
          (sv_b (f_Mo_becomes ((6 : Int32) + ((8 : Int32) * a1)) a2 σ4) (fun v5 σ6 =>
            some (v5, σ6))))))
noncomputable def n_Mo_turns : List sv_V → sv_S → Option (Int32 × sv_S)
  | [.inr (.inr (some (30, 0))), .inl a1, .inl a2], σ => f_Mo_turns a1 a2 σ
  | _, _ => none
def cd_Mo_turns : sv_C := [(0, (.aload_n 0, (sv_N, (1, (0, []))))), (1, (.iload_n 1, (sv_N, (2, (0, []))))), (2, (.invokevirtual 113, (sv_N, (5, (0, []))))), (5, (.ifCond .eq 30, (sv_N, (8, (35, []))))), (8, (.iload_n 2, (sv_N, (9, (0, []))))), (9, (.i2l, (sv_N, (10, (0, []))))), (10, (.lconst 0, (.inr (.inl (0 : Int64)), (11, (0, []))))), (11, (.ldc2_w 80, (sv_N, (14, (0, []))))), (14, (.invokestatic 71, (sv_N, (17, (0, []))))), (17, (.ifCond .eq 18, (sv_N, (20, (35, []))))), (20, (.aload_n 0, (sv_N, (21, (0, []))))), (21, (.bipush 6, (.inl (6 : Int32), (23, (0, []))))), (23, (.bipush 8, (.inl (8 : Int32), (25, (0, []))))), (25, (.iload_n 1, (sv_N, (26, (0, []))))), (26, (.imul, (sv_N, (27, (0, []))))), (27, (.iadd, (sv_N, (28, (0, []))))), (28, (.iload_n 2, (sv_N, (29, (0, []))))), (29, (.invokevirtual 134, (sv_N, (32, (0, []))))), (32, (.goto 5, (sv_N, (35, (37, []))))), (35, (.ldc 84, (sv_N, (37, (0, []))))), (37, (.ireturn, (sv_N, (38, (0, [])))))]
noncomputable def ev_Mo_turns : sv_E := (fun i => sv_lk i fl_12, (fun i => sv_lk i kc_12, (fun _ => false, (true, fun pc => sv_lk pc [(2, (2, .inl n_Mo_isDrummer)), (14, (3, .inl n_Mo_isIn)), (29, (3, .inl n_Mo_becomes))]))))
noncomputable def kk_Mo_turns : sv_K (Int32 × sv_S) := fun pc => sv_lk pc []
set_option maxRecDepth 20000 in
theorem e_Mo_turns (a1 : Int32) (a2 : Int32) (σ : sv_S) : sv_ex ev_Mo_turns sv_rI kk_Mo_turns cd_Mo_turns 23 0 [some (.inr (.inr (some (30, 0)))), some (.inl a1), some (.inl a2)] [] σ = f_Mo_turns a1 a2 σ := by
  unfold f_Mo_turns
  delta ev_Mo_turns kk_Mo_turns n_Mo_isDrummer n_Mo_isIn n_Mo_becomes
  generalize f_Mo_isDrummer = c0
  generalize f_Mo_isIn = c1
  generalize f_Mo_becomes = c2
  rfl
theorem d_Mo_turns : cd_Mo_turns.all (sv_dk cX12_turns) = true := by decide +kernel
set_option maxRecDepth 20000 in
theorem b_Mo_turns (Γ : sv_Ga) (res : Int32 × sv_S) (X : sv_Ok Γ ev_Mo_turns cX12_turns sv_rI res) (as : List sv_V) (σ : sv_S) (h : n_Mo_turns as σ = some res) : sv_T Γ 0 (sv_e0 3 as) [] σ := by
  unfold n_Mo_turns at h
  split at h
  · refine sv_run X d_Mo_turns (K := kk_Mo_turns) (sv_lk_all (P := fun pc (k : sv_Lo → List sv_V → sv_S → Option (Int32 × sv_S)) => ∀ lo st σ, k lo st σ = some res → sv_T Γ pc lo st σ) ?_) _ _ _ _ _ ((e_Mo_turns _ _ _).trans h)
    clear h
    exact fun _ h => absurd h List.not_mem_nil
  · cases h
theorem a_Mo_turns (as : List sv_V) (σ : sv_S) (x : Int32 × sv_S) (h : n_Mo_turns as σ = some x) : sv_args 3 ev_Mo_turns.2.2.2.1 as := by
  unfold n_Mo_turns at h
  split at h
  · exact ⟨Nat.le_of_ble_eq_true rfl, fun _ v hv => by
      simp only [List.mem_cons, List.not_mem_nil, or_false] at hv
      rcases hv with rfl | rfl | rfl <;> trivial⟩
  · cases h
theorem g_Mo_turns (as : List sv_V) (σ : sv_S) (x : Option sv_V × sv_S) (h : sv_gI n_Mo_turns as σ = some x) : ∃ r i as', as = sv_R r i :: as' ∧ sv_kd r i = .inl 12 := by
  obtain ⟨_, _, h, -⟩ := sv_b_some h
  unfold n_Mo_turns at h
  split at h
  · exact ⟨_, _, _, rfl, rfl⟩
  · cases h
theorem tw_21 : Cond.selects RX12 yX12_becomes yX12_becomes ∈ gw_tbl := gw_at 21 (by decide +kernel) rfl
theorem tw_1183 : Cond.methodLink RX12 134 yX12_becomes ∈ gw_tbl := gw_at 1183 (by decide +kernel) rfl
theorem tw_1185 : Cond.instanceMethod yX12_becomes ∈ gw_tbl := gw_at 1185 (by decide +kernel) rfl
theorem tw_1186 : Cond.code yX12_becomes cX12_becomes 4 (some .int) ∈ gw_tbl := gw_at 1186 (by decide +kernel) rfl
set_option maxRecDepth 20000 in
theorem m_Mo_turns (l : Launch) : sv_M l yX12_turns cX12_turns 3 (some .int) (sv_gI n_Mo_turns) 2 := by
  refine sv_mI (E := ev_Mo_turns) (by decide +kernel) (ln_gen fk_12 kk_12 (sv_ns _ (fun _ => rfl) _)) ?_ a_Mo_turns b_Mo_turns
  intro p e R s m args below meth c cells slots Q base ad dC dI cA n0 S hkn hR hf pc n f h
  refine sv_lk_all (P := fun pc (x : Nat × sv_F) => sv_cok p l e R s m args below meth c cells slots Q base ad dC dI cA true 3 n0 pc x.1 x.2) ?_ pc (n, f) h
  exact List.forall_mem_cons.mpr ⟨(sv_cV S hkn (m_Mo_isDrummer l) ⟨Nat.le_trans (by decide) hR.1, Nat.le_trans (by decide) hR.2⟩ (by decide) hf rfl g_Mo_isDrummer (sv_w5 tw_1116 tw_1118 tw_9 tw_65 tw_1119) (by decide +kernel) (sv_dc3 d_Mo_turns (pc := 2) rfl rfl)).I,
      List.forall_mem_cons.mpr ⟨(sv_cS S hkn (m_Mo_isIn l) ⟨Nat.le_trans (by decide) hR.1, Nat.le_trans (by decide) hR.2⟩ (by decide) hf (sv_w4 tw_1098 tw_1099 tw_65 tw_1100) (by decide +kernel) (sv_dc3 d_Mo_turns (pc := 14) rfl rfl)).I,
      List.forall_mem_cons.mpr ⟨(sv_cV S hkn (m_Mo_becomes l) ⟨Nat.le_trans (by decide) hR.1, Nat.le_trans (by decide) hR.2⟩ (by decide) hf rfl g_Mo_becomes (sv_w5 tw_1183 tw_1185 tw_21 tw_65 tw_1186) (by decide +kernel) (sv_dc3 d_Mo_turns (pc := 29) rfl rfl)).I,
      fun _ h => absurd h List.not_mem_nil⟩⟩⟩
noncomputable def f_Mo_set (a1 : Int32) (a2 : Int32) (a3 : Int32) (σ : sv_S) : Option (Int32 × sv_S) :=
  sv_b (f_Mo_isDrummer a1 σ) (fun v1 σ2 =>
    sv_if (v1 = 0)
      (some ((-1000000001 : Int32), σ2))
      (sv_if (a2.toInt = 1)
        (sv_b (f_Mo_isIn (a3.toInt64) (1 : Int64) (9 : Int64) σ2) (fun v3 σ4 =>
          sv_if (v3 = 0)
            (some ((-1000000001 : Int32), σ4))
            (sv_b (f_Mo_becomes (((6 : Int32) + ((8 : Int32) * a1)) + (1 : Int32)) a3 σ4) (fun v5 σ6 =>
              some (v5, σ6)))))
        (sv_if (a2.toInt = 2)
        (sv_b (f_Mo_isIn (a3.toInt64) (0 : Int64) (9 : Int64) σ2) (fun v7 σ8 =>
          sv_if (v7 = 0)
            (some ((-1000000001 : Int32), σ8))
            (sv_b (f_Mo_becomes (((6 : Int32) + ((8 : Int32) * a1)) + (2 : Int32)) a3 σ8) (fun v9 σ10 =>
              some (v9, σ10)))))
        (sv_if (a2.toInt = 3)
        (sv_b (f_Mo_isIn (a3.toInt64) (1 : Int64) (3 : Int64) σ2) (fun v11 σ12 =>
          sv_if (v11 = 0)
            (some ((-1000000001 : Int32), σ12))
            (sv_b (f_Mo_becomes (((6 : Int32) + ((8 : Int32) * a1)) + (7 : Int32)) a3 σ12) (fun v13 σ14 =>
              some (v13, σ14)))))
        (some ((-1000000001 : Int32), σ2))))))
noncomputable def n_Mo_set : List sv_V → sv_S → Option (Int32 × sv_S)
  | [.inr (.inr (some (30, 0))), .inl a1, .inl a2, .inl a3], σ => f_Mo_set a1 a2 a3 σ
  | _, _ => none
def cd_Mo_set : sv_C := [(0, (.aload_n 0, (sv_N, (1, (0, []))))), (1, (.iload_n 1, (sv_N, (2, (0, []))))), (2, (.invokevirtual 113, (sv_N, (5, (0, []))))), (5, (.ifCond .ne 6, (sv_N, (8, (11, []))))), (8, (.ldc 84, (sv_N, (10, (0, []))))), (10, (.ireturn, (sv_N, (11, (0, []))))), (11, (.iload_n 2, (sv_N, (12, (0, []))))), (12, (.tableswitch 125 1 3 #[28, 60, 92], (sv_N, (12, (137, [(1, 40), (2, 72), (3, 104)]))))), (40, (.iload_n 3, (sv_N, (41, (0, []))))), (41, (.i2l, (sv_N, (42, (0, []))))), (42, (.lconst 1, (.inr (.inl (1 : Int64)), (43, (0, []))))), (43, (.ldc2_w 82, (sv_N, (46, (0, []))))), (46, (.invokestatic 71, (sv_N, (49, (0, []))))), (49, (.ifCond .eq 20, (sv_N, (52, (69, []))))), (52, (.aload_n 0, (sv_N, (53, (0, []))))), (53, (.bipush 6, (.inl (6 : Int32), (55, (0, []))))), (55, (.bipush 8, (.inl (8 : Int32), (57, (0, []))))), (57, (.iload_n 1, (sv_N, (58, (0, []))))), (58, (.imul, (sv_N, (59, (0, []))))), (59, (.iadd, (sv_N, (60, (0, []))))), (60, (.iconst 1, (.inl (1 : Int32), (61, (0, []))))), (61, (.iadd, (sv_N, (62, (0, []))))), (62, (.iload_n 3, (sv_N, (63, (0, []))))), (63, (.invokevirtual 134, (sv_N, (66, (0, []))))), (66, (.goto 5, (sv_N, (69, (71, []))))), (69, (.ldc 84, (sv_N, (71, (0, []))))), (71, (.ireturn, (sv_N, (72, (0, []))))), (72, (.iload_n 3, (sv_N, (73, (0, []))))), (73, (.i2l, (sv_N, (74, (0, []))))), (74, (.lconst 0, (.inr (.inl (0 : Int64)), (75, (0, []))))), (75, (.ldc2_w 82, (sv_N, (78, (0, []))))), (78, (.invokestatic 71, (sv_N, (81, (0, []))))), (81, (.ifCond .eq 20, (sv_N, (84, (101, []))))), (84, (.aload_n 0, (sv_N, (85, (0, []))))), (85, (.bipush 6, (.inl (6 : Int32), (87, (0, []))))), (87, (.bipush 8, (.inl (8 : Int32), (89, (0, []))))), (89, (.iload_n 1, (sv_N, (90, (0, []))))), (90, (.imul, (sv_N, (91, (0, []))))), (91, (.iadd, (sv_N, (92, (0, []))))), (92, (.iconst 2, (.inl (2 : Int32), (93, (0, []))))), (93, (.iadd, (sv_N, (94, (0, []))))), (94, (.iload_n 3, (sv_N, (95, (0, []))))), (95, (.invokevirtual 134, (sv_N, (98, (0, []))))), (98, (.goto 5, (sv_N, (101, (103, []))))), (101, (.ldc 84, (sv_N, (103, (0, []))))), (103, (.ireturn, (sv_N, (104, (0, []))))), (104, (.iload_n 3, (sv_N, (105, (0, []))))), (105, (.i2l, (sv_N, (106, (0, []))))), (106, (.lconst 1, (.inr (.inl (1 : Int64)), (107, (0, []))))), (107, (.ldc2_w 137, (sv_N, (110, (0, []))))), (110, (.invokestatic 71, (sv_N, (113, (0, []))))), (113, (.ifCond .eq 21, (sv_N, (116, (134, []))))), (116, (.aload_n 0, (sv_N, (117, (0, []))))), (117, (.bipush 6, (.inl (6 : Int32), (119, (0, []))))), (119, (.bipush 8, (.inl (8 : Int32), (121, (0, []))))), (121, (.iload_n 1, (sv_N, (122, (0, []))))), (122, (.imul, (sv_N, (123, (0, []))))), (123, (.iadd, (sv_N, (124, (0, []))))), (124, (.bipush 7, (.inl (7 : Int32), (126, (0, []))))), (126, (.iadd, (sv_N, (127, (0, []))))), (127, (.iload_n 3, (sv_N, (128, (0, []))))), (128, (.invokevirtual 134, (sv_N, (131, (0, []))))), (131, (.goto 5, (sv_N, (134, (136, []))))), (134, (.ldc 84, (sv_N, (136, (0, []))))), (136, (.ireturn, (sv_N, (137, (0, []))))), (137, (.ldc 84, (sv_N, (139, (0, []))))), (139, (.ireturn, (sv_N, (140, (0, [])))))]
noncomputable def ev_Mo_set : sv_E := (fun i => sv_lk i fl_12, (fun i => sv_lk i kc_12, (fun _ => false, (true, fun pc => sv_lk pc [(2, (2, .inl n_Mo_isDrummer)), (46, (3, .inl n_Mo_isIn)), (63, (3, .inl n_Mo_becomes)), (78, (3, .inl n_Mo_isIn)), (95, (3, .inl n_Mo_becomes)), (110, (3, .inl n_Mo_isIn)), (128, (3, .inl n_Mo_becomes))]))))
noncomputable def kk_Mo_set : sv_K (Int32 × sv_S) := fun pc => sv_lk pc []
set_option maxRecDepth 20000 in
theorem e_Mo_set (a1 : Int32) (a2 : Int32) (a3 : Int32) (σ : sv_S) : sv_ex ev_Mo_set sv_rI kk_Mo_set cd_Mo_set 69 0 [some (.inr (.inr (some (30, 0)))), some (.inl a1), some (.inl a2), some (.inl a3)] [] σ = f_Mo_set a1 a2 a3 σ := by
  unfold f_Mo_set
  delta ev_Mo_set kk_Mo_set n_Mo_isDrummer n_Mo_isIn n_Mo_becomes
  generalize f_Mo_isDrummer = c0
  generalize f_Mo_isIn = c1
  generalize f_Mo_becomes = c2
  rfl
theorem d_Mo_set : cd_Mo_set.all (sv_dk cX12_set) = true := by decide +kernel
set_option maxRecDepth 20000 in
theorem b_Mo_set (Γ : sv_Ga) (res : Int32 × sv_S) (X : sv_Ok Γ ev_Mo_set cX12_set sv_rI res) (as : List sv_V) (σ : sv_S) (h : n_Mo_set as σ = some res) : sv_T Γ 0 (sv_e0 4 as) [] σ := by
  unfold n_Mo_set at h
  split at h
  · refine sv_run X d_Mo_set (K := kk_Mo_set) (sv_lk_all (P := fun pc (k : sv_Lo → List sv_V → sv_S → Option (Int32 × sv_S)) => ∀ lo st σ, k lo st σ = some res → sv_T Γ pc lo st σ) ?_) _ _ _ _ _ ((e_Mo_set _ _ _ _).trans h)
    clear h
    exact fun _ h => absurd h List.not_mem_nil
  · cases h
theorem a_Mo_set (as : List sv_V) (σ : sv_S) (x : Int32 × sv_S) (h : n_Mo_set as σ = some x) : sv_args 4 ev_Mo_set.2.2.2.1 as := by
  unfold n_Mo_set at h
  split at h
  · exact ⟨Nat.le_of_ble_eq_true rfl, fun _ v hv => by
      simp only [List.mem_cons, List.not_mem_nil, or_false] at hv
      rcases hv with rfl | rfl | rfl | rfl <;> trivial⟩
  · cases h
theorem g_Mo_set (as : List sv_V) (σ : sv_S) (x : Option sv_V × sv_S) (h : sv_gI n_Mo_set as σ = some x) : ∃ r i as', as = sv_R r i :: as' ∧ sv_kd r i = .inl 12 := by
  obtain ⟨_, _, h, -⟩ := sv_b_some h
  unfold n_Mo_set at h
  split at h
  · exact ⟨_, _, _, rfl, rfl⟩
  · cases h

set_option maxRecDepth 20000 in
theorem m_Mo_set (l : Launch) : sv_M l yX12_set cX12_set 4 (some .int) (sv_gI n_Mo_set) 2 := by
  refine sv_mI (E := ev_Mo_set) (by decide +kernel) (ln_gen fk_12 kk_12 (sv_ns _ (fun _ => rfl) _)) ?_ a_Mo_set b_Mo_set
  intro p e R s m args below meth c cells slots Q base ad dC dI cA n0 S hkn hR hf pc n f h
  refine sv_lk_all (P := fun pc (x : Nat × sv_F) => sv_cok p l e R s m args below meth c cells slots Q base ad dC dI cA true 4 n0 pc x.1 x.2) ?_ pc (n, f) h
  exact List.forall_mem_cons.mpr ⟨(sv_cV S hkn (m_Mo_isDrummer l) ⟨Nat.le_trans (by decide) hR.1, Nat.le_trans (by decide) hR.2⟩ (by decide) hf rfl g_Mo_isDrummer (sv_w5 tw_1116 tw_1118 tw_9 tw_65 tw_1119) (by decide +kernel) (sv_dc3 d_Mo_set (pc := 2) rfl rfl)).I,
      List.forall_mem_cons.mpr ⟨(sv_cS S hkn (m_Mo_isIn l) ⟨Nat.le_trans (by decide) hR.1, Nat.le_trans (by decide) hR.2⟩ (by decide) hf (sv_w4 tw_1098 tw_1099 tw_65 tw_1100) (by decide +kernel) (sv_dc3 d_Mo_set (pc := 46) rfl rfl)).I,
      List.forall_mem_cons.mpr ⟨(sv_cV S hkn (m_Mo_becomes l) ⟨Nat.le_trans (by decide) hR.1, Nat.le_trans (by decide) hR.2⟩ (by decide) hf rfl g_Mo_becomes (sv_w5 tw_1183 tw_1185 tw_21 tw_65 tw_1186) (by decide +kernel) (sv_dc3 d_Mo_set (pc := 63) rfl rfl)).I,
      List.forall_mem_cons.mpr ⟨(sv_cS S hkn (m_Mo_isIn l) ⟨Nat.le_trans (by decide) hR.1, Nat.le_trans (by decide) hR.2⟩ (by decide) hf (sv_w4 tw_1098 tw_1099 tw_65 tw_1100) (by decide +kernel) (sv_dc3 d_Mo_set (pc := 78) rfl rfl)).I,
      List.forall_mem_cons.mpr ⟨(sv_cV S hkn (m_Mo_becomes l) ⟨Nat.le_trans (by decide) hR.1, Nat.le_trans (by decide) hR.2⟩ (by decide) hf rfl g_Mo_becomes (sv_w5 tw_1183 tw_1185 tw_21 tw_65 tw_1186) (by decide +kernel) (sv_dc3 d_Mo_set (pc := 95) rfl rfl)).I,
      List.forall_mem_cons.mpr ⟨(sv_cS S hkn (m_Mo_isIn l) ⟨Nat.le_trans (by decide) hR.1, Nat.le_trans (by decide) hR.2⟩ (by decide) hf (sv_w4 tw_1098 tw_1099 tw_65 tw_1100) (by decide +kernel) (sv_dc3 d_Mo_set (pc := 110) rfl rfl)).I,
      List.forall_mem_cons.mpr ⟨(sv_cV S hkn (m_Mo_becomes l) ⟨Nat.le_trans (by decide) hR.1, Nat.le_trans (by decide) hR.2⟩ (by decide) hf rfl g_Mo_becomes (sv_w5 tw_1183 tw_1185 tw_21 tw_65 tw_1186) (by decide +kernel) (sv_dc3 d_Mo_set (pc := 128) rfl rfl)).I,
      fun _ h => absurd h List.not_mem_nil⟩⟩⟩⟩⟩⟩⟩
noncomputable def f_Mo_miss (a1 : Int32) (σ : sv_S) : Option (Int32 × sv_S) :=
  sv_b (f_Mo_isIn (a1.toInt64) (0 : Int64) (100 : Int64) σ) (fun v1 σ2 =>
    sv_if (v1 = 0)
      (some ((-1000000001 : Int32), σ2))
      (sv_b (f_Mo_becomes (2 : Int32) a1 σ2) (fun v3 σ4 =>
        some (v3, σ4))))
noncomputable def n_Mo_miss : List sv_V → sv_S → Option (Int32 × sv_S)
  | [.inr (.inr (some (30, 0))), .inl a1], σ => f_Mo_miss a1 σ
  | _, _ => none
def cd_Mo_miss : sv_C := [(0, (.iload_n 1, (sv_N, (1, (0, []))))), (1, (.i2l, (sv_N, (2, (0, []))))), (2, (.lconst 0, (.inr (.inl (0 : Int64)), (3, (0, []))))), (3, (.ldc2_w 139, (sv_N, (6, (0, []))))), (6, (.invokestatic 71, (sv_N, (9, (0, []))))), (9, (.ifCond .eq 12, (sv_N, (12, (21, []))))), (12, (.aload_n 0, (sv_N, (13, (0, []))))), (13, (.iconst 2, (.inl (2 : Int32), (14, (0, []))))), (14, (.iload_n 1, (sv_N, (15, (0, []))))), (15, (.invokevirtual 134, (sv_N, (18, (0, []))))), (18, (.goto 5, (sv_N, (21, (23, []))))), (21, (.ldc 84, (sv_N, (23, (0, []))))), (23, (.ireturn, (sv_N, (24, (0, [])))))]
noncomputable def ev_Mo_miss : sv_E := (fun i => sv_lk i fl_12, (fun i => sv_lk i kc_12, (fun _ => false, (true, fun pc => sv_lk pc [(6, (3, .inl n_Mo_isIn)), (15, (3, .inl n_Mo_becomes))]))))
noncomputable def kk_Mo_miss : sv_K (Int32 × sv_S) := fun pc => sv_lk pc []
set_option maxRecDepth 20000 in
theorem e_Mo_miss (a1 : Int32) (σ : sv_S) : sv_ex ev_Mo_miss sv_rI kk_Mo_miss cd_Mo_miss 15 0 [some (.inr (.inr (some (30, 0)))), some (.inl a1)] [] σ = f_Mo_miss a1 σ := by
  unfold f_Mo_miss
  delta ev_Mo_miss kk_Mo_miss n_Mo_isIn n_Mo_becomes
  generalize f_Mo_isIn = c0
  generalize f_Mo_becomes = c1
  rfl
theorem d_Mo_miss : cd_Mo_miss.all (sv_dk cX12_miss) = true := by decide +kernel
set_option maxRecDepth 20000 in
theorem b_Mo_miss (Γ : sv_Ga) (res : Int32 × sv_S) (X : sv_Ok Γ ev_Mo_miss cX12_miss sv_rI res) (as : List sv_V) (σ : sv_S) (h : n_Mo_miss as σ = some res) : sv_T Γ 0 (sv_e0 2 as) [] σ := by
  unfold n_Mo_miss at h
  split at h
  · refine sv_run X d_Mo_miss (K := kk_Mo_miss) (sv_lk_all (P := fun pc (k : sv_Lo → List sv_V → sv_S → Option (Int32 × sv_S)) => ∀ lo st σ, k lo st σ = some res → sv_T Γ pc lo st σ) ?_) _ _ _ _ _ ((e_Mo_miss _ _).trans h)
    clear h
    exact fun _ h => absurd h List.not_mem_nil
  · cases h
theorem a_Mo_miss (as : List sv_V) (σ : sv_S) (x : Int32 × sv_S) (h : n_Mo_miss as σ = some x) : sv_args 2 ev_Mo_miss.2.2.2.1 as := by
  unfold n_Mo_miss at h
  split at h
  · exact ⟨Nat.le_of_ble_eq_true rfl, fun _ v hv => by
      simp only [List.mem_cons, List.not_mem_nil, or_false] at hv
      rcases hv with rfl | rfl <;> trivial⟩
  · cases h
theorem g_Mo_miss (as : List sv_V) (σ : sv_S) (x : Option sv_V × sv_S) (h : sv_gI n_Mo_miss as σ = some x) : ∃ r i as', as = sv_R r i :: as' ∧ sv_kd r i = .inl 12 := by
  obtain ⟨_, _, h, -⟩ := sv_b_some h
  unfold n_Mo_miss at h
  split at h
  · exact ⟨_, _, _, rfl, rfl⟩
  · cases h

set_option maxRecDepth 20000 in
theorem m_Mo_miss (l : Launch) : sv_M l yX12_miss cX12_miss 2 (some .int) (sv_gI n_Mo_miss) 1 := by
  refine sv_mI (E := ev_Mo_miss) (by decide +kernel) (ln_gen fk_12 kk_12 (sv_ns _ (fun _ => rfl) _)) ?_ a_Mo_miss b_Mo_miss
  intro p e R s m args below meth c cells slots Q base ad dC dI cA n0 S hkn hR hf pc n f h
  refine sv_lk_all (P := fun pc (x : Nat × sv_F) => sv_cok p l e R s m args below meth c cells slots Q base ad dC dI cA true 2 n0 pc x.1 x.2) ?_ pc (n, f) h
  exact List.forall_mem_cons.mpr ⟨(sv_cS S hkn (m_Mo_isIn l) ⟨Nat.le_trans (by decide) hR.1, Nat.le_trans (by decide) hR.2⟩ (by decide) hf (sv_w4 tw_1098 tw_1099 tw_65 tw_1100) (by decide +kernel) (sv_dc3 d_Mo_miss (pc := 6) rfl rfl)).I,
      List.forall_mem_cons.mpr ⟨(sv_cV S hkn (m_Mo_becomes l) ⟨Nat.le_trans (by decide) hR.1, Nat.le_trans (by decide) hR.2⟩ (by decide) hf rfl g_Mo_becomes (sv_w5 tw_1183 tw_1185 tw_21 tw_65 tw_1186) (by decide +kernel) (sv_dc3 d_Mo_miss (pc := 15) rfl rfl)).I,
      fun _ h => absurd h List.not_mem_nil⟩⟩
noncomputable def f_Mo_deal_17 : Nat → Int32 → Int32 → sv_S → Option (Int32 × sv_S)
  | 0, _, _, _ => none
  | n + 1, x1, x2, σ =>
    sv_if (x1 ≤ x2)
      (some (x2, σ))
      (sv_g (sv_in (0 : Int32) 3086) (sv_if ((10 : Int32) ≤ (σ 31 0 ((0 : Int32).toNatClampNeg)))
        (some (x2, σ))
        (sv_b (f_Mo_drawn σ) (fun v1 σ2 =>
          sv_g (¬ (6 : Int32) = 0) (sv_b (f_Mo_drawn σ2) (fun v3 σ4 =>
            sv_g (¬ (9 : Int32) = 0) (sv_b0 (f_Mo_comes (v1 - v1 / (6 : Int32) * (6 : Int32)) ((1 : Int32) + (v3 - v3 / (9 : Int32) * (9 : Int32))) σ4) (fun σ5 =>
              f_Mo_deal_17 n x1 (x2 + (1 : Int32)) σ5))))))))
noncomputable def f_Mo_deal (a1 : Int32) (σ : sv_S) : Option (Int32 × sv_S) :=
  sv_b (f_Mo_isIn (a1.toInt64) (1 : Int64) (10 : Int64) σ) (fun v1 σ2 =>
    sv_if (v1 = 0)
      (some ((-1000000001 : Int32), σ2))
      (f_Mo_deal_17 sv_fu a1 (0 : Int32) σ2))
noncomputable def n_Mo_deal : List sv_V → sv_S → Option (Int32 × sv_S)
  | [.inr (.inr (some (30, 0))), .inl a1], σ => f_Mo_deal a1 σ
  | _, _ => none
def cd_Mo_deal : sv_C := [(0, (.iload_n 1, (sv_N, (1, (0, []))))), (1, (.i2l, (sv_N, (2, (0, []))))), (2, (.lconst 1, (.inr (.inl (1 : Int64)), (3, (0, []))))), (3, (.ldc2_w 141, (sv_N, (6, (0, []))))), (6, (.invokestatic 71, (sv_N, (9, (0, []))))), (9, (.ifCond .ne 6, (sv_N, (12, (15, []))))), (12, (.ldc 84, (sv_N, (14, (0, []))))), (14, (.ireturn, (sv_N, (15, (0, []))))), (15, (.iconst 0, (.inl (0 : Int32), (16, (0, []))))), (16, (.istore_n 2, (sv_N, (17, (0, []))))), (17, (.iload_n 2, (sv_N, (18, (0, []))))), (18, (.iload_n 1, (sv_N, (19, (0, []))))), (19, (.if_icmp .ge 42, (sv_N, (22, (61, []))))), (22, (.aload_n 0, (sv_N, (23, (0, []))))), (23, (.getfield 7, (sv_N, (26, (0, []))))), (26, (.iconst 0, (.inl (0 : Int32), (27, (0, []))))), (27, (.iaload, (sv_N, (28, (0, []))))), (28, (.bipush 10, (.inl (10 : Int32), (30, (0, []))))), (30, (.if_icmp .ge 31, (sv_N, (33, (61, []))))), (33, (.aload_n 0, (sv_N, (34, (0, []))))), (34, (.invokevirtual 143, (sv_N, (37, (0, []))))), (37, (.bipush 6, (.inl (6 : Int32), (39, (0, []))))), (39, (.irem, (sv_N, (40, (0, []))))), (40, (.istore_n 3, (sv_N, (41, (0, []))))), (41, (.aload_n 0, (sv_N, (42, (0, []))))), (42, (.iload_n 3, (sv_N, (43, (0, []))))), (43, (.iconst 1, (.inl (1 : Int32), (44, (0, []))))), (44, (.aload_n 0, (sv_N, (45, (0, []))))), (45, (.invokevirtual 143, (sv_N, (48, (0, []))))), (48, (.bipush 9, (.inl (9 : Int32), (50, (0, []))))), (50, (.irem, (sv_N, (51, (0, []))))), (51, (.iadd, (sv_N, (52, (0, []))))), (52, (.invokevirtual 86, (sv_N, (55, (0, []))))), (55, (.iinc 2 1, (.inl (1 : Int32), (58, (0, []))))), (58, (.goto (-41), (sv_N, (61, (17, []))))), (61, (.iload_n 2, (sv_N, (62, (0, []))))), (62, (.ireturn, (sv_N, (63, (0, [])))))]
noncomputable def ev_Mo_deal : sv_E := (fun i => sv_lk i fl_12, (fun i => sv_lk i kc_12, (fun _ => false, (true, fun pc => sv_lk pc [(6, (3, .inl n_Mo_isIn)), (34, (1, .inl n_Mo_drawn)), (45, (1, .inl n_Mo_drawn)), (52, (3, .inr (.inl n_Mo_comes)))]))))
noncomputable def kk_Mo_deal_17 (n : Nat) : sv_K (Int32 × sv_S) := fun pc => sv_lk pc [(17, fun lo st σ => match lo, st with
    | [some (.inr (.inr (some (30, 0)))), some (.inl x1), some (.inl x2), _], [] => f_Mo_deal_17 n x1 x2 σ
    | _, _ => none)]
set_option maxRecDepth 20000 in
theorem e_Mo_deal_17 (n : Nat) (x1 : Int32) (x2 : Int32) (z3 : Option sv_V) (σ : sv_S) : sv_ex ev_Mo_deal sv_rI (kk_Mo_deal_17 n) cd_Mo_deal 39 17 [some (.inr (.inr (some (30, 0)))), some (.inl x1), some (.inl x2), z3] [] σ = f_Mo_deal_17 (n + 1) x1 x2 σ := by
  rw [f_Mo_deal_17.eq_2]
  delta ev_Mo_deal kk_Mo_deal_17 n_Mo_isIn n_Mo_drawn n_Mo_comes
  generalize f_Mo_isIn = c0
  generalize f_Mo_drawn = c1
  generalize f_Mo_comes = c2
  generalize f_Mo_deal_17 = c3
  rfl
noncomputable def kk_Mo_deal : sv_K (Int32 × sv_S) := fun pc => sv_lk pc [(17, fun lo st σ => match lo, st with
    | [some (.inr (.inr (some (30, 0)))), some (.inl x1), some (.inl x2), _], [] => f_Mo_deal_17 sv_fu x1 x2 σ
    | _, _ => none)]
set_option maxRecDepth 20000 in
theorem e_Mo_deal (a1 : Int32) (σ : sv_S) : sv_ex ev_Mo_deal sv_rI kk_Mo_deal cd_Mo_deal 39 0 [some (.inr (.inr (some (30, 0)))), some (.inl a1), none, none] [] σ = f_Mo_deal a1 σ := by
  unfold f_Mo_deal
  delta ev_Mo_deal kk_Mo_deal n_Mo_isIn n_Mo_drawn n_Mo_comes
  generalize f_Mo_isIn = c0
  generalize f_Mo_drawn = c1
  generalize f_Mo_comes = c2
  generalize f_Mo_deal_17 = c3
  rfl
theorem d_Mo_deal : cd_Mo_deal.all (sv_dk cX12_deal) = true := by decide +kernel
set_option maxRecDepth 20000 in
theorem w_Mo_deal_17 {Γ : sv_Ga} {res : Int32 × sv_S} (X : sv_Ok Γ ev_Mo_deal cX12_deal sv_rI res) : ∀ (n : Nat) (x1 : Int32) (x2 : Int32) (z3 : Option sv_V) (σ : sv_S), f_Mo_deal_17 n x1 x2 σ = some res → sv_T Γ 17 [some (.inr (.inr (some (30, 0)))), some (.inl x1), some (.inl x2), z3] [] σ := by
  intro n
  induction n with
  | zero =>
    intro x1 x2 z3 σ h
    rw [f_Mo_deal_17.eq_1] at h
    cases h
  | succ n ih =>
    intro x1 x2 z3 σ h
    refine sv_run X d_Mo_deal (K := kk_Mo_deal_17 n) (sv_lk_all (P := fun pc (k : sv_Lo → List sv_V → sv_S → Option (Int32 × sv_S)) => ∀ lo st σ, k lo st σ = some res → sv_T Γ pc lo st σ) ?_) _ _ _ _ _ ((e_Mo_deal_17 n x1 x2 z3 σ).trans h)
    clear h
    refine List.forall_mem_cons.mpr ⟨fun lo st σ h => ?_, fun _ h => absurd h List.not_mem_nil⟩
    · dsimp only at h
      split at h
      · exact ih _ _ _ _ h
      · cases h

set_option maxRecDepth 20000 in
theorem b_Mo_deal (Γ : sv_Ga) (res : Int32 × sv_S) (X : sv_Ok Γ ev_Mo_deal cX12_deal sv_rI res) (as : List sv_V) (σ : sv_S) (h : n_Mo_deal as σ = some res) : sv_T Γ 0 (sv_e0 4 as) [] σ := by
  unfold n_Mo_deal at h
  split at h
  · refine sv_run X d_Mo_deal (K := kk_Mo_deal) (sv_lk_all (P := fun pc (k : sv_Lo → List sv_V → sv_S → Option (Int32 × sv_S)) => ∀ lo st σ, k lo st σ = some res → sv_T Γ pc lo st σ) ?_) _ _ _ _ _ ((e_Mo_deal _ _).trans h)
    clear h
    refine List.forall_mem_cons.mpr ⟨fun lo st σ h => ?_, fun _ h => absurd h List.not_mem_nil⟩
    · dsimp only at h
      split at h
      · exact w_Mo_deal_17 X _ _ _ _ _ h
      · cases h
  · cases h
theorem a_Mo_deal (as : List sv_V) (σ : sv_S) (x : Int32 × sv_S) (h : n_Mo_deal as σ = some x) : sv_args 4 ev_Mo_deal.2.2.2.1 as := by
  unfold n_Mo_deal at h
  split at h
  · exact ⟨Nat.le_of_ble_eq_true rfl, fun _ v hv => by
      simp only [List.mem_cons, List.not_mem_nil, or_false] at hv
      rcases hv with rfl | rfl <;> trivial⟩
  · cases h
theorem g_Mo_deal (as : List sv_V) (σ : sv_S) (x : Option sv_V × sv_S) (h : sv_gI n_Mo_deal as σ = some x) : ∃ r i as', as = sv_R r i :: as' ∧ sv_kd r i = .inl 12 := by
  obtain ⟨_, _, h, -⟩ := sv_b_some h
  unfold n_Mo_deal at h
  split at h
  · exact ⟨_, _, _, rfl, rfl⟩
  · cases h
theorem tw_22 : Cond.selects RX12 yX12_drawn yX12_drawn ∈ gw_tbl := gw_at 22 (by decide +kernel) rfl
theorem tw_1202 : Cond.methodLink RX12 143 yX12_drawn ∈ gw_tbl := gw_at 1202 (by decide +kernel) rfl
theorem tw_1204 : Cond.instanceMethod yX12_drawn ∈ gw_tbl := gw_at 1204 (by decide +kernel) rfl
theorem tw_1205 : Cond.code yX12_drawn cX12_drawn 1 (some .int) ∈ gw_tbl := gw_at 1205 (by decide +kernel) rfl
set_option maxRecDepth 20000 in
theorem m_Mo_deal (l : Launch) : sv_M l yX12_deal cX12_deal 4 (some .int) (sv_gI n_Mo_deal) 2 := by
  refine sv_mI (E := ev_Mo_deal) (by decide +kernel) (ln_gen fk_12 kk_12 (sv_ns _ (fun _ => rfl) _)) ?_ a_Mo_deal b_Mo_deal
  intro p e R s m args below meth c cells slots Q base ad dC dI cA n0 S hkn hR hf pc n f h
  refine sv_lk_all (P := fun pc (x : Nat × sv_F) => sv_cok p l e R s m args below meth c cells slots Q base ad dC dI cA true 4 n0 pc x.1 x.2) ?_ pc (n, f) h
  exact List.forall_mem_cons.mpr ⟨(sv_cS S hkn (m_Mo_isIn l) ⟨Nat.le_trans (by decide) hR.1, Nat.le_trans (by decide) hR.2⟩ (by decide) hf (sv_w4 tw_1098 tw_1099 tw_65 tw_1100) (by decide +kernel) (sv_dc3 d_Mo_deal (pc := 6) rfl rfl)).I,
      List.forall_mem_cons.mpr ⟨(sv_cV S hkn (m_Mo_drawn l) ⟨Nat.le_trans (by decide) hR.1, Nat.le_trans (by decide) hR.2⟩ (by decide) hf rfl g_Mo_drawn (sv_w5 tw_1202 tw_1204 tw_22 tw_65 tw_1205) (by decide +kernel) (sv_dc3 d_Mo_deal (pc := 34) rfl rfl)).I,
      List.forall_mem_cons.mpr ⟨(sv_cV S hkn (m_Mo_drawn l) ⟨Nat.le_trans (by decide) hR.1, Nat.le_trans (by decide) hR.2⟩ (by decide) hf rfl g_Mo_drawn (sv_w5 tw_1202 tw_1204 tw_22 tw_65 tw_1205) (by decide +kernel) (sv_dc3 d_Mo_deal (pc := 45) rfl rfl)).I,
      List.forall_mem_cons.mpr ⟨(sv_cV S hkn (m_Mo_comes l) ⟨Nat.le_trans (by decide) hR.1, Nat.le_trans (by decide) hR.2⟩ (by decide) hf rfl g_Mo_comes (sv_w5 tw_1104 tw_1106 tw_7 tw_65 tw_1107) (by decide +kernel) (sv_dc3 d_Mo_deal (pc := 52) rfl rfl)).V,
      fun _ h => absurd h List.not_mem_nil⟩⟩⟩⟩
noncomputable def f_Mo_seed (a1 : Int32) (σ : sv_S) : Option (Int32 × sv_S) :=
  sv_b (f_Mo_becomes (4 : Int32) a1 σ) (fun v1 σ2 =>
    some (v1, σ2))
noncomputable def n_Mo_seed : List sv_V → sv_S → Option (Int32 × sv_S)
  | [.inr (.inr (some (30, 0))), .inl a1], σ => f_Mo_seed a1 σ
  | _, _ => none
def cd_Mo_seed : sv_C := [(0, (.aload_n 0, (sv_N, (1, (0, []))))), (1, (.iconst 4, (.inl (4 : Int32), (2, (0, []))))), (2, (.iload_n 1, (sv_N, (3, (0, []))))), (3, (.invokevirtual 134, (sv_N, (6, (0, []))))), (6, (.ireturn, (sv_N, (7, (0, [])))))]
noncomputable def ev_Mo_seed : sv_E := (fun i => sv_lk i fl_12, (fun i => sv_lk i kc_12, (fun _ => false, (true, fun pc => sv_lk pc [(3, (3, .inl n_Mo_becomes))]))))
noncomputable def kk_Mo_seed : sv_K (Int32 × sv_S) := fun pc => sv_lk pc []
set_option maxRecDepth 20000 in
theorem e_Mo_seed (a1 : Int32) (σ : sv_S) : sv_ex ev_Mo_seed sv_rI kk_Mo_seed cd_Mo_seed 7 0 [some (.inr (.inr (some (30, 0)))), some (.inl a1)] [] σ = f_Mo_seed a1 σ := by
  unfold f_Mo_seed
  delta ev_Mo_seed kk_Mo_seed n_Mo_becomes
  generalize f_Mo_becomes = c0
  rfl
theorem d_Mo_seed : cd_Mo_seed.all (sv_dk cX12_seed) = true := by decide +kernel
set_option maxRecDepth 20000 in
theorem b_Mo_seed (Γ : sv_Ga) (res : Int32 × sv_S) (X : sv_Ok Γ ev_Mo_seed cX12_seed sv_rI res) (as : List sv_V) (σ : sv_S) (h : n_Mo_seed as σ = some res) : sv_T Γ 0 (sv_e0 2 as) [] σ := by
  unfold n_Mo_seed at h
  split at h
  · refine sv_run X d_Mo_seed (K := kk_Mo_seed) (sv_lk_all (P := fun pc (k : sv_Lo → List sv_V → sv_S → Option (Int32 × sv_S)) => ∀ lo st σ, k lo st σ = some res → sv_T Γ pc lo st σ) ?_) _ _ _ _ _ ((e_Mo_seed _ _).trans h)
    clear h
    exact fun _ h => absurd h List.not_mem_nil
  · cases h
theorem a_Mo_seed (as : List sv_V) (σ : sv_S) (x : Int32 × sv_S) (h : n_Mo_seed as σ = some x) : sv_args 2 ev_Mo_seed.2.2.2.1 as := by
  unfold n_Mo_seed at h
  split at h
  · exact ⟨Nat.le_of_ble_eq_true rfl, fun _ v hv => by
      simp only [List.mem_cons, List.not_mem_nil, or_false] at hv
      rcases hv with rfl | rfl <;> trivial⟩
  · cases h
theorem g_Mo_seed (as : List sv_V) (σ : sv_S) (x : Option sv_V × sv_S) (h : sv_gI n_Mo_seed as σ = some x) : ∃ r i as', as = sv_R r i :: as' ∧ sv_kd r i = .inl 12 := by
  obtain ⟨_, _, h, -⟩ := sv_b_some h
  unfold n_Mo_seed at h
  split at h
  · exact ⟨_, _, _, rfl, rfl⟩
  · cases h

set_option maxRecDepth 20000 in
theorem m_Mo_seed (l : Launch) : sv_M l yX12_seed cX12_seed 2 (some .int) (sv_gI n_Mo_seed) 1 := by
  refine sv_mI (E := ev_Mo_seed) (by decide +kernel) (ln_gen fk_12 kk_12 (sv_ns _ (fun _ => rfl) _)) ?_ a_Mo_seed b_Mo_seed
  intro p e R s m args below meth c cells slots Q base ad dC dI cA n0 S hkn hR hf pc n f h
  refine sv_lk_all (P := fun pc (x : Nat × sv_F) => sv_cok p l e R s m args below meth c cells slots Q base ad dC dI cA true 2 n0 pc x.1 x.2) ?_ pc (n, f) h
  exact List.forall_mem_cons.mpr ⟨(sv_cV S hkn (m_Mo_becomes l) ⟨Nat.le_trans (by decide) hR.1, Nat.le_trans (by decide) hR.2⟩ (by decide) hf rfl g_Mo_becomes (sv_w5 tw_1183 tw_1185 tw_21 tw_65 tw_1186) (by decide +kernel) (sv_dc3 d_Mo_seed (pc := 3) rfl rfl)).I,
      fun _ h => absurd h List.not_mem_nil⟩
noncomputable def f_Mo_mayOrder (a1 : Int32) (σ : sv_S) : Option (Int32 × sv_S) :=
  sv_b (f_Mo_of a1 (2 : Int32) σ) (fun v1 σ2 =>
    sv_if (v1 = 0)
      (sv_g ((1 : Int32) = 0 ∨ (1 : Int32) = 1) (some ((1 : Int32), σ2)))
      (sv_g ((0 : Int32) = 0 ∨ (0 : Int32) = 1) (some ((0 : Int32), σ2))))
noncomputable def n_Mo_mayOrder : List sv_V → sv_S → Option (Int32 × sv_S)
  | [.inr (.inr (some (30, 0))), .inl a1], σ => f_Mo_mayOrder a1 σ
  | _, _ => none
def cd_Mo_mayOrder : sv_C := [(0, (.aload_n 0, (sv_N, (1, (0, []))))), (1, (.iload_n 1, (sv_N, (2, (0, []))))), (2, (.iconst 2, (.inl (2 : Int32), (3, (0, []))))), (3, (.invokevirtual 90, (sv_N, (6, (0, []))))), (6, (.ifCond .ne 7, (sv_N, (9, (13, []))))), (9, (.iconst 1, (.inl (1 : Int32), (10, (0, []))))), (10, (.goto 4, (sv_N, (13, (14, []))))), (13, (.iconst 0, (.inl (0 : Int32), (14, (0, []))))), (14, (.ireturn, (sv_N, (15, (0, [])))))]
noncomputable def ev_Mo_mayOrder : sv_E := (fun i => sv_lk i fl_12, (fun i => sv_lk i kc_12, (fun _ => false, (true, fun pc => sv_lk pc [(3, (3, .inl n_Mo_of))]))))
noncomputable def kk_Mo_mayOrder : sv_K (Int32 × sv_S) := fun pc => sv_lk pc []
set_option maxRecDepth 20000 in
theorem e_Mo_mayOrder (a1 : Int32) (σ : sv_S) : sv_ex ev_Mo_mayOrder sv_rZ kk_Mo_mayOrder cd_Mo_mayOrder 11 0 [some (.inr (.inr (some (30, 0)))), some (.inl a1)] [] σ = f_Mo_mayOrder a1 σ := by
  unfold f_Mo_mayOrder
  delta ev_Mo_mayOrder kk_Mo_mayOrder n_Mo_of
  generalize f_Mo_of = c0
  rfl
theorem d_Mo_mayOrder : cd_Mo_mayOrder.all (sv_dk cX12_mayOrder) = true := by decide +kernel
set_option maxRecDepth 20000 in
theorem b_Mo_mayOrder (Γ : sv_Ga) (res : Int32 × sv_S) (X : sv_Ok Γ ev_Mo_mayOrder cX12_mayOrder sv_rZ res) (as : List sv_V) (σ : sv_S) (h : n_Mo_mayOrder as σ = some res) : sv_T Γ 0 (sv_e0 2 as) [] σ := by
  unfold n_Mo_mayOrder at h
  split at h
  · refine sv_run X d_Mo_mayOrder (K := kk_Mo_mayOrder) (sv_lk_all (P := fun pc (k : sv_Lo → List sv_V → sv_S → Option (Int32 × sv_S)) => ∀ lo st σ, k lo st σ = some res → sv_T Γ pc lo st σ) ?_) _ _ _ _ _ ((e_Mo_mayOrder _ _).trans h)
    clear h
    exact fun _ h => absurd h List.not_mem_nil
  · cases h
theorem a_Mo_mayOrder (as : List sv_V) (σ : sv_S) (x : Int32 × sv_S) (h : n_Mo_mayOrder as σ = some x) : sv_args 2 ev_Mo_mayOrder.2.2.2.1 as := by
  unfold n_Mo_mayOrder at h
  split at h
  · exact ⟨Nat.le_of_ble_eq_true rfl, fun _ v hv => by
      simp only [List.mem_cons, List.not_mem_nil, or_false] at hv
      rcases hv with rfl | rfl <;> trivial⟩
  · cases h
theorem g_Mo_mayOrder (as : List sv_V) (σ : sv_S) (x : Option sv_V × sv_S) (h : sv_gI n_Mo_mayOrder as σ = some x) : ∃ r i as', as = sv_R r i :: as' ∧ sv_kd r i = .inl 12 := by
  obtain ⟨_, _, h, -⟩ := sv_b_some h
  unfold n_Mo_mayOrder at h
  split at h
  · exact ⟨_, _, _, rfl, rfl⟩
  · cases h

set_option maxRecDepth 20000 in
theorem m_Mo_mayOrder (l : Launch) : sv_M l yX12_mayOrder cX12_mayOrder 2 (some .boolean) (sv_gI n_Mo_mayOrder) 1 := by
  refine sv_mZ (E := ev_Mo_mayOrder) (by decide +kernel) (ln_gen fk_12 kk_12 (sv_ns _ (fun _ => rfl) _)) ?_ a_Mo_mayOrder b_Mo_mayOrder
  intro p e R s m args below meth c cells slots Q base ad dC dI cA n0 S hkn hR hf pc n f h
  refine sv_lk_all (P := fun pc (x : Nat × sv_F) => sv_cok p l e R s m args below meth c cells slots Q base ad dC dI cA true 2 n0 pc x.1 x.2) ?_ pc (n, f) h
  exact List.forall_mem_cons.mpr ⟨(sv_cV S hkn (m_Mo_of l) ⟨Nat.le_trans (by decide) hR.1, Nat.le_trans (by decide) hR.2⟩ (by decide) hf rfl g_Mo_of (sv_w5 tw_1120 tw_1122 tw_10 tw_65 tw_1123) (by decide +kernel) (sv_dc3 d_Mo_mayOrder (pc := 3) rfl rfl)).I,
      fun _ h => absurd h List.not_mem_nil⟩
noncomputable def f_Mo_orders (a1 : Int32) (σ : sv_S) : Option (Int32 × sv_S) :=
  sv_b (f_Mo_wakes a1 σ) (fun v1 σ2 =>
    sv_b0 (f_Mo_sets a1 (2 : Int32) v1 σ2) (fun σ3 =>
      sv_b (f_Mo_of a1 (2 : Int32) σ3) (fun v4 σ5 =>
        some (v4, σ5))))
noncomputable def n_Mo_orders : List sv_V → sv_S → Option (Int32 × sv_S)
  | [.inr (.inr (some (30, 0))), .inl a1], σ => f_Mo_orders a1 σ
  | _, _ => none
def cd_Mo_orders : sv_C := [(0, (.aload_n 0, (sv_N, (1, (0, []))))), (1, (.iload_n 1, (sv_N, (2, (0, []))))), (2, (.iconst 2, (.inl (2 : Int32), (3, (0, []))))), (3, (.aload_n 0, (sv_N, (4, (0, []))))), (4, (.iload_n 1, (sv_N, (5, (0, []))))), (5, (.invokevirtual 120, (sv_N, (8, (0, []))))), (8, (.invokevirtual 76, (sv_N, (11, (0, []))))), (11, (.aload_n 0, (sv_N, (12, (0, []))))), (12, (.iload_n 1, (sv_N, (13, (0, []))))), (13, (.iconst 2, (.inl (2 : Int32), (14, (0, []))))), (14, (.invokevirtual 90, (sv_N, (17, (0, []))))), (17, (.ireturn, (sv_N, (18, (0, [])))))]
noncomputable def ev_Mo_orders : sv_E := (fun i => sv_lk i fl_12, (fun i => sv_lk i kc_12, (fun _ => false, (true, fun pc => sv_lk pc [(5, (2, .inl n_Mo_wakes)), (8, (4, .inr (.inl n_Mo_sets))), (14, (3, .inl n_Mo_of))]))))
noncomputable def kk_Mo_orders : sv_K (Int32 × sv_S) := fun pc => sv_lk pc []
set_option maxRecDepth 20000 in
theorem e_Mo_orders (a1 : Int32) (σ : sv_S) : sv_ex ev_Mo_orders sv_rI kk_Mo_orders cd_Mo_orders 14 0 [some (.inr (.inr (some (30, 0)))), some (.inl a1)] [] σ = f_Mo_orders a1 σ := by
  unfold f_Mo_orders
  delta ev_Mo_orders kk_Mo_orders n_Mo_wakes n_Mo_sets n_Mo_of
  generalize f_Mo_wakes = c0
  generalize f_Mo_sets = c1
  generalize f_Mo_of = c2
  rfl
theorem d_Mo_orders : cd_Mo_orders.all (sv_dk cX12_orders) = true := by decide +kernel
set_option maxRecDepth 20000 in
theorem b_Mo_orders (Γ : sv_Ga) (res : Int32 × sv_S) (X : sv_Ok Γ ev_Mo_orders cX12_orders sv_rI res) (as : List sv_V) (σ : sv_S) (h : n_Mo_orders as σ = some res) : sv_T Γ 0 (sv_e0 2 as) [] σ := by
  unfold n_Mo_orders at h
  split at h
  · refine sv_run X d_Mo_orders (K := kk_Mo_orders) (sv_lk_all (P := fun pc (k : sv_Lo → List sv_V → sv_S → Option (Int32 × sv_S)) => ∀ lo st σ, k lo st σ = some res → sv_T Γ pc lo st σ) ?_) _ _ _ _ _ ((e_Mo_orders _ _).trans h)
    clear h
    exact fun _ h => absurd h List.not_mem_nil
  · cases h
theorem a_Mo_orders (as : List sv_V) (σ : sv_S) (x : Int32 × sv_S) (h : n_Mo_orders as σ = some x) : sv_args 2 ev_Mo_orders.2.2.2.1 as := by
  unfold n_Mo_orders at h
  split at h
  · exact ⟨Nat.le_of_ble_eq_true rfl, fun _ v hv => by
      simp only [List.mem_cons, List.not_mem_nil, or_false] at hv
      rcases hv with rfl | rfl <;> trivial⟩
  · cases h
theorem g_Mo_orders (as : List sv_V) (σ : sv_S) (x : Option sv_V × sv_S) (h : sv_gI n_Mo_orders as σ = some x) : ∃ r i as', as = sv_R r i :: as' ∧ sv_kd r i = .inl 12 := by
  obtain ⟨_, _, h, -⟩ := sv_b_some h
  unfold n_Mo_orders at h
  split at h
  · exact ⟨_, _, _, rfl, rfl⟩
  · cases h

set_option maxRecDepth 20000 in
theorem m_Mo_orders (l : Launch) : sv_M l yX12_orders cX12_orders 2 (some .int) (sv_gI n_Mo_orders) 3 := by
  refine sv_mI (E := ev_Mo_orders) (by decide +kernel) (ln_gen fk_12 kk_12 (sv_ns _ (fun _ => rfl) _)) ?_ a_Mo_orders b_Mo_orders
  intro p e R s m args below meth c cells slots Q base ad dC dI cA n0 S hkn hR hf pc n f h
  refine sv_lk_all (P := fun pc (x : Nat × sv_F) => sv_cok p l e R s m args below meth c cells slots Q base ad dC dI cA true 2 n0 pc x.1 x.2) ?_ pc (n, f) h
  exact List.forall_mem_cons.mpr ⟨(sv_cV S hkn (m_Mo_wakes l) ⟨Nat.le_trans (by decide) hR.1, Nat.le_trans (by decide) hR.2⟩ (by decide) hf rfl g_Mo_wakes (sv_w5 tw_1156 tw_1158 tw_18 tw_65 tw_1159) (by decide +kernel) (sv_dc3 d_Mo_orders (pc := 5) rfl rfl)).I,
      List.forall_mem_cons.mpr ⟨(sv_cV S hkn (m_Mo_sets l) ⟨Nat.le_trans (by decide) hR.1, Nat.le_trans (by decide) hR.2⟩ (by decide) hf rfl g_Mo_sets (sv_w5 tw_1108 tw_1110 tw_8 tw_65 tw_1111) (by decide +kernel) (sv_dc3 d_Mo_orders (pc := 8) rfl rfl)).V,
      List.forall_mem_cons.mpr ⟨(sv_cV S hkn (m_Mo_of l) ⟨Nat.le_trans (by decide) hR.1, Nat.le_trans (by decide) hR.2⟩ (by decide) hf rfl g_Mo_of (sv_w5 tw_1120 tw_1122 tw_10 tw_65 tw_1123) (by decide +kernel) (sv_dc3 d_Mo_orders (pc := 14) rfl rfl)).I,
      fun _ h => absurd h List.not_mem_nil⟩⟩⟩
noncomputable def f_Mo_order (a1 : Int32) (σ : sv_S) : Option (Int32 × sv_S) :=
  sv_b (f_Mo_isDrummer a1 σ) (fun v1 σ2 =>
    sv_if (v1 = 0)
      (some ((-1000000001 : Int32), σ2))
      (sv_b (f_Mo_mayOrder a1 σ2) (fun v3 σ4 =>
        sv_if (v3 = 0)
          (some ((-1000000002 : Int32), σ4))
          (sv_b (f_Mo_orders a1 σ4) (fun v5 σ6 =>
            some (v5, σ6))))))
noncomputable def n_Mo_order : List sv_V → sv_S → Option (Int32 × sv_S)
  | [.inr (.inr (some (30, 0))), .inl a1], σ => f_Mo_order a1 σ
  | _, _ => none
def cd_Mo_order : sv_C := [(0, (.aload_n 0, (sv_N, (1, (0, []))))), (1, (.iload_n 1, (sv_N, (2, (0, []))))), (2, (.invokevirtual 113, (sv_N, (5, (0, []))))), (5, (.ifCond .ne 6, (sv_N, (8, (11, []))))), (8, (.ldc 84, (sv_N, (10, (0, []))))), (10, (.ireturn, (sv_N, (11, (0, []))))), (11, (.aload_n 0, (sv_N, (12, (0, []))))), (12, (.iload_n 1, (sv_N, (13, (0, []))))), (13, (.invokevirtual 147, (sv_N, (16, (0, []))))), (16, (.ifCond .eq 11, (sv_N, (19, (27, []))))), (19, (.aload_n 0, (sv_N, (20, (0, []))))), (20, (.iload_n 1, (sv_N, (21, (0, []))))), (21, (.invokevirtual 150, (sv_N, (24, (0, []))))), (24, (.goto 5, (sv_N, (27, (29, []))))), (27, (.ldc 153, (sv_N, (29, (0, []))))), (29, (.ireturn, (sv_N, (30, (0, [])))))]
noncomputable def ev_Mo_order : sv_E := (fun i => sv_lk i fl_12, (fun i => sv_lk i kc_12, (fun _ => false, (true, fun pc => sv_lk pc [(2, (2, .inl n_Mo_isDrummer)), (13, (2, .inl n_Mo_mayOrder)), (21, (2, .inl n_Mo_orders))]))))
noncomputable def kk_Mo_order : sv_K (Int32 × sv_S) := fun pc => sv_lk pc []
set_option maxRecDepth 20000 in
theorem e_Mo_order (a1 : Int32) (σ : sv_S) : sv_ex ev_Mo_order sv_rI kk_Mo_order cd_Mo_order 18 0 [some (.inr (.inr (some (30, 0)))), some (.inl a1)] [] σ = f_Mo_order a1 σ := by
  unfold f_Mo_order
  delta ev_Mo_order kk_Mo_order n_Mo_isDrummer n_Mo_mayOrder n_Mo_orders
  generalize f_Mo_isDrummer = c0
  generalize f_Mo_mayOrder = c1
  generalize f_Mo_orders = c2
  rfl
theorem d_Mo_order : cd_Mo_order.all (sv_dk cX12_order) = true := by decide +kernel
set_option maxRecDepth 20000 in
theorem b_Mo_order (Γ : sv_Ga) (res : Int32 × sv_S) (X : sv_Ok Γ ev_Mo_order cX12_order sv_rI res) (as : List sv_V) (σ : sv_S) (h : n_Mo_order as σ = some res) : sv_T Γ 0 (sv_e0 2 as) [] σ := by
  unfold n_Mo_order at h
  split at h
  · refine sv_run X d_Mo_order (K := kk_Mo_order) (sv_lk_all (P := fun pc (k : sv_Lo → List sv_V → sv_S → Option (Int32 × sv_S)) => ∀ lo st σ, k lo st σ = some res → sv_T Γ pc lo st σ) ?_) _ _ _ _ _ ((e_Mo_order _ _).trans h)
    clear h
    exact fun _ h => absurd h List.not_mem_nil
  · cases h
theorem a_Mo_order (as : List sv_V) (σ : sv_S) (x : Int32 × sv_S) (h : n_Mo_order as σ = some x) : sv_args 2 ev_Mo_order.2.2.2.1 as := by
  unfold n_Mo_order at h
  split at h
  · exact ⟨Nat.le_of_ble_eq_true rfl, fun _ v hv => by
      simp only [List.mem_cons, List.not_mem_nil, or_false] at hv
      rcases hv with rfl | rfl <;> trivial⟩
  · cases h
theorem g_Mo_order (as : List sv_V) (σ : sv_S) (x : Option sv_V × sv_S) (h : sv_gI n_Mo_order as σ = some x) : ∃ r i as', as = sv_R r i :: as' ∧ sv_kd r i = .inl 12 := by
  obtain ⟨_, _, h, -⟩ := sv_b_some h
  unfold n_Mo_order at h
  split at h
  · exact ⟨_, _, _, rfl, rfl⟩
  · cases h
theorem tw_23 : Cond.selects RX12 yX12_mayOrder yX12_mayOrder ∈ gw_tbl := gw_at 23 (by decide +kernel) rfl
theorem tw_24 : Cond.selects RX12 yX12_orders yX12_orders ∈ gw_tbl := gw_at 24 (by decide +kernel) rfl
theorem tw_1215 : Cond.methodLink RX12 147 yX12_mayOrder ∈ gw_tbl := gw_at 1215 (by decide +kernel) rfl
theorem tw_1217 : Cond.instanceMethod yX12_mayOrder ∈ gw_tbl := gw_at 1217 (by decide +kernel) rfl
theorem tw_1218 : Cond.code yX12_mayOrder cX12_mayOrder 2 (some .boolean) ∈ gw_tbl := gw_at 1218 (by decide +kernel) rfl
theorem tw_1219 : Cond.methodLink RX12 150 yX12_orders ∈ gw_tbl := gw_at 1219 (by decide +kernel) rfl
theorem tw_1221 : Cond.instanceMethod yX12_orders ∈ gw_tbl := gw_at 1221 (by decide +kernel) rfl
theorem tw_1222 : Cond.code yX12_orders cX12_orders 2 (some .int) ∈ gw_tbl := gw_at 1222 (by decide +kernel) rfl
set_option maxRecDepth 20000 in
theorem m_Mo_order (l : Launch) : sv_M l yX12_order cX12_order 2 (some .int) (sv_gI n_Mo_order) 4 := by
  refine sv_mI (E := ev_Mo_order) (by decide +kernel) (ln_gen fk_12 kk_12 (sv_ns _ (fun _ => rfl) _)) ?_ a_Mo_order b_Mo_order
  intro p e R s m args below meth c cells slots Q base ad dC dI cA n0 S hkn hR hf pc n f h
  refine sv_lk_all (P := fun pc (x : Nat × sv_F) => sv_cok p l e R s m args below meth c cells slots Q base ad dC dI cA true 2 n0 pc x.1 x.2) ?_ pc (n, f) h
  exact List.forall_mem_cons.mpr ⟨(sv_cV S hkn (m_Mo_isDrummer l) ⟨Nat.le_trans (by decide) hR.1, Nat.le_trans (by decide) hR.2⟩ (by decide) hf rfl g_Mo_isDrummer (sv_w5 tw_1116 tw_1118 tw_9 tw_65 tw_1119) (by decide +kernel) (sv_dc3 d_Mo_order (pc := 2) rfl rfl)).I,
      List.forall_mem_cons.mpr ⟨(sv_cV S hkn (m_Mo_mayOrder l) ⟨Nat.le_trans (by decide) hR.1, Nat.le_trans (by decide) hR.2⟩ (by decide) hf rfl g_Mo_mayOrder (sv_w5 tw_1215 tw_1217 tw_23 tw_65 tw_1218) (by decide +kernel) (sv_dc3 d_Mo_order (pc := 13) rfl rfl)).I,
      List.forall_mem_cons.mpr ⟨(sv_cV S hkn (m_Mo_orders l) ⟨Nat.le_trans (by decide) hR.1, Nat.le_trans (by decide) hR.2⟩ (by decide) hf rfl g_Mo_orders (sv_w5 tw_1219 tw_1221 tw_24 tw_65 tw_1222) (by decide +kernel) (sv_dc3 d_Mo_order (pc := 21) rfl rfl)).I,
      fun _ h => absurd h List.not_mem_nil⟩⟩⟩
noncomputable def f_Mo_hush_29 (k4 : Int32 → Int32 → sv_S → Option (Int32 × sv_S)) (x2 : Int32) (y0 : Int32) (y1 : Int32) (σ : sv_S) : Option (Int32 × sv_S) :=
    sv_b0 (f_Mo_sets x2 (2 : Int32) (0 : Int32) σ) (fun σ1 =>
      sv_b0 (f_Mo_sets x2 (3 : Int32) (0 : Int32) σ1) (fun σ2 =>
        sv_b0 (f_Mo_sets x2 (4 : Int32) (0 : Int32) σ2) (fun σ3 =>
          k4 (y1 + y0) (x2 + (1 : Int32)) σ3)))
noncomputable def f_Mo_hush_4 : Nat → Int32 → Int32 → sv_S → Option (Int32 × sv_S)
  | 0, _, _, _ => none
  | n + 1, x1, x2, σ =>
    sv_g (sv_in (0 : Int32) 3086) (sv_if ((σ 31 0 ((0 : Int32).toNatClampNeg)) ≤ x2)
      (some (x1, σ))
      (sv_b (f_Mo_of x2 (2 : Int32) σ) (fun v1 σ2 =>
        sv_if (v1 ≤ 0)
          (f_Mo_hush_29 (f_Mo_hush_4 n) x2 (0 : Int32) x1 σ2)
          (f_Mo_hush_29 (f_Mo_hush_4 n) x2 (1 : Int32) x1 σ2))))
noncomputable def f_Mo_hush (σ : sv_S) : Option (Int32 × sv_S) :=
  f_Mo_hush_4 sv_fu (0 : Int32) (0 : Int32) σ
noncomputable def n_Mo_hush : List sv_V → sv_S → Option (Int32 × sv_S)
  | [.inr (.inr (some (30, 0)))], σ => f_Mo_hush σ
  | _, _ => none
def cd_Mo_hush : sv_C := [(0, (.iconst 0, (.inl (0 : Int32), (1, (0, []))))), (1, (.istore_n 1, (sv_N, (2, (0, []))))), (2, (.iconst 0, (.inl (0 : Int32), (3, (0, []))))), (3, (.istore_n 2, (sv_N, (4, (0, []))))), (4, (.iload_n 2, (sv_N, (5, (0, []))))), (5, (.aload_n 0, (sv_N, (6, (0, []))))), (6, (.getfield 7, (sv_N, (9, (0, []))))), (9, (.iconst 0, (.inl (0 : Int32), (10, (0, []))))), (10, (.iaload, (sv_N, (11, (0, []))))), (11, (.if_icmp .ge 47, (sv_N, (14, (58, []))))), (14, (.iload_n 1, (sv_N, (15, (0, []))))), (15, (.aload_n 0, (sv_N, (16, (0, []))))), (16, (.iload_n 2, (sv_N, (17, (0, []))))), (17, (.iconst 2, (.inl (2 : Int32), (18, (0, []))))), (18, (.invokevirtual 90, (sv_N, (21, (0, []))))), (21, (.ifCond .le 7, (sv_N, (24, (28, []))))), (24, (.iconst 1, (.inl (1 : Int32), (25, (0, []))))), (25, (.goto 4, (sv_N, (28, (29, []))))), (28, (.iconst 0, (.inl (0 : Int32), (29, (0, []))))), (29, (.iadd, (sv_N, (30, (0, []))))), (30, (.istore_n 1, (sv_N, (31, (0, []))))), (31, (.aload_n 0, (sv_N, (32, (0, []))))), (32, (.iload_n 2, (sv_N, (33, (0, []))))), (33, (.iconst 2, (.inl (2 : Int32), (34, (0, []))))), (34, (.iconst 0, (.inl (0 : Int32), (35, (0, []))))), (35, (.invokevirtual 76, (sv_N, (38, (0, []))))), (38, (.aload_n 0, (sv_N, (39, (0, []))))), (39, (.iload_n 2, (sv_N, (40, (0, []))))), (40, (.iconst 3, (.inl (3 : Int32), (41, (0, []))))), (41, (.iconst 0, (.inl (0 : Int32), (42, (0, []))))), (42, (.invokevirtual 76, (sv_N, (45, (0, []))))), (45, (.aload_n 0, (sv_N, (46, (0, []))))), (46, (.iload_n 2, (sv_N, (47, (0, []))))), (47, (.iconst 4, (.inl (4 : Int32), (48, (0, []))))), (48, (.iconst 0, (.inl (0 : Int32), (49, (0, []))))), (49, (.invokevirtual 76, (sv_N, (52, (0, []))))), (52, (.iinc 2 1, (.inl (1 : Int32), (55, (0, []))))), (55, (.goto (-51), (sv_N, (58, (4, []))))), (58, (.iload_n 1, (sv_N, (59, (0, []))))), (59, (.ireturn, (sv_N, (60, (0, [])))))]
noncomputable def ev_Mo_hush : sv_E := (fun i => sv_lk i fl_12, (fun i => sv_lk i kc_12, (fun _ => false, (true, fun pc => sv_lk pc [(18, (3, .inl n_Mo_of)), (35, (4, .inr (.inl n_Mo_sets))), (42, (4, .inr (.inl n_Mo_sets))), (49, (4, .inr (.inl n_Mo_sets)))]))))
noncomputable def kk_Mo_hush_29 (k4 : Int32 → Int32 → sv_S → Option (Int32 × sv_S)) : sv_K (Int32 × sv_S) := fun pc => sv_lk pc [(4, fun lo st σ => match lo, st with
    | [some (.inr (.inr (some (30, 0)))), some (.inl x1), some (.inl x2)], [] => k4 x1 x2 σ
    | _, _ => none)]
set_option maxRecDepth 20000 in
theorem e_Mo_hush_29 (k4 : Int32 → Int32 → sv_S → Option (Int32 × sv_S)) (x2 : Int32) (y0 : Int32) (y1 : Int32) (z1 : Option sv_V) (σ : sv_S) : sv_ex ev_Mo_hush sv_rI (kk_Mo_hush_29 k4) cd_Mo_hush 42 29 [some (.inr (.inr (some (30, 0)))), z1, some (.inl x2)] [.inl y0, .inl y1] σ = f_Mo_hush_29 k4 x2 y0 y1 σ := by
  unfold f_Mo_hush_29
  delta ev_Mo_hush kk_Mo_hush_29 n_Mo_of n_Mo_sets
  generalize f_Mo_of = c0
  generalize f_Mo_sets = c1
  generalize f_Mo_hush_4 = c2
  rfl
noncomputable def kk_Mo_hush_4 (n : Nat) : sv_K (Int32 × sv_S) := fun pc => sv_lk pc [(29, fun lo st σ => match lo, st with
    | [some (.inr (.inr (some (30, 0)))), _, some (.inl x2)], [.inl y0, .inl y1] => f_Mo_hush_29 (f_Mo_hush_4 n) x2 y0 y1 σ
    | _, _ => none)]
set_option maxRecDepth 20000 in
theorem e_Mo_hush_4 (n : Nat) (x1 : Int32) (x2 : Int32) (σ : sv_S) : sv_ex ev_Mo_hush sv_rI (kk_Mo_hush_4 n) cd_Mo_hush 42 4 [some (.inr (.inr (some (30, 0)))), some (.inl x1), some (.inl x2)] [] σ = f_Mo_hush_4 (n + 1) x1 x2 σ := by
  rw [f_Mo_hush_4.eq_2]
  delta ev_Mo_hush kk_Mo_hush_4 n_Mo_of n_Mo_sets
  generalize f_Mo_of = c0
  generalize f_Mo_sets = c1
  generalize f_Mo_hush_29 = c2
  generalize f_Mo_hush_4 = c3
  rfl
noncomputable def kk_Mo_hush : sv_K (Int32 × sv_S) := fun pc => sv_lk pc [(4, fun lo st σ => match lo, st with
    | [some (.inr (.inr (some (30, 0)))), some (.inl x1), some (.inl x2)], [] => f_Mo_hush_4 sv_fu x1 x2 σ
    | _, _ => none)]
set_option maxRecDepth 20000 in
theorem e_Mo_hush (σ : sv_S) : sv_ex ev_Mo_hush sv_rI kk_Mo_hush cd_Mo_hush 42 0 [some (.inr (.inr (some (30, 0)))), none, none] [] σ = f_Mo_hush σ := by
  unfold f_Mo_hush
  delta ev_Mo_hush kk_Mo_hush n_Mo_of n_Mo_sets
  generalize f_Mo_of = c0
  generalize f_Mo_sets = c1
  generalize f_Mo_hush_4 = c2
  rfl
theorem d_Mo_hush : cd_Mo_hush.all (sv_dk cX12_hush) = true := by decide +kernel
set_option maxRecDepth 20000 in
theorem w_Mo_hush_29 {Γ : sv_Ga} {res : Int32 × sv_S} (X : sv_Ok Γ ev_Mo_hush cX12_hush sv_rI res) (k4 : Int32 → Int32 → sv_S → Option (Int32 × sv_S)) (h4 : ∀ (x1 : Int32) (x2 : Int32) (σ : sv_S), k4 x1 x2 σ = some res → sv_T Γ 4 [some (.inr (.inr (some (30, 0)))), some (.inl x1), some (.inl x2)] [] σ) : ∀ (x2 : Int32) (y0 : Int32) (y1 : Int32) (z1 : Option sv_V) (σ : sv_S), f_Mo_hush_29 k4 x2 y0 y1 σ = some res → sv_T Γ 29 [some (.inr (.inr (some (30, 0)))), z1, some (.inl x2)] [.inl y0, .inl y1] σ := by
  intro x2 y0 y1 z1 σ h
  refine sv_run X d_Mo_hush (K := kk_Mo_hush_29 k4) (sv_lk_all (P := fun pc (k : sv_Lo → List sv_V → sv_S → Option (Int32 × sv_S)) => ∀ lo st σ, k lo st σ = some res → sv_T Γ pc lo st σ) ?_) _ _ _ _ _ ((e_Mo_hush_29 k4 x2 y0 y1 z1 σ).trans h)
  clear h
  refine List.forall_mem_cons.mpr ⟨fun lo st σ h => ?_, fun _ h => absurd h List.not_mem_nil⟩
  · dsimp only at h
    split at h
    · exact h4 _ _ _ h
    · cases h

set_option maxRecDepth 20000 in
theorem w_Mo_hush_4 {Γ : sv_Ga} {res : Int32 × sv_S} (X : sv_Ok Γ ev_Mo_hush cX12_hush sv_rI res) : ∀ (n : Nat) (x1 : Int32) (x2 : Int32) (σ : sv_S), f_Mo_hush_4 n x1 x2 σ = some res → sv_T Γ 4 [some (.inr (.inr (some (30, 0)))), some (.inl x1), some (.inl x2)] [] σ := by
  intro n
  induction n with
  | zero =>
    intro x1 x2 σ h
    rw [f_Mo_hush_4.eq_1] at h
    cases h
  | succ n ih =>
    intro x1 x2 σ h
    refine sv_run X d_Mo_hush (K := kk_Mo_hush_4 n) (sv_lk_all (P := fun pc (k : sv_Lo → List sv_V → sv_S → Option (Int32 × sv_S)) => ∀ lo st σ, k lo st σ = some res → sv_T Γ pc lo st σ) ?_) _ _ _ _ _ ((e_Mo_hush_4 n x1 x2 σ).trans h)
    clear h
    refine List.forall_mem_cons.mpr ⟨fun lo st σ h => ?_, fun _ h => absurd h List.not_mem_nil⟩
    · dsimp only at h
      split at h
      · exact w_Mo_hush_29 X _ ih _ _ _ _ _ h
      · cases h

set_option maxRecDepth 20000 in
theorem b_Mo_hush (Γ : sv_Ga) (res : Int32 × sv_S) (X : sv_Ok Γ ev_Mo_hush cX12_hush sv_rI res) (as : List sv_V) (σ : sv_S) (h : n_Mo_hush as σ = some res) : sv_T Γ 0 (sv_e0 3 as) [] σ := by
  unfold n_Mo_hush at h
  split at h
  · refine sv_run X d_Mo_hush (K := kk_Mo_hush) (sv_lk_all (P := fun pc (k : sv_Lo → List sv_V → sv_S → Option (Int32 × sv_S)) => ∀ lo st σ, k lo st σ = some res → sv_T Γ pc lo st σ) ?_) _ _ _ _ _ ((e_Mo_hush _).trans h)
    clear h
    refine List.forall_mem_cons.mpr ⟨fun lo st σ h => ?_, fun _ h => absurd h List.not_mem_nil⟩
    · dsimp only at h
      split at h
      · exact w_Mo_hush_4 X _ _ _ _ h
      · cases h
  · cases h
theorem a_Mo_hush (as : List sv_V) (σ : sv_S) (x : Int32 × sv_S) (h : n_Mo_hush as σ = some x) : sv_args 3 ev_Mo_hush.2.2.2.1 as := by
  unfold n_Mo_hush at h
  split at h
  · exact ⟨Nat.le_of_ble_eq_true rfl, fun _ v hv => by
      simp only [List.mem_cons, List.not_mem_nil, or_false] at hv
      rcases hv with rfl <;> trivial⟩
  · cases h
theorem g_Mo_hush (as : List sv_V) (σ : sv_S) (x : Option sv_V × sv_S) (h : sv_gI n_Mo_hush as σ = some x) : ∃ r i as', as = sv_R r i :: as' ∧ sv_kd r i = .inl 12 := by
  obtain ⟨_, _, h, -⟩ := sv_b_some h
  unfold n_Mo_hush at h
  split at h
  · exact ⟨_, _, _, rfl, rfl⟩
  · cases h

set_option maxRecDepth 20000 in
theorem m_Mo_hush (l : Launch) : sv_M l yX12_hush cX12_hush 3 (some .int) (sv_gI n_Mo_hush) 1 := by
  refine sv_mI (E := ev_Mo_hush) (by decide +kernel) (ln_gen fk_12 kk_12 (sv_ns _ (fun _ => rfl) _)) ?_ a_Mo_hush b_Mo_hush
  intro p e R s m args below meth c cells slots Q base ad dC dI cA n0 S hkn hR hf pc n f h
  refine sv_lk_all (P := fun pc (x : Nat × sv_F) => sv_cok p l e R s m args below meth c cells slots Q base ad dC dI cA true 3 n0 pc x.1 x.2) ?_ pc (n, f) h
  exact List.forall_mem_cons.mpr ⟨(sv_cV S hkn (m_Mo_of l) ⟨Nat.le_trans (by decide) hR.1, Nat.le_trans (by decide) hR.2⟩ (by decide) hf rfl g_Mo_of (sv_w5 tw_1120 tw_1122 tw_10 tw_65 tw_1123) (by decide +kernel) (sv_dc3 d_Mo_hush (pc := 18) rfl rfl)).I,
      List.forall_mem_cons.mpr ⟨(sv_cV S hkn (m_Mo_sets l) ⟨Nat.le_trans (by decide) hR.1, Nat.le_trans (by decide) hR.2⟩ (by decide) hf rfl g_Mo_sets (sv_w5 tw_1108 tw_1110 tw_8 tw_65 tw_1111) (by decide +kernel) (sv_dc3 d_Mo_hush (pc := 35) rfl rfl)).V,
      List.forall_mem_cons.mpr ⟨(sv_cV S hkn (m_Mo_sets l) ⟨Nat.le_trans (by decide) hR.1, Nat.le_trans (by decide) hR.2⟩ (by decide) hf rfl g_Mo_sets (sv_w5 tw_1108 tw_1110 tw_8 tw_65 tw_1111) (by decide +kernel) (sv_dc3 d_Mo_hush (pc := 42) rfl rfl)).V,
      List.forall_mem_cons.mpr ⟨(sv_cV S hkn (m_Mo_sets l) ⟨Nat.le_trans (by decide) hR.1, Nat.le_trans (by decide) hR.2⟩ (by decide) hf rfl g_Mo_sets (sv_w5 tw_1108 tw_1110 tw_8 tw_65 tw_1111) (by decide +kernel) (sv_dc3 d_Mo_hush (pc := 49) rfl rfl)).V,
      fun _ h => absurd h List.not_mem_nil⟩⟩⟩⟩
noncomputable def f_Mo_goesOn_159 : Nat → Int32 → Int32 → sv_S → Option (Int32 × sv_S)
  | 0, _, _, _ => none
  | n + 1, x2, x3, σ =>
    sv_g (sv_in (0 : Int32) 3086) (sv_if ((σ 31 0 ((0 : Int32).toNatClampNeg)) ≤ x3)
      (some (x2, σ))
      (sv_b (f_Mo_of x3 (3 : Int32) σ) (fun v1 σ2 =>
        sv_b0 (f_Mo_sets x3 (4 : Int32) v1 σ2) (fun σ3 =>
          sv_g (sv_in x3 10) (sv_b0 (f_Mo_sets x3 (3 : Int32) (σ3 31 12 (x3.toNatClampNeg)) σ3) (fun σ4 =>
            sv_b (f_Mo_of x3 (2 : Int32) σ4) (fun v5 σ6 =>
              sv_if (v5 = (9 : Int32))
                (sv_g (sv_in x3 10) (sv_if ((σ6 31 12 (x3.toNatClampNeg)) = (9 : Int32))
                  (f_Mo_goesOn_159 n x2 (x3 + (1 : Int32)) σ6)
                  (sv_b (f_Mo_of x3 (5 : Int32) σ6) (fun v7 σ8 =>
                    sv_b0 (f_Mo_sets x3 (5 : Int32) (v7 + (1 : Int32)) σ8) (fun σ9 =>
                      sv_b (f_Mo_of x3 (6 : Int32) σ9) (fun v10 σ11 =>
                        sv_if (v10 = 0)
                          (sv_g (sv_in (3 : Int32) 3086) (sv_b0 (f_Mo_sets x3 (6 : Int32) (σ11 31 0 ((3 : Int32).toNatClampNeg)) σ11) (fun σ12 =>
                            f_Mo_goesOn_159 n (x2 ||| ((1 : Int32) <<< (x3 &&& 31))) (x3 + (1 : Int32)) σ12)))
                          (sv_b (f_Mo_of x3 (6 : Int32) σ11) (fun v13 σ14 =>
                            sv_b0 (f_Mo_sets x3 (6 : Int32) v13 σ14) (fun σ15 =>
                              f_Mo_goesOn_159 n (x2 ||| ((1 : Int32) <<< (x3 &&& 31))) (x3 + (1 : Int32)) σ15)))))))))
                (f_Mo_goesOn_159 n x2 (x3 + (1 : Int32)) σ6))))))))
noncomputable def f_Mo_goesOn_116 (k40 : Int32 → Int32 → sv_S → Option (Int32 × sv_S)) (x1 : Int32) (x2 : Int32) (x3 : Int32) (y0 : Int32) (σ : sv_S) : Option (Int32 × sv_S) :=
    sv_if (y0 = 0)
      (sv_b (f_Mo_stepFrom x2 x3 σ) (fun v1 σ2 =>
        sv_b0 (f_Mo_sets x2 (2 : Int32) v1 σ2) (fun σ3 =>
          k40 x1 (x2 + (1 : Int32)) σ3)))
      (sv_b0 (f_Mo_sets x2 (2 : Int32) x3 σ) (fun σ4 =>
        k40 x1 (x2 + (1 : Int32)) σ4))
noncomputable def f_Mo_goesOn_40 : Nat → Int32 → Int32 → sv_S → Option (Int32 × sv_S)
  | 0, _, _, _ => none
  | n + 1, x1, x2, σ =>
    sv_g (sv_in (0 : Int32) 3086) (sv_if ((σ 31 0 ((0 : Int32).toNatClampNeg)) ≤ x2)
      (sv_g (sv_in (3 : Int32) 3086) (sv_g (sv_in (3 : Int32) 3086) (f_Mo_goesOn_159 sv_fu (0 : Int32) (0 : Int32) (sv_up σ 31 0 ((3 : Int32).toNatClampNeg) ((σ 31 0 ((3 : Int32).toNatClampNeg)) + (1 : Int32))))))
      (sv_b (f_Mo_of x2 (2 : Int32) σ) (fun v1 σ2 =>
        sv_g (sv_in x2 10) (sv_if (v1 = 0)
          (sv_if (((x1 >>> (x2 &&& 31)) &&& (1 : Int32)) = (1 : Int32))
            (sv_b (f_Mo_wakes x2 (sv_up σ2 31 12 (x2.toNatClampNeg) v1)) (fun v3 σ4 =>
              sv_b0 (f_Mo_sets x2 (2 : Int32) v3 σ4) (fun σ5 =>
                f_Mo_goesOn_40 n x1 (x2 + (1 : Int32)) σ5)))
            (sv_b0 (f_Mo_sets x2 (2 : Int32) (0 : Int32) (sv_up σ2 31 12 (x2.toNatClampNeg) v1)) (fun σ6 =>
              f_Mo_goesOn_40 n x1 (x2 + (1 : Int32)) σ6)))
          (sv_b (f_Mo_drawn (sv_up σ2 31 12 (x2.toNatClampNeg) v1)) (fun v7 σ8 =>
            sv_g (¬ (100 : Int32) = 0) (sv_g (sv_in (2 : Int32) 3086) (sv_if ((σ8 31 0 ((2 : Int32).toNatClampNeg)) ≤ (v7 - v7 / (100 : Int32) * (100 : Int32)))
              (f_Mo_goesOn_116 (f_Mo_goesOn_40 n) x1 x2 v1 (0 : Int32) σ8)
              (f_Mo_goesOn_116 (f_Mo_goesOn_40 n) x1 x2 v1 (1 : Int32) σ8)))))))))
noncomputable def f_Mo_goesOn_4 : Nat → Int32 → Int32 → sv_S → Option (Int32 × sv_S)
  | 0, _, _, _ => none
  | n + 1, x1, x2, σ =>
    sv_g (sv_in (0 : Int32) 3086) (sv_if ((σ 31 0 ((0 : Int32).toNatClampNeg)) ≤ x2)
      (f_Mo_goesOn_40 sv_fu x1 (0 : Int32) σ)
      (sv_b (f_Mo_hears x2 σ) (fun v1 σ2 =>
        sv_if (v1 = 0)
          (f_Mo_goesOn_4 n (x1 ||| (0 : Int32)) (x2 + (1 : Int32)) σ2)
          (f_Mo_goesOn_4 n (x1 ||| ((1 : Int32) <<< (x2 &&& 31))) (x2 + (1 : Int32)) σ2))))
noncomputable def f_Mo_goesOn (σ : sv_S) : Option (Int32 × sv_S) :=
  f_Mo_goesOn_4 sv_fu (0 : Int32) (0 : Int32) σ
noncomputable def n_Mo_goesOn : List sv_V → sv_S → Option (Int32 × sv_S)
  | [.inr (.inr (some (30, 0)))], σ => f_Mo_goesOn σ
  | _, _ => none
def cd_Mo_goesOn : sv_C := [(0, (.iconst 0, (.inl (0 : Int32), (1, (0, []))))), (1, (.istore_n 1, (sv_N, (2, (0, []))))), (2, (.iconst 0, (.inl (0 : Int32), (3, (0, []))))), (3, (.istore_n 2, (sv_N, (4, (0, []))))), (4, (.iload_n 2, (sv_N, (5, (0, []))))), (5, (.aload_n 0, (sv_N, (6, (0, []))))), (6, (.getfield 7, (sv_N, (9, (0, []))))), (9, (.iconst 0, (.inl (0 : Int32), (10, (0, []))))), (10, (.iaload, (sv_N, (11, (0, []))))), (11, (.if_icmp .ge 27, (sv_N, (14, (38, []))))), (14, (.iload_n 1, (sv_N, (15, (0, []))))), (15, (.aload_n 0, (sv_N, (16, (0, []))))), (16, (.iload_n 2, (sv_N, (17, (0, []))))), (17, (.invokevirtual 117, (sv_N, (20, (0, []))))), (20, (.ifCond .eq 9, (sv_N, (23, (29, []))))), (23, (.iconst 1, (.inl (1 : Int32), (24, (0, []))))), (24, (.iload_n 2, (sv_N, (25, (0, []))))), (25, (.ishl, (sv_N, (26, (0, []))))), (26, (.goto 4, (sv_N, (29, (30, []))))), (29, (.iconst 0, (.inl (0 : Int32), (30, (0, []))))), (30, (.ior, (sv_N, (31, (0, []))))), (31, (.istore_n 1, (sv_N, (32, (0, []))))), (32, (.iinc 2 1, (.inl (1 : Int32), (35, (0, []))))), (35, (.goto (-31), (sv_N, (38, (4, []))))), (38, (.iconst 0, (.inl (0 : Int32), (39, (0, []))))), (39, (.istore_n 2, (sv_N, (40, (0, []))))), (40, (.iload_n 2, (sv_N, (41, (0, []))))), (41, (.aload_n 0, (sv_N, (42, (0, []))))), (42, (.getfield 7, (sv_N, (45, (0, []))))), (45, (.iconst 0, (.inl (0 : Int32), (46, (0, []))))), (46, (.iaload, (sv_N, (47, (0, []))))), (47, (.if_icmp .ge 98, (sv_N, (50, (145, []))))), (50, (.aload_n 0, (sv_N, (51, (0, []))))), (51, (.iload_n 2, (sv_N, (52, (0, []))))), (52, (.iconst 2, (.inl (2 : Int32), (53, (0, []))))), (53, (.invokevirtual 90, (sv_N, (56, (0, []))))), (56, (.istore_n 3, (sv_N, (57, (0, []))))), (57, (.aload_n 0, (sv_N, (58, (0, []))))), (58, (.getfield 43, (sv_N, (61, (0, []))))), (61, (.iload_n 2, (sv_N, (62, (0, []))))), (62, (.iload_n 3, (sv_N, (63, (0, []))))), (63, (.iastore, (sv_N, (64, (0, []))))), (64, (.iload_n 3, (sv_N, (65, (0, []))))), (65, (.ifCond .ne 30, (sv_N, (68, (95, []))))), (68, (.aload_n 0, (sv_N, (69, (0, []))))), (69, (.iload_n 2, (sv_N, (70, (0, []))))), (70, (.iconst 2, (.inl (2 : Int32), (71, (0, []))))), (71, (.iload_n 1, (sv_N, (72, (0, []))))), (72, (.iload_n 2, (sv_N, (73, (0, []))))), (73, (.ishr, (sv_N, (74, (0, []))))), (74, (.iconst 1, (.inl (1 : Int32), (75, (0, []))))), (75, (.iand, (sv_N, (76, (0, []))))), (76, (.iconst 1, (.inl (1 : Int32), (77, (0, []))))), (77, (.if_icmp .ne 11, (sv_N, (80, (88, []))))), (80, (.aload_n 0, (sv_N, (81, (0, []))))), (81, (.iload_n 2, (sv_N, (82, (0, []))))), (82, (.invokevirtual 120, (sv_N, (85, (0, []))))), (85, (.goto 4, (sv_N, (88, (89, []))))), (88, (.iconst 0, (.inl (0 : Int32), (89, (0, []))))), (89, (.invokevirtual 76, (sv_N, (92, (0, []))))), (92, (.goto 47, (sv_N, (95, (139, []))))), (95, (.aload_n 0, (sv_N, (96, (0, []))))), (96, (.invokevirtual 143, (sv_N, (99, (0, []))))), (99, (.bipush 100, (.inl (100 : Int32), (101, (0, []))))), (101, (.irem, (sv_N, (102, (0, []))))), (102, (.aload_n 0, (sv_N, (103, (0, []))))), (103, (.getfield 7, (sv_N, (106, (0, []))))), (106, (.iconst 2, (.inl (2 : Int32), (107, (0, []))))), (107, (.iaload, (sv_N, (108, (0, []))))), (108, (.if_icmp .ge 7, (sv_N, (111, (115, []))))), (111, (.iconst 1, (.inl (1 : Int32), (112, (0, []))))), (112, (.goto 4, (sv_N, (115, (116, []))))), (115, (.iconst 0, (.inl (0 : Int32), (116, (0, []))))), (116, (.istore 4, (sv_N, (118, (0, []))))), (118, (.aload_n 0, (sv_N, (119, (0, []))))), (119, (.iload_n 2, (sv_N, (120, (0, []))))), (120, (.iconst 2, (.inl (2 : Int32), (121, (0, []))))), (121, (.iload 4, (sv_N, (123, (0, []))))), (123, (.ifCond .eq 7, (sv_N, (126, (130, []))))), (126, (.iload_n 3, (sv_N, (127, (0, []))))), (127, (.goto 9, (sv_N, (130, (136, []))))), (130, (.aload_n 0, (sv_N, (131, (0, []))))), (131, (.iload_n 2, (sv_N, (132, (0, []))))), (132, (.iload_n 3, (sv_N, (133, (0, []))))), (133, (.invokevirtual 123, (sv_N, (136, (0, []))))), (136, (.invokevirtual 76, (sv_N, (139, (0, []))))), (139, (.iinc 2 1, (.inl (1 : Int32), (142, (0, []))))), (142, (.goto (-102), (sv_N, (145, (40, []))))), (145, (.aload_n 0, (sv_N, (146, (0, []))))), (146, (.getfield 7, (sv_N, (149, (0, []))))), (149, (.iconst 3, (.inl (3 : Int32), (150, (0, []))))), (150, (.dup2, (sv_N, (151, (0, []))))), (151, (.iaload, (sv_N, (152, (0, []))))), (152, (.iconst 1, (.inl (1 : Int32), (153, (0, []))))), (153, (.iadd, (sv_N, (154, (0, []))))), (154, (.iastore, (sv_N, (155, (0, []))))), (155, (.iconst 0, (.inl (0 : Int32), (156, (0, []))))), (156, (.istore_n 2, (sv_N, (157, (0, []))))), (157, (.iconst 0, (.inl (0 : Int32), (158, (0, []))))), (158, (.istore_n 3, (sv_N, (159, (0, []))))), (159, (.iload_n 3, (sv_N, (160, (0, []))))), (160, (.aload_n 0, (sv_N, (161, (0, []))))), (161, (.getfield 7, (sv_N, (164, (0, []))))), (164, (.iconst 0, (.inl (0 : Int32), (165, (0, []))))), (165, (.iaload, (sv_N, (166, (0, []))))), (166, (.if_icmp .ge 108, (sv_N, (169, (274, []))))), (169, (.aload_n 0, (sv_N, (170, (0, []))))), (170, (.iload_n 3, (sv_N, (171, (0, []))))), (171, (.iconst 4, (.inl (4 : Int32), (172, (0, []))))), (172, (.aload_n 0, (sv_N, (173, (0, []))))), (173, (.iload_n 3, (sv_N, (174, (0, []))))), (174, (.iconst 3, (.inl (3 : Int32), (175, (0, []))))), (175, (.invokevirtual 90, (sv_N, (178, (0, []))))), (178, (.invokevirtual 76, (sv_N, (181, (0, []))))), (181, (.aload_n 0, (sv_N, (182, (0, []))))), (182, (.iload_n 3, (sv_N, (183, (0, []))))), (183, (.iconst 3, (.inl (3 : Int32), (184, (0, []))))), (184, (.aload_n 0, (sv_N, (185, (0, []))))), (185, (.getfield 43, (sv_N, (188, (0, []))))), (188, (.iload_n 3, (sv_N, (189, (0, []))))), (189, (.iaload, (sv_N, (190, (0, []))))), (190, (.invokevirtual 76, (sv_N, (193, (0, []))))), (193, (.aload_n 0, (sv_N, (194, (0, []))))), (194, (.iload_n 3, (sv_N, (195, (0, []))))), (195, (.iconst 2, (.inl (2 : Int32), (196, (0, []))))), (196, (.invokevirtual 90, (sv_N, (199, (0, []))))), (199, (.bipush 9, (.inl (9 : Int32), (201, (0, []))))), (201, (.if_icmp .ne 67, (sv_N, (204, (268, []))))), (204, (.aload_n 0, (sv_N, (205, (0, []))))), (205, (.getfield 43, (sv_N, (208, (0, []))))), (208, (.iload_n 3, (sv_N, (209, (0, []))))), (209, (.iaload, (sv_N, (210, (0, []))))), (210, (.bipush 9, (.inl (9 : Int32), (212, (0, []))))), (212, (.if_icmp .eq 56, (sv_N, (215, (268, []))))), (215, (.iload_n 2, (sv_N, (216, (0, []))))), (216, (.iconst 1, (.inl (1 : Int32), (217, (0, []))))), (217, (.iload_n 3, (sv_N, (218, (0, []))))), (218, (.ishl, (sv_N, (219, (0, []))))), (219, (.ior, (sv_N, (220, (0, []))))), (220, (.istore_n 2, (sv_N, (221, (0, []))))), (221, (.aload_n 0, (sv_N, (222, (0, []))))), (222, (.iload_n 3, (sv_N, (223, (0, []))))), (223, (.iconst 5, (.inl (5 : Int32), (224, (0, []))))), (224, (.aload_n 0, (sv_N, (225, (0, []))))), (225, (.iload_n 3, (sv_N, (226, (0, []))))), (226, (.iconst 5, (.inl (5 : Int32), (227, (0, []))))), (227, (.invokevirtual 90, (sv_N, (230, (0, []))))), (230, (.iconst 1, (.inl (1 : Int32), (231, (0, []))))), (231, (.iadd, (sv_N, (232, (0, []))))), (232, (.invokevirtual 76, (sv_N, (235, (0, []))))), (235, (.aload_n 0, (sv_N, (236, (0, []))))), (236, (.iload_n 3, (sv_N, (237, (0, []))))), (237, (.bipush 6, (.inl (6 : Int32), (239, (0, []))))), (239, (.aload_n 0, (sv_N, (240, (0, []))))), (240, (.iload_n 3, (sv_N, (241, (0, []))))), (241, (.bipush 6, (.inl (6 : Int32), (243, (0, []))))), (243, (.invokevirtual 90, (sv_N, (246, (0, []))))), (246, (.ifCond .ne 12, (sv_N, (249, (258, []))))), (249, (.aload_n 0, (sv_N, (250, (0, []))))), (250, (.getfield 7, (sv_N, (253, (0, []))))), (253, (.iconst 3, (.inl (3 : Int32), (254, (0, []))))), (254, (.iaload, (sv_N, (255, (0, []))))), (255, (.goto 10, (sv_N, (258, (265, []))))), (258, (.aload_n 0, (sv_N, (259, (0, []))))), (259, (.iload_n 3, (sv_N, (260, (0, []))))), (260, (.bipush 6, (.inl (6 : Int32), (262, (0, []))))), (262, (.invokevirtual 90, (sv_N, (265, (0, []))))), (265, (.invokevirtual 76, (sv_N, (268, (0, []))))), (268, (.iinc 3 1, (.inl (1 : Int32), (271, (0, []))))), (271, (.goto (-112), (sv_N, (274, (159, []))))), (274, (.iload_n 2, (sv_N, (275, (0, []))))), (275, (.ireturn, (sv_N, (276, (0, [])))))]
noncomputable def ev_Mo_goesOn : sv_E := (fun i => sv_lk i fl_12, (fun i => sv_lk i kc_12, (fun _ => false, (true, fun pc => sv_lk pc [(17, (2, .inl n_Mo_hears)), (53, (3, .inl n_Mo_of)), (82, (2, .inl n_Mo_wakes)), (89, (4, .inr (.inl n_Mo_sets))), (96, (1, .inl n_Mo_drawn)), (133, (3, .inl n_Mo_stepFrom)), (136, (4, .inr (.inl n_Mo_sets))), (175, (3, .inl n_Mo_of)), (178, (4, .inr (.inl n_Mo_sets))), (190, (4, .inr (.inl n_Mo_sets))), (196, (3, .inl n_Mo_of)), (227, (3, .inl n_Mo_of)), (232, (4, .inr (.inl n_Mo_sets))), (243, (3, .inl n_Mo_of)), (262, (3, .inl n_Mo_of)), (265, (4, .inr (.inl n_Mo_sets)))]))))
noncomputable def kk_Mo_goesOn_159 (n : Nat) : sv_K (Int32 × sv_S) := fun pc => sv_lk pc [(159, fun lo st σ => match lo, st with
    | [some (.inr (.inr (some (30, 0)))), _, some (.inl x2), some (.inl x3), _], [] => f_Mo_goesOn_159 n x2 x3 σ
    | _, _ => none)]
set_option maxRecDepth 20000 in
theorem e_Mo_goesOn_159 (n : Nat) (x2 : Int32) (x3 : Int32) (z1 z4 : Option sv_V) (σ : sv_S) : sv_ex ev_Mo_goesOn sv_rI (kk_Mo_goesOn_159 n) cd_Mo_goesOn 174 159 [some (.inr (.inr (some (30, 0)))), z1, some (.inl x2), some (.inl x3), z4] [] σ = f_Mo_goesOn_159 (n + 1) x2 x3 σ := by
  rw [f_Mo_goesOn_159.eq_2]
  delta ev_Mo_goesOn kk_Mo_goesOn_159 n_Mo_hears n_Mo_of n_Mo_wakes n_Mo_sets n_Mo_drawn n_Mo_stepFrom
  generalize f_Mo_hears = c0
  generalize f_Mo_of = c1
  generalize f_Mo_wakes = c2
  generalize f_Mo_sets = c3
  generalize f_Mo_drawn = c4
  generalize f_Mo_stepFrom = c5
  generalize f_Mo_goesOn_159 = c6
  rfl
noncomputable def kk_Mo_goesOn_116 (k40 : Int32 → Int32 → sv_S → Option (Int32 × sv_S)) : sv_K (Int32 × sv_S) := fun pc => sv_lk pc [(40, fun lo st σ => match lo, st with
    | [some (.inr (.inr (some (30, 0)))), some (.inl x1), some (.inl x2), _, _], [] => k40 x1 x2 σ
    | _, _ => none)]
set_option maxRecDepth 20000 in
theorem e_Mo_goesOn_116 (k40 : Int32 → Int32 → sv_S → Option (Int32 × sv_S)) (x1 : Int32) (x2 : Int32) (x3 : Int32) (y0 : Int32) (z4 : Option sv_V) (σ : sv_S) : sv_ex ev_Mo_goesOn sv_rI (kk_Mo_goesOn_116 k40) cd_Mo_goesOn 174 116 [some (.inr (.inr (some (30, 0)))), some (.inl x1), some (.inl x2), some (.inl x3), z4] [.inl y0] σ = f_Mo_goesOn_116 k40 x1 x2 x3 y0 σ := by
  unfold f_Mo_goesOn_116
  delta ev_Mo_goesOn kk_Mo_goesOn_116 n_Mo_hears n_Mo_of n_Mo_wakes n_Mo_sets n_Mo_drawn n_Mo_stepFrom
  generalize f_Mo_hears = c0
  generalize f_Mo_of = c1
  generalize f_Mo_wakes = c2
  generalize f_Mo_sets = c3
  generalize f_Mo_drawn = c4
  generalize f_Mo_stepFrom = c5
  generalize f_Mo_goesOn_40 = c6
  rfl
noncomputable def kk_Mo_goesOn_40 (n : Nat) : sv_K (Int32 × sv_S) := fun pc => sv_lk pc [(40, fun lo st σ => match lo, st with
    | [some (.inr (.inr (some (30, 0)))), some (.inl x1), some (.inl x2), _, _], [] => f_Mo_goesOn_40 n x1 x2 σ
    | _, _ => none),
  (116, fun lo st σ => match lo, st with
    | [some (.inr (.inr (some (30, 0)))), some (.inl x1), some (.inl x2), some (.inl x3), _], [.inl y0] => f_Mo_goesOn_116 (f_Mo_goesOn_40 n) x1 x2 x3 y0 σ
    | _, _ => none),
  (159, fun lo st σ => match lo, st with
    | [some (.inr (.inr (some (30, 0)))), _, some (.inl x2), some (.inl x3), _], [] => f_Mo_goesOn_159 sv_fu x2 x3 σ
    | _, _ => none)]
set_option maxRecDepth 20000 in
theorem e_Mo_goesOn_40 (n : Nat) (x1 : Int32) (x2 : Int32) (z3 z4 : Option sv_V) (σ : sv_S) : sv_ex ev_Mo_goesOn sv_rI (kk_Mo_goesOn_40 n) cd_Mo_goesOn 174 40 [some (.inr (.inr (some (30, 0)))), some (.inl x1), some (.inl x2), z3, z4] [] σ = f_Mo_goesOn_40 (n + 1) x1 x2 σ := by
  rw [f_Mo_goesOn_40.eq_2]
  delta ev_Mo_goesOn kk_Mo_goesOn_40 n_Mo_hears n_Mo_of n_Mo_wakes n_Mo_sets n_Mo_drawn n_Mo_stepFrom
  generalize f_Mo_hears = c0
  generalize f_Mo_of = c1
  generalize f_Mo_wakes = c2
  generalize f_Mo_sets = c3
  generalize f_Mo_drawn = c4
  generalize f_Mo_stepFrom = c5
  generalize f_Mo_goesOn_40 = c6
  generalize f_Mo_goesOn_116 = c7
  generalize f_Mo_goesOn_159 = c8
  rfl
noncomputable def kk_Mo_goesOn_4 (n : Nat) : sv_K (Int32 × sv_S) := fun pc => sv_lk pc [(4, fun lo st σ => match lo, st with
    | [some (.inr (.inr (some (30, 0)))), some (.inl x1), some (.inl x2), _, _], [] => f_Mo_goesOn_4 n x1 x2 σ
    | _, _ => none),
  (40, fun lo st σ => match lo, st with
    | [some (.inr (.inr (some (30, 0)))), some (.inl x1), some (.inl x2), _, _], [] => f_Mo_goesOn_40 sv_fu x1 x2 σ
    | _, _ => none)]
set_option maxRecDepth 20000 in
theorem e_Mo_goesOn_4 (n : Nat) (x1 : Int32) (x2 : Int32) (z3 z4 : Option sv_V) (σ : sv_S) : sv_ex ev_Mo_goesOn sv_rI (kk_Mo_goesOn_4 n) cd_Mo_goesOn 174 4 [some (.inr (.inr (some (30, 0)))), some (.inl x1), some (.inl x2), z3, z4] [] σ = f_Mo_goesOn_4 (n + 1) x1 x2 σ := by
  rw [f_Mo_goesOn_4.eq_2]
  delta ev_Mo_goesOn kk_Mo_goesOn_4 n_Mo_hears n_Mo_of n_Mo_wakes n_Mo_sets n_Mo_drawn n_Mo_stepFrom
  generalize f_Mo_hears = c0
  generalize f_Mo_of = c1
  generalize f_Mo_wakes = c2
  generalize f_Mo_sets = c3
  generalize f_Mo_drawn = c4
  generalize f_Mo_stepFrom = c5
  generalize f_Mo_goesOn_4 = c6
  generalize f_Mo_goesOn_40 = c7
  rfl
noncomputable def kk_Mo_goesOn : sv_K (Int32 × sv_S) := fun pc => sv_lk pc [(4, fun lo st σ => match lo, st with
    | [some (.inr (.inr (some (30, 0)))), some (.inl x1), some (.inl x2), _, _], [] => f_Mo_goesOn_4 sv_fu x1 x2 σ
    | _, _ => none)]
set_option maxRecDepth 20000 in
theorem e_Mo_goesOn (σ : sv_S) : sv_ex ev_Mo_goesOn sv_rI kk_Mo_goesOn cd_Mo_goesOn 174 0 [some (.inr (.inr (some (30, 0)))), none, none, none, none] [] σ = f_Mo_goesOn σ := by
  unfold f_Mo_goesOn
  delta ev_Mo_goesOn kk_Mo_goesOn n_Mo_hears n_Mo_of n_Mo_wakes n_Mo_sets n_Mo_drawn n_Mo_stepFrom
  generalize f_Mo_hears = c0
  generalize f_Mo_of = c1
  generalize f_Mo_wakes = c2
  generalize f_Mo_sets = c3
  generalize f_Mo_drawn = c4
  generalize f_Mo_stepFrom = c5
  generalize f_Mo_goesOn_4 = c6
  rfl
theorem d_Mo_goesOn : cd_Mo_goesOn.all (sv_dk cX12_goesOn) = true := by decide +kernel
set_option maxRecDepth 20000 in
theorem w_Mo_goesOn_159 {Γ : sv_Ga} {res : Int32 × sv_S} (X : sv_Ok Γ ev_Mo_goesOn cX12_goesOn sv_rI res) : ∀ (n : Nat) (x2 : Int32) (x3 : Int32) (z1 z4 : Option sv_V) (σ : sv_S), f_Mo_goesOn_159 n x2 x3 σ = some res → sv_T Γ 159 [some (.inr (.inr (some (30, 0)))), z1, some (.inl x2), some (.inl x3), z4] [] σ := by
  intro n
  induction n with
  | zero =>
    intro x2 x3 z1 z4 σ h
    rw [f_Mo_goesOn_159.eq_1] at h
    cases h
  | succ n ih =>
    intro x2 x3 z1 z4 σ h
    refine sv_run X d_Mo_goesOn (K := kk_Mo_goesOn_159 n) (sv_lk_all (P := fun pc (k : sv_Lo → List sv_V → sv_S → Option (Int32 × sv_S)) => ∀ lo st σ, k lo st σ = some res → sv_T Γ pc lo st σ) ?_) _ _ _ _ _ ((e_Mo_goesOn_159 n x2 x3 z1 z4 σ).trans h)
    clear h
    refine List.forall_mem_cons.mpr ⟨fun lo st σ h => ?_, fun _ h => absurd h List.not_mem_nil⟩
    · dsimp only at h
      split at h
      · exact ih _ _ _ _ _ h
      · cases h

set_option maxRecDepth 20000 in
theorem w_Mo_goesOn_116 {Γ : sv_Ga} {res : Int32 × sv_S} (X : sv_Ok Γ ev_Mo_goesOn cX12_goesOn sv_rI res) (k40 : Int32 → Int32 → sv_S → Option (Int32 × sv_S)) (h40 : ∀ (x1 : Int32) (x2 : Int32) (z3 z4 : Option sv_V) (σ : sv_S), k40 x1 x2 σ = some res → sv_T Γ 40 [some (.inr (.inr (some (30, 0)))), some (.inl x1), some (.inl x2), z3, z4] [] σ) : ∀ (x1 : Int32) (x2 : Int32) (x3 : Int32) (y0 : Int32) (z4 : Option sv_V) (σ : sv_S), f_Mo_goesOn_116 k40 x1 x2 x3 y0 σ = some res → sv_T Γ 116 [some (.inr (.inr (some (30, 0)))), some (.inl x1), some (.inl x2), some (.inl x3), z4] [.inl y0] σ := by
  intro x1 x2 x3 y0 z4 σ h
  refine sv_run X d_Mo_goesOn (K := kk_Mo_goesOn_116 k40) (sv_lk_all (P := fun pc (k : sv_Lo → List sv_V → sv_S → Option (Int32 × sv_S)) => ∀ lo st σ, k lo st σ = some res → sv_T Γ pc lo st σ) ?_) _ _ _ _ _ ((e_Mo_goesOn_116 k40 x1 x2 x3 y0 z4 σ).trans h)
  clear h
  refine List.forall_mem_cons.mpr ⟨fun lo st σ h => ?_, fun _ h => absurd h List.not_mem_nil⟩
  · dsimp only at h
    split at h
    · exact h40 _ _ _ _ _ h
    · cases h

set_option maxRecDepth 20000 in
theorem w_Mo_goesOn_40 {Γ : sv_Ga} {res : Int32 × sv_S} (X : sv_Ok Γ ev_Mo_goesOn cX12_goesOn sv_rI res) : ∀ (n : Nat) (x1 : Int32) (x2 : Int32) (z3 z4 : Option sv_V) (σ : sv_S), f_Mo_goesOn_40 n x1 x2 σ = some res → sv_T Γ 40 [some (.inr (.inr (some (30, 0)))), some (.inl x1), some (.inl x2), z3, z4] [] σ := by
  intro n
  induction n with
  | zero =>
    intro x1 x2 z3 z4 σ h
    rw [f_Mo_goesOn_40.eq_1] at h
    cases h
  | succ n ih =>
    intro x1 x2 z3 z4 σ h
    refine sv_run X d_Mo_goesOn (K := kk_Mo_goesOn_40 n) (sv_lk_all (P := fun pc (k : sv_Lo → List sv_V → sv_S → Option (Int32 × sv_S)) => ∀ lo st σ, k lo st σ = some res → sv_T Γ pc lo st σ) ?_) _ _ _ _ _ ((e_Mo_goesOn_40 n x1 x2 z3 z4 σ).trans h)
    clear h
    refine List.forall_mem_cons.mpr ⟨fun lo st σ h => ?_, List.forall_mem_cons.mpr ⟨fun lo st σ h => ?_, List.forall_mem_cons.mpr ⟨fun lo st σ h => ?_, fun _ h => absurd h List.not_mem_nil⟩⟩⟩
    · dsimp only at h
      split at h
      · exact ih _ _ _ _ _ h
      · cases h
    · dsimp only at h
      split at h
      · exact w_Mo_goesOn_116 X _ ih _ _ _ _ _ _ h
      · cases h
    · dsimp only at h
      split at h
      · exact w_Mo_goesOn_159 X _ _ _ _ _ _ h
      · cases h

set_option maxRecDepth 20000 in
theorem w_Mo_goesOn_4 {Γ : sv_Ga} {res : Int32 × sv_S} (X : sv_Ok Γ ev_Mo_goesOn cX12_goesOn sv_rI res) : ∀ (n : Nat) (x1 : Int32) (x2 : Int32) (z3 z4 : Option sv_V) (σ : sv_S), f_Mo_goesOn_4 n x1 x2 σ = some res → sv_T Γ 4 [some (.inr (.inr (some (30, 0)))), some (.inl x1), some (.inl x2), z3, z4] [] σ := by
  intro n
  induction n with
  | zero =>
    intro x1 x2 z3 z4 σ h
    rw [f_Mo_goesOn_4.eq_1] at h
    cases h
  | succ n ih =>
    intro x1 x2 z3 z4 σ h
    refine sv_run X d_Mo_goesOn (K := kk_Mo_goesOn_4 n) (sv_lk_all (P := fun pc (k : sv_Lo → List sv_V → sv_S → Option (Int32 × sv_S)) => ∀ lo st σ, k lo st σ = some res → sv_T Γ pc lo st σ) ?_) _ _ _ _ _ ((e_Mo_goesOn_4 n x1 x2 z3 z4 σ).trans h)
    clear h
    refine List.forall_mem_cons.mpr ⟨fun lo st σ h => ?_, List.forall_mem_cons.mpr ⟨fun lo st σ h => ?_, fun _ h => absurd h List.not_mem_nil⟩⟩
    · dsimp only at h
      split at h
      · exact ih _ _ _ _ _ h
      · cases h
    · dsimp only at h
      split at h
      · exact w_Mo_goesOn_40 X _ _ _ _ _ _ h
      · cases h

set_option maxRecDepth 20000 in
theorem b_Mo_goesOn (Γ : sv_Ga) (res : Int32 × sv_S) (X : sv_Ok Γ ev_Mo_goesOn cX12_goesOn sv_rI res) (as : List sv_V) (σ : sv_S) (h : n_Mo_goesOn as σ = some res) : sv_T Γ 0 (sv_e0 5 as) [] σ := by
  unfold n_Mo_goesOn at h
  split at h
  · refine sv_run X d_Mo_goesOn (K := kk_Mo_goesOn) (sv_lk_all (P := fun pc (k : sv_Lo → List sv_V → sv_S → Option (Int32 × sv_S)) => ∀ lo st σ, k lo st σ = some res → sv_T Γ pc lo st σ) ?_) _ _ _ _ _ ((e_Mo_goesOn _).trans h)
    clear h
    refine List.forall_mem_cons.mpr ⟨fun lo st σ h => ?_, fun _ h => absurd h List.not_mem_nil⟩
    · dsimp only at h
      split at h
      · exact w_Mo_goesOn_4 X _ _ _ _ _ _ h
      · cases h
  · cases h
theorem a_Mo_goesOn (as : List sv_V) (σ : sv_S) (x : Int32 × sv_S) (h : n_Mo_goesOn as σ = some x) : sv_args 5 ev_Mo_goesOn.2.2.2.1 as := by
  unfold n_Mo_goesOn at h
  split at h
  · exact ⟨Nat.le_of_ble_eq_true rfl, fun _ v hv => by
      simp only [List.mem_cons, List.not_mem_nil, or_false] at hv
      rcases hv with rfl <;> trivial⟩
  · cases h
theorem g_Mo_goesOn (as : List sv_V) (σ : sv_S) (x : Option sv_V × sv_S) (h : sv_gI n_Mo_goesOn as σ = some x) : ∃ r i as', as = sv_R r i :: as' ∧ sv_kd r i = .inl 12 := by
  obtain ⟨_, _, h, -⟩ := sv_b_some h
  unfold n_Mo_goesOn at h
  split at h
  · exact ⟨_, _, _, rfl, rfl⟩
  · cases h

set_option maxRecDepth 20000 in
theorem m_Mo_goesOn (l : Launch) : sv_M l yX12_goesOn cX12_goesOn 5 (some .int) (sv_gI n_Mo_goesOn) 4 := by
  refine sv_mI (E := ev_Mo_goesOn) (by decide +kernel) (ln_gen fk_12 kk_12 (sv_ns _ (fun _ => rfl) _)) ?_ a_Mo_goesOn b_Mo_goesOn
  intro p e R s m args below meth c cells slots Q base ad dC dI cA n0 S hkn hR hf pc n f h
  refine sv_lk_all (P := fun pc (x : Nat × sv_F) => sv_cok p l e R s m args below meth c cells slots Q base ad dC dI cA true 5 n0 pc x.1 x.2) ?_ pc (n, f) h
  exact List.forall_mem_cons.mpr ⟨(sv_cV S hkn (m_Mo_hears l) ⟨Nat.le_trans (by decide) hR.1, Nat.le_trans (by decide) hR.2⟩ (by decide) hf rfl g_Mo_hears (sv_w5 tw_1125 tw_1127 tw_11 tw_65 tw_1128) (by decide +kernel) (sv_dc3 d_Mo_goesOn (pc := 17) rfl rfl)).I,
      List.forall_mem_cons.mpr ⟨(sv_cV S hkn (m_Mo_of l) ⟨Nat.le_trans (by decide) hR.1, Nat.le_trans (by decide) hR.2⟩ (by decide) hf rfl g_Mo_of (sv_w5 tw_1120 tw_1122 tw_10 tw_65 tw_1123) (by decide +kernel) (sv_dc3 d_Mo_goesOn (pc := 53) rfl rfl)).I,
      List.forall_mem_cons.mpr ⟨(sv_cV S hkn (m_Mo_wakes l) ⟨Nat.le_trans (by decide) hR.1, Nat.le_trans (by decide) hR.2⟩ (by decide) hf rfl g_Mo_wakes (sv_w5 tw_1156 tw_1158 tw_18 tw_65 tw_1159) (by decide +kernel) (sv_dc3 d_Mo_goesOn (pc := 82) rfl rfl)).I,
      List.forall_mem_cons.mpr ⟨(sv_cV S hkn (m_Mo_sets l) ⟨Nat.le_trans (by decide) hR.1, Nat.le_trans (by decide) hR.2⟩ (by decide) hf rfl g_Mo_sets (sv_w5 tw_1108 tw_1110 tw_8 tw_65 tw_1111) (by decide +kernel) (sv_dc3 d_Mo_goesOn (pc := 89) rfl rfl)).V,
      List.forall_mem_cons.mpr ⟨(sv_cV S hkn (m_Mo_drawn l) ⟨Nat.le_trans (by decide) hR.1, Nat.le_trans (by decide) hR.2⟩ (by decide) hf rfl g_Mo_drawn (sv_w5 tw_1202 tw_1204 tw_22 tw_65 tw_1205) (by decide +kernel) (sv_dc3 d_Mo_goesOn (pc := 96) rfl rfl)).I,
      List.forall_mem_cons.mpr ⟨(sv_cV S hkn (m_Mo_stepFrom l) ⟨Nat.le_trans (by decide) hR.1, Nat.le_trans (by decide) hR.2⟩ (by decide) hf rfl g_Mo_stepFrom (sv_w5 tw_1163 tw_1165 tw_19 tw_65 tw_1166) (by decide +kernel) (sv_dc3 d_Mo_goesOn (pc := 133) rfl rfl)).I,
      List.forall_mem_cons.mpr ⟨(sv_cV S hkn (m_Mo_sets l) ⟨Nat.le_trans (by decide) hR.1, Nat.le_trans (by decide) hR.2⟩ (by decide) hf rfl g_Mo_sets (sv_w5 tw_1108 tw_1110 tw_8 tw_65 tw_1111) (by decide +kernel) (sv_dc3 d_Mo_goesOn (pc := 136) rfl rfl)).V,
      List.forall_mem_cons.mpr ⟨(sv_cV S hkn (m_Mo_of l) ⟨Nat.le_trans (by decide) hR.1, Nat.le_trans (by decide) hR.2⟩ (by decide) hf rfl g_Mo_of (sv_w5 tw_1120 tw_1122 tw_10 tw_65 tw_1123) (by decide +kernel) (sv_dc3 d_Mo_goesOn (pc := 175) rfl rfl)).I,
      List.forall_mem_cons.mpr ⟨(sv_cV S hkn (m_Mo_sets l) ⟨Nat.le_trans (by decide) hR.1, Nat.le_trans (by decide) hR.2⟩ (by decide) hf rfl g_Mo_sets (sv_w5 tw_1108 tw_1110 tw_8 tw_65 tw_1111) (by decide +kernel) (sv_dc3 d_Mo_goesOn (pc := 178) rfl rfl)).V,
      List.forall_mem_cons.mpr ⟨(sv_cV S hkn (m_Mo_sets l) ⟨Nat.le_trans (by decide) hR.1, Nat.le_trans (by decide) hR.2⟩ (by decide) hf rfl g_Mo_sets (sv_w5 tw_1108 tw_1110 tw_8 tw_65 tw_1111) (by decide +kernel) (sv_dc3 d_Mo_goesOn (pc := 190) rfl rfl)).V,
      List.forall_mem_cons.mpr ⟨(sv_cV S hkn (m_Mo_of l) ⟨Nat.le_trans (by decide) hR.1, Nat.le_trans (by decide) hR.2⟩ (by decide) hf rfl g_Mo_of (sv_w5 tw_1120 tw_1122 tw_10 tw_65 tw_1123) (by decide +kernel) (sv_dc3 d_Mo_goesOn (pc := 196) rfl rfl)).I,
      List.forall_mem_cons.mpr ⟨(sv_cV S hkn (m_Mo_of l) ⟨Nat.le_trans (by decide) hR.1, Nat.le_trans (by decide) hR.2⟩ (by decide) hf rfl g_Mo_of (sv_w5 tw_1120 tw_1122 tw_10 tw_65 tw_1123) (by decide +kernel) (sv_dc3 d_Mo_goesOn (pc := 227) rfl rfl)).I,
      List.forall_mem_cons.mpr ⟨(sv_cV S hkn (m_Mo_sets l) ⟨Nat.le_trans (by decide) hR.1, Nat.le_trans (by decide) hR.2⟩ (by decide) hf rfl g_Mo_sets (sv_w5 tw_1108 tw_1110 tw_8 tw_65 tw_1111) (by decide +kernel) (sv_dc3 d_Mo_goesOn (pc := 232) rfl rfl)).V,
      List.forall_mem_cons.mpr ⟨(sv_cV S hkn (m_Mo_of l) ⟨Nat.le_trans (by decide) hR.1, Nat.le_trans (by decide) hR.2⟩ (by decide) hf rfl g_Mo_of (sv_w5 tw_1120 tw_1122 tw_10 tw_65 tw_1123) (by decide +kernel) (sv_dc3 d_Mo_goesOn (pc := 243) rfl rfl)).I,
      List.forall_mem_cons.mpr ⟨(sv_cV S hkn (m_Mo_of l) ⟨Nat.le_trans (by decide) hR.1, Nat.le_trans (by decide) hR.2⟩ (by decide) hf rfl g_Mo_of (sv_w5 tw_1120 tw_1122 tw_10 tw_65 tw_1123) (by decide +kernel) (sv_dc3 d_Mo_goesOn (pc := 262) rfl rfl)).I,
      List.forall_mem_cons.mpr ⟨(sv_cV S hkn (m_Mo_sets l) ⟨Nat.le_trans (by decide) hR.1, Nat.le_trans (by decide) hR.2⟩ (by decide) hf rfl g_Mo_sets (sv_w5 tw_1108 tw_1110 tw_8 tw_65 tw_1111) (by decide +kernel) (sv_dc3 d_Mo_goesOn (pc := 265) rfl rfl)).V,
      fun _ h => absurd h List.not_mem_nil⟩⟩⟩⟩⟩⟩⟩⟩⟩⟩⟩⟩⟩⟩⟩⟩
noncomputable def f_Mo_ones_4 : Nat → Int32 → Int32 → Int32 → sv_S → Option (Int32 × sv_S)
  | 0, _, _, _, _ => none
  | n + 1, x0, x1, x2, σ =>
    sv_if ((10 : Int32) ≤ x2)
      (some (x1, σ))
      (f_Mo_ones_4 n x0 (x1 + ((x0 >>> (x2 &&& 31)) &&& (1 : Int32))) (x2 + (1 : Int32)) σ)
noncomputable def f_Mo_ones (a0 : Int32) (σ : sv_S) : Option (Int32 × sv_S) :=
  f_Mo_ones_4 sv_fu a0 (0 : Int32) (0 : Int32) σ
noncomputable def n_Mo_ones : List sv_V → sv_S → Option (Int32 × sv_S)
  | [.inl a0], σ => f_Mo_ones a0 σ
  | _, _ => none
def cd_Mo_ones : sv_C := [(0, (.iconst 0, (.inl (0 : Int32), (1, (0, []))))), (1, (.istore_n 1, (sv_N, (2, (0, []))))), (2, (.iconst 0, (.inl (0 : Int32), (3, (0, []))))), (3, (.istore_n 2, (sv_N, (4, (0, []))))), (4, (.iload_n 2, (sv_N, (5, (0, []))))), (5, (.bipush 10, (.inl (10 : Int32), (7, (0, []))))), (7, (.if_icmp .ge 17, (sv_N, (10, (24, []))))), (10, (.iload_n 1, (sv_N, (11, (0, []))))), (11, (.iload_n 0, (sv_N, (12, (0, []))))), (12, (.iload_n 2, (sv_N, (13, (0, []))))), (13, (.ishr, (sv_N, (14, (0, []))))), (14, (.iconst 1, (.inl (1 : Int32), (15, (0, []))))), (15, (.iand, (sv_N, (16, (0, []))))), (16, (.iadd, (sv_N, (17, (0, []))))), (17, (.istore_n 1, (sv_N, (18, (0, []))))), (18, (.iinc 2 1, (.inl (1 : Int32), (21, (0, []))))), (21, (.goto (-17), (sv_N, (24, (4, []))))), (24, (.iload_n 1, (sv_N, (25, (0, []))))), (25, (.ireturn, (sv_N, (26, (0, [])))))]
noncomputable def ev_Mo_ones : sv_E := (fun i => sv_lk i fl_12, (fun i => sv_lk i kc_12, (fun _ => false, (true, fun pc => sv_lk pc []))))
noncomputable def kk_Mo_ones_4 (n : Nat) : sv_K (Int32 × sv_S) := fun pc => sv_lk pc [(4, fun lo st σ => match lo, st with
    | [some (.inl x0), some (.inl x1), some (.inl x2)], [] => f_Mo_ones_4 n x0 x1 x2 σ
    | _, _ => none)]
set_option maxRecDepth 20000 in
theorem e_Mo_ones_4 (n : Nat) (x0 : Int32) (x1 : Int32) (x2 : Int32) (σ : sv_S) : sv_ex ev_Mo_ones sv_rI (kk_Mo_ones_4 n) cd_Mo_ones 21 4 [some (.inl x0), some (.inl x1), some (.inl x2)] [] σ = f_Mo_ones_4 (n + 1) x0 x1 x2 σ := by
  rw [f_Mo_ones_4.eq_2]
  delta ev_Mo_ones kk_Mo_ones_4
  generalize f_Mo_ones_4 = c0
  rfl
noncomputable def kk_Mo_ones : sv_K (Int32 × sv_S) := fun pc => sv_lk pc [(4, fun lo st σ => match lo, st with
    | [some (.inl x0), some (.inl x1), some (.inl x2)], [] => f_Mo_ones_4 sv_fu x0 x1 x2 σ
    | _, _ => none)]
set_option maxRecDepth 20000 in
theorem e_Mo_ones (a0 : Int32) (σ : sv_S) : sv_ex ev_Mo_ones sv_rI kk_Mo_ones cd_Mo_ones 21 0 [some (.inl a0), none, none] [] σ = f_Mo_ones a0 σ := by
  unfold f_Mo_ones
  delta ev_Mo_ones kk_Mo_ones
  generalize f_Mo_ones_4 = c0
  rfl
theorem d_Mo_ones : cd_Mo_ones.all (sv_dk cX12_ones) = true := by decide +kernel
set_option maxRecDepth 20000 in
theorem w_Mo_ones_4 {Γ : sv_Ga} {res : Int32 × sv_S} (X : sv_Ok Γ ev_Mo_ones cX12_ones sv_rI res) : ∀ (n : Nat) (x0 : Int32) (x1 : Int32) (x2 : Int32) (σ : sv_S), f_Mo_ones_4 n x0 x1 x2 σ = some res → sv_T Γ 4 [some (.inl x0), some (.inl x1), some (.inl x2)] [] σ := by
  intro n
  induction n with
  | zero =>
    intro x0 x1 x2 σ h
    rw [f_Mo_ones_4.eq_1] at h
    cases h
  | succ n ih =>
    intro x0 x1 x2 σ h
    refine sv_run X d_Mo_ones (K := kk_Mo_ones_4 n) (sv_lk_all (P := fun pc (k : sv_Lo → List sv_V → sv_S → Option (Int32 × sv_S)) => ∀ lo st σ, k lo st σ = some res → sv_T Γ pc lo st σ) ?_) _ _ _ _ _ ((e_Mo_ones_4 n x0 x1 x2 σ).trans h)
    clear h
    refine List.forall_mem_cons.mpr ⟨fun lo st σ h => ?_, fun _ h => absurd h List.not_mem_nil⟩
    · dsimp only at h
      split at h
      · exact ih _ _ _ _ h
      · cases h

set_option maxRecDepth 20000 in
theorem b_Mo_ones (Γ : sv_Ga) (res : Int32 × sv_S) (X : sv_Ok Γ ev_Mo_ones cX12_ones sv_rI res) (as : List sv_V) (σ : sv_S) (h : n_Mo_ones as σ = some res) : sv_T Γ 0 (sv_e0 3 as) [] σ := by
  unfold n_Mo_ones at h
  split at h
  · refine sv_run X d_Mo_ones (K := kk_Mo_ones) (sv_lk_all (P := fun pc (k : sv_Lo → List sv_V → sv_S → Option (Int32 × sv_S)) => ∀ lo st σ, k lo st σ = some res → sv_T Γ pc lo st σ) ?_) _ _ _ _ _ ((e_Mo_ones _ _).trans h)
    clear h
    refine List.forall_mem_cons.mpr ⟨fun lo st σ h => ?_, fun _ h => absurd h List.not_mem_nil⟩
    · dsimp only at h
      split at h
      · exact w_Mo_ones_4 X _ _ _ _ _ h
      · cases h
  · cases h
theorem a_Mo_ones (as : List sv_V) (σ : sv_S) (x : Int32 × sv_S) (h : n_Mo_ones as σ = some x) : sv_args 3 ev_Mo_ones.2.2.2.1 as := by
  unfold n_Mo_ones at h
  split at h
  · exact ⟨Nat.le_of_ble_eq_true rfl, fun _ v hv => by
      simp only [List.mem_cons, List.not_mem_nil, or_false] at hv
      rcases hv with rfl <;> trivial⟩
  · cases h

set_option maxRecDepth 20000 in
theorem m_Mo_ones (l : Launch) : sv_M l yX12_ones cX12_ones 3 (some .int) (sv_gI n_Mo_ones) 0 := by
  refine sv_mI (E := ev_Mo_ones) (by decide +kernel) (ln_gen fk_12 kk_12 (sv_ns _ (fun _ => rfl) _)) ?_ a_Mo_ones b_Mo_ones
  intro p e R s m args below meth c cells slots Q base ad dC dI cA n0 S hkn hR hf pc n f h
  refine sv_lk_all (P := fun pc (x : Nat × sv_F) => sv_cok p l e R s m args below meth c cells slots Q base ad dC dI cA true 3 n0 pc x.1 x.2) ?_ pc (n, f) h
  exact fun _ h => absurd h List.not_mem_nil
noncomputable def f_Mo_beats_19 : Nat → Int32 → Int32 → Int32 → sv_S → Option (Int32 × sv_S)
  | 0, _, _, _, _ => none
  | n + 1, x1, x2, x3, σ =>
    sv_if (x1 ≤ x3)
      (some (x2, σ))
      (sv_g (sv_in (3 : Int32) 3086) (sv_if ((9999 : Int32) ≤ (σ 31 0 ((3 : Int32).toNatClampNeg)))
        (some (x2, σ))
        (sv_b (f_Mo_goesOn σ) (fun v1 σ2 =>
          sv_b (f_Mo_ones v1 σ2) (fun v3 σ4 =>
            f_Mo_beats_19 n x1 (x2 + v3) (x3 + (1 : Int32)) σ4)))))
noncomputable def f_Mo_beats (a1 : Int32) (σ : sv_S) : Option (Int32 × sv_S) :=
  sv_b (f_Mo_isIn (a1.toInt64) (1 : Int64) (100 : Int64) σ) (fun v1 σ2 =>
    sv_if (v1 = 0)
      (some ((-1000000001 : Int32), σ2))
      (f_Mo_beats_19 sv_fu a1 (0 : Int32) (0 : Int32) σ2))
noncomputable def n_Mo_beats : List sv_V → sv_S → Option (Int32 × sv_S)
  | [.inr (.inr (some (30, 0))), .inl a1], σ => f_Mo_beats a1 σ
  | _, _ => none
def cd_Mo_beats : sv_C := [(0, (.iload_n 1, (sv_N, (1, (0, []))))), (1, (.i2l, (sv_N, (2, (0, []))))), (2, (.lconst 1, (.inr (.inl (1 : Int64)), (3, (0, []))))), (3, (.ldc2_w 139, (sv_N, (6, (0, []))))), (6, (.invokestatic 71, (sv_N, (9, (0, []))))), (9, (.ifCond .ne 6, (sv_N, (12, (15, []))))), (12, (.ldc 84, (sv_N, (14, (0, []))))), (14, (.ireturn, (sv_N, (15, (0, []))))), (15, (.iconst 0, (.inl (0 : Int32), (16, (0, []))))), (16, (.istore_n 2, (sv_N, (17, (0, []))))), (17, (.iconst 0, (.inl (0 : Int32), (18, (0, []))))), (18, (.istore_n 3, (sv_N, (19, (0, []))))), (19, (.iload_n 3, (sv_N, (20, (0, []))))), (20, (.iload_n 1, (sv_N, (21, (0, []))))), (21, (.if_icmp .ge 31, (sv_N, (24, (52, []))))), (24, (.aload_n 0, (sv_N, (25, (0, []))))), (25, (.getfield 7, (sv_N, (28, (0, []))))), (28, (.iconst 3, (.inl (3 : Int32), (29, (0, []))))), (29, (.iaload, (sv_N, (30, (0, []))))), (30, (.sipush 9999, (.inl (9999 : Int32), (33, (0, []))))), (33, (.if_icmp .ge 19, (sv_N, (36, (52, []))))), (36, (.iload_n 2, (sv_N, (37, (0, []))))), (37, (.aload_n 0, (sv_N, (38, (0, []))))), (38, (.invokevirtual 154, (sv_N, (41, (0, []))))), (41, (.invokestatic 157, (sv_N, (44, (0, []))))), (44, (.iadd, (sv_N, (45, (0, []))))), (45, (.istore_n 2, (sv_N, (46, (0, []))))), (46, (.iinc 3 1, (.inl (1 : Int32), (49, (0, []))))), (49, (.goto (-30), (sv_N, (52, (19, []))))), (52, (.iload_n 2, (sv_N, (53, (0, []))))), (53, (.ireturn, (sv_N, (54, (0, [])))))]
noncomputable def ev_Mo_beats : sv_E := (fun i => sv_lk i fl_12, (fun i => sv_lk i kc_12, (fun _ => false, (true, fun pc => sv_lk pc [(6, (3, .inl n_Mo_isIn)), (38, (1, .inl n_Mo_goesOn)), (41, (1, .inl n_Mo_ones))]))))
noncomputable def kk_Mo_beats_19 (n : Nat) : sv_K (Int32 × sv_S) := fun pc => sv_lk pc [(19, fun lo st σ => match lo, st with
    | [some (.inr (.inr (some (30, 0)))), some (.inl x1), some (.inl x2), some (.inl x3)], [] => f_Mo_beats_19 n x1 x2 x3 σ
    | _, _ => none)]
set_option maxRecDepth 20000 in
theorem e_Mo_beats_19 (n : Nat) (x1 : Int32) (x2 : Int32) (x3 : Int32) (σ : sv_S) : sv_ex ev_Mo_beats sv_rI (kk_Mo_beats_19 n) cd_Mo_beats 33 19 [some (.inr (.inr (some (30, 0)))), some (.inl x1), some (.inl x2), some (.inl x3)] [] σ = f_Mo_beats_19 (n + 1) x1 x2 x3 σ := by
  rw [f_Mo_beats_19.eq_2]
  delta ev_Mo_beats kk_Mo_beats_19 n_Mo_isIn n_Mo_goesOn n_Mo_ones
  generalize f_Mo_isIn = c0
  generalize f_Mo_goesOn = c1
  generalize f_Mo_ones = c2
  generalize f_Mo_beats_19 = c3
  rfl
noncomputable def kk_Mo_beats : sv_K (Int32 × sv_S) := fun pc => sv_lk pc [(19, fun lo st σ => match lo, st with
    | [some (.inr (.inr (some (30, 0)))), some (.inl x1), some (.inl x2), some (.inl x3)], [] => f_Mo_beats_19 sv_fu x1 x2 x3 σ
    | _, _ => none)]
set_option maxRecDepth 20000 in
theorem e_Mo_beats (a1 : Int32) (σ : sv_S) : sv_ex ev_Mo_beats sv_rI kk_Mo_beats cd_Mo_beats 33 0 [some (.inr (.inr (some (30, 0)))), some (.inl a1), none, none] [] σ = f_Mo_beats a1 σ := by
  unfold f_Mo_beats
  delta ev_Mo_beats kk_Mo_beats n_Mo_isIn n_Mo_goesOn n_Mo_ones
  generalize f_Mo_isIn = c0
  generalize f_Mo_goesOn = c1
  generalize f_Mo_ones = c2
  generalize f_Mo_beats_19 = c3
  rfl
theorem d_Mo_beats : cd_Mo_beats.all (sv_dk cX12_beats) = true := by decide +kernel
set_option maxRecDepth 20000 in
theorem w_Mo_beats_19 {Γ : sv_Ga} {res : Int32 × sv_S} (X : sv_Ok Γ ev_Mo_beats cX12_beats sv_rI res) : ∀ (n : Nat) (x1 : Int32) (x2 : Int32) (x3 : Int32) (σ : sv_S), f_Mo_beats_19 n x1 x2 x3 σ = some res → sv_T Γ 19 [some (.inr (.inr (some (30, 0)))), some (.inl x1), some (.inl x2), some (.inl x3)] [] σ := by
  intro n
  induction n with
  | zero =>
    intro x1 x2 x3 σ h
    rw [f_Mo_beats_19.eq_1] at h
    cases h
  | succ n ih =>
    intro x1 x2 x3 σ h
    refine sv_run X d_Mo_beats (K := kk_Mo_beats_19 n) (sv_lk_all (P := fun pc (k : sv_Lo → List sv_V → sv_S → Option (Int32 × sv_S)) => ∀ lo st σ, k lo st σ = some res → sv_T Γ pc lo st σ) ?_) _ _ _ _ _ ((e_Mo_beats_19 n x1 x2 x3 σ).trans h)
    clear h
    refine List.forall_mem_cons.mpr ⟨fun lo st σ h => ?_, fun _ h => absurd h List.not_mem_nil⟩
    · dsimp only at h
      split at h
      · exact ih _ _ _ _ h
      · cases h

set_option maxRecDepth 20000 in
theorem b_Mo_beats (Γ : sv_Ga) (res : Int32 × sv_S) (X : sv_Ok Γ ev_Mo_beats cX12_beats sv_rI res) (as : List sv_V) (σ : sv_S) (h : n_Mo_beats as σ = some res) : sv_T Γ 0 (sv_e0 4 as) [] σ := by
  unfold n_Mo_beats at h
  split at h
  · refine sv_run X d_Mo_beats (K := kk_Mo_beats) (sv_lk_all (P := fun pc (k : sv_Lo → List sv_V → sv_S → Option (Int32 × sv_S)) => ∀ lo st σ, k lo st σ = some res → sv_T Γ pc lo st σ) ?_) _ _ _ _ _ ((e_Mo_beats _ _).trans h)
    clear h
    refine List.forall_mem_cons.mpr ⟨fun lo st σ h => ?_, fun _ h => absurd h List.not_mem_nil⟩
    · dsimp only at h
      split at h
      · exact w_Mo_beats_19 X _ _ _ _ _ h
      · cases h
  · cases h
theorem a_Mo_beats (as : List sv_V) (σ : sv_S) (x : Int32 × sv_S) (h : n_Mo_beats as σ = some x) : sv_args 4 ev_Mo_beats.2.2.2.1 as := by
  unfold n_Mo_beats at h
  split at h
  · exact ⟨Nat.le_of_ble_eq_true rfl, fun _ v hv => by
      simp only [List.mem_cons, List.not_mem_nil, or_false] at hv
      rcases hv with rfl | rfl <;> trivial⟩
  · cases h
theorem g_Mo_beats (as : List sv_V) (σ : sv_S) (x : Option sv_V × sv_S) (h : sv_gI n_Mo_beats as σ = some x) : ∃ r i as', as = sv_R r i :: as' ∧ sv_kd r i = .inl 12 := by
  obtain ⟨_, _, h, -⟩ := sv_b_some h
  unfold n_Mo_beats at h
  split at h
  · exact ⟨_, _, _, rfl, rfl⟩
  · cases h
theorem tw_25 : Cond.selects RX12 yX12_goesOn yX12_goesOn ∈ gw_tbl := gw_at 25 (by decide +kernel) rfl
theorem tw_1232 : Cond.methodLink RX12 154 yX12_goesOn ∈ gw_tbl := gw_at 1232 (by decide +kernel) rfl
theorem tw_1234 : Cond.instanceMethod yX12_goesOn ∈ gw_tbl := gw_at 1234 (by decide +kernel) rfl
theorem tw_1235 : Cond.code yX12_goesOn cX12_goesOn 5 (some .int) ∈ gw_tbl := gw_at 1235 (by decide +kernel) rfl
theorem tw_1236 : Cond.methodLink RX12 157 yX12_ones ∈ gw_tbl := gw_at 1236 (by decide +kernel) rfl
theorem tw_1237 : Cond.static yX12_ones ∈ gw_tbl := gw_at 1237 (by decide +kernel) rfl
theorem tw_1238 : Cond.code yX12_ones cX12_ones 3 (some .int) ∈ gw_tbl := gw_at 1238 (by decide +kernel) rfl
set_option maxRecDepth 20000 in
theorem m_Mo_beats (l : Launch) : sv_M l yX12_beats cX12_beats 4 (some .int) (sv_gI n_Mo_beats) 5 := by
  refine sv_mI (E := ev_Mo_beats) (by decide +kernel) (ln_gen fk_12 kk_12 (sv_ns _ (fun _ => rfl) _)) ?_ a_Mo_beats b_Mo_beats
  intro p e R s m args below meth c cells slots Q base ad dC dI cA n0 S hkn hR hf pc n f h
  refine sv_lk_all (P := fun pc (x : Nat × sv_F) => sv_cok p l e R s m args below meth c cells slots Q base ad dC dI cA true 4 n0 pc x.1 x.2) ?_ pc (n, f) h
  exact List.forall_mem_cons.mpr ⟨(sv_cS S hkn (m_Mo_isIn l) ⟨Nat.le_trans (by decide) hR.1, Nat.le_trans (by decide) hR.2⟩ (by decide) hf (sv_w4 tw_1098 tw_1099 tw_65 tw_1100) (by decide +kernel) (sv_dc3 d_Mo_beats (pc := 6) rfl rfl)).I,
      List.forall_mem_cons.mpr ⟨(sv_cV S hkn (m_Mo_goesOn l) ⟨Nat.le_trans (by decide) hR.1, Nat.le_trans (by decide) hR.2⟩ (by decide) hf rfl g_Mo_goesOn (sv_w5 tw_1232 tw_1234 tw_25 tw_65 tw_1235) (by decide +kernel) (sv_dc3 d_Mo_beats (pc := 38) rfl rfl)).I,
      List.forall_mem_cons.mpr ⟨(sv_cS S hkn (m_Mo_ones l) ⟨Nat.le_trans (by decide) hR.1, Nat.le_trans (by decide) hR.2⟩ (by decide) hf (sv_w4 tw_1236 tw_1237 tw_65 tw_1238) (by decide +kernel) (sv_dc3 d_Mo_beats (pc := 41) rfl rfl)).I,
      fun _ h => absurd h List.not_mem_nil⟩⟩⟩
noncomputable def f_Mo_laysBy_2 : Nat → Int32 → sv_S → Option (sv_S)
  | 0, _, _ => none
  | n + 1, x1, σ =>
    sv_if ((86 : Int32) ≤ x1)
      (some σ)
      (sv_g (sv_in x1 3086) (sv_g (sv_in x1 86) (f_Mo_laysBy_2 n (x1 + (1 : Int32)) (sv_up σ 31 13 (x1.toNatClampNeg) (σ 31 0 (x1.toNatClampNeg))))))
noncomputable def f_Mo_laysBy (σ : sv_S) : Option (sv_S) :=
  f_Mo_laysBy_2 sv_fu (0 : Int32) σ
noncomputable def n_Mo_laysBy : List sv_V → sv_S → Option (sv_S)
  | [.inr (.inr (some (30, 0)))], σ => f_Mo_laysBy σ
  | _, _ => none
def cd_Mo_laysBy : sv_C := [(0, (.iconst 0, (.inl (0 : Int32), (1, (0, []))))), (1, (.istore_n 1, (sv_N, (2, (0, []))))), (2, (.iload_n 1, (sv_N, (3, (0, []))))), (3, (.bipush 86, (.inl (86 : Int32), (5, (0, []))))), (5, (.if_icmp .ge 21, (sv_N, (8, (26, []))))), (8, (.aload_n 0, (sv_N, (9, (0, []))))), (9, (.getfield 46, (sv_N, (12, (0, []))))), (12, (.iload_n 1, (sv_N, (13, (0, []))))), (13, (.aload_n 0, (sv_N, (14, (0, []))))), (14, (.getfield 7, (sv_N, (17, (0, []))))), (17, (.iload_n 1, (sv_N, (18, (0, []))))), (18, (.iaload, (sv_N, (19, (0, []))))), (19, (.iastore, (sv_N, (20, (0, []))))), (20, (.iinc 1 1, (.inl (1 : Int32), (23, (0, []))))), (23, (.goto (-21), (sv_N, (26, (2, []))))), (26, (.return_, (sv_N, (27, (0, [])))))]
noncomputable def ev_Mo_laysBy : sv_E := (fun i => sv_lk i fl_12, (fun i => sv_lk i kc_12, (fun _ => false, (true, fun pc => sv_lk pc []))))
noncomputable def kk_Mo_laysBy_2 (n : Nat) : sv_K (sv_S) := fun pc => sv_lk pc [(2, fun lo st σ => match lo, st with
    | [some (.inr (.inr (some (30, 0)))), some (.inl x1)], [] => f_Mo_laysBy_2 n x1 σ
    | _, _ => none)]
set_option maxRecDepth 20000 in
theorem e_Mo_laysBy_2 (n : Nat) (x1 : Int32) (σ : sv_S) : sv_ex ev_Mo_laysBy sv_rV (kk_Mo_laysBy_2 n) cd_Mo_laysBy 18 2 [some (.inr (.inr (some (30, 0)))), some (.inl x1)] [] σ = f_Mo_laysBy_2 (n + 1) x1 σ := by
  rw [f_Mo_laysBy_2.eq_2]
  delta ev_Mo_laysBy kk_Mo_laysBy_2
  generalize f_Mo_laysBy_2 = c0
  rfl
noncomputable def kk_Mo_laysBy : sv_K (sv_S) := fun pc => sv_lk pc [(2, fun lo st σ => match lo, st with
    | [some (.inr (.inr (some (30, 0)))), some (.inl x1)], [] => f_Mo_laysBy_2 sv_fu x1 σ
    | _, _ => none)]
set_option maxRecDepth 20000 in
theorem e_Mo_laysBy (σ : sv_S) : sv_ex ev_Mo_laysBy sv_rV kk_Mo_laysBy cd_Mo_laysBy 18 0 [some (.inr (.inr (some (30, 0)))), none] [] σ = f_Mo_laysBy σ := by
  unfold f_Mo_laysBy
  delta ev_Mo_laysBy kk_Mo_laysBy
  generalize f_Mo_laysBy_2 = c0
  rfl
theorem d_Mo_laysBy : cd_Mo_laysBy.all (sv_dk cX12_laysBy) = true := by decide +kernel
set_option maxRecDepth 20000 in
theorem w_Mo_laysBy_2 {Γ : sv_Ga} {res : sv_S} (X : sv_Ok Γ ev_Mo_laysBy cX12_laysBy sv_rV res) : ∀ (n : Nat) (x1 : Int32) (σ : sv_S), f_Mo_laysBy_2 n x1 σ = some res → sv_T Γ 2 [some (.inr (.inr (some (30, 0)))), some (.inl x1)] [] σ := by
  intro n
  induction n with
  | zero =>
    intro x1 σ h
    rw [f_Mo_laysBy_2.eq_1] at h
    cases h
  | succ n ih =>
    intro x1 σ h
    refine sv_run X d_Mo_laysBy (K := kk_Mo_laysBy_2 n) (sv_lk_all (P := fun pc (k : sv_Lo → List sv_V → sv_S → Option (sv_S)) => ∀ lo st σ, k lo st σ = some res → sv_T Γ pc lo st σ) ?_) _ _ _ _ _ ((e_Mo_laysBy_2 n x1 σ).trans h)
    clear h
    refine List.forall_mem_cons.mpr ⟨fun lo st σ h => ?_, fun _ h => absurd h List.not_mem_nil⟩
    · dsimp only at h
      split at h
      · exact ih _ _ h
      · cases h

set_option maxRecDepth 20000 in
theorem b_Mo_laysBy (Γ : sv_Ga) (res : sv_S) (X : sv_Ok Γ ev_Mo_laysBy cX12_laysBy sv_rV res) (as : List sv_V) (σ : sv_S) (h : n_Mo_laysBy as σ = some res) : sv_T Γ 0 (sv_e0 2 as) [] σ := by
  unfold n_Mo_laysBy at h
  split at h
  · refine sv_run X d_Mo_laysBy (K := kk_Mo_laysBy) (sv_lk_all (P := fun pc (k : sv_Lo → List sv_V → sv_S → Option (sv_S)) => ∀ lo st σ, k lo st σ = some res → sv_T Γ pc lo st σ) ?_) _ _ _ _ _ ((e_Mo_laysBy _).trans h)
    clear h
    refine List.forall_mem_cons.mpr ⟨fun lo st σ h => ?_, fun _ h => absurd h List.not_mem_nil⟩
    · dsimp only at h
      split at h
      · exact w_Mo_laysBy_2 X _ _ _ h
      · cases h
  · cases h
theorem a_Mo_laysBy (as : List sv_V) (σ : sv_S) (x : sv_S) (h : n_Mo_laysBy as σ = some x) : sv_args 2 ev_Mo_laysBy.2.2.2.1 as := by
  unfold n_Mo_laysBy at h
  split at h
  · exact ⟨Nat.le_of_ble_eq_true rfl, fun _ v hv => by
      simp only [List.mem_cons, List.not_mem_nil, or_false] at hv
      rcases hv with rfl <;> trivial⟩
  · cases h
theorem g_Mo_laysBy (as : List sv_V) (σ : sv_S) (x : Option sv_V × sv_S) (h : sv_gV n_Mo_laysBy as σ = some x) : ∃ r i as', as = sv_R r i :: as' ∧ sv_kd r i = .inl 12 := by
  obtain ⟨_, h, -⟩ := sv_b0_some h
  unfold n_Mo_laysBy at h
  split at h
  · exact ⟨_, _, _, rfl, rfl⟩
  · cases h

set_option maxRecDepth 20000 in
theorem m_Mo_laysBy (l : Launch) : sv_M l yX12_laysBy cX12_laysBy 2 none (sv_gV n_Mo_laysBy) 0 := by
  refine sv_mV (E := ev_Mo_laysBy) (by decide +kernel) (ln_gen fk_12 kk_12 (sv_ns _ (fun _ => rfl) _)) ?_ a_Mo_laysBy b_Mo_laysBy
  intro p e R s m args below meth c cells slots Q base ad dC dI cA n0 S hkn hR hf pc n f h
  refine sv_lk_all (P := fun pc (x : Nat × sv_F) => sv_cok p l e R s m args below meth c cells slots Q base ad dC dI cA true 2 n0 pc x.1 x.2) ?_ pc (n, f) h
  exact fun _ h => absurd h List.not_mem_nil
noncomputable def f_Mo_laysBack_2 : Nat → Int32 → sv_S → Option (sv_S)
  | 0, _, _ => none
  | n + 1, x1, σ =>
    sv_if ((86 : Int32) ≤ x1)
      (some σ)
      (sv_g (sv_in x1 86) (sv_g (sv_in x1 3086) (f_Mo_laysBack_2 n (x1 + (1 : Int32)) (sv_up σ 31 0 (x1.toNatClampNeg) (σ 31 13 (x1.toNatClampNeg))))))
noncomputable def f_Mo_laysBack (σ : sv_S) : Option (sv_S) :=
  f_Mo_laysBack_2 sv_fu (0 : Int32) σ
noncomputable def n_Mo_laysBack : List sv_V → sv_S → Option (sv_S)
  | [.inr (.inr (some (30, 0)))], σ => f_Mo_laysBack σ
  | _, _ => none
def cd_Mo_laysBack : sv_C := [(0, (.iconst 0, (.inl (0 : Int32), (1, (0, []))))), (1, (.istore_n 1, (sv_N, (2, (0, []))))), (2, (.iload_n 1, (sv_N, (3, (0, []))))), (3, (.bipush 86, (.inl (86 : Int32), (5, (0, []))))), (5, (.if_icmp .ge 21, (sv_N, (8, (26, []))))), (8, (.aload_n 0, (sv_N, (9, (0, []))))), (9, (.getfield 7, (sv_N, (12, (0, []))))), (12, (.iload_n 1, (sv_N, (13, (0, []))))), (13, (.aload_n 0, (sv_N, (14, (0, []))))), (14, (.getfield 46, (sv_N, (17, (0, []))))), (17, (.iload_n 1, (sv_N, (18, (0, []))))), (18, (.iaload, (sv_N, (19, (0, []))))), (19, (.iastore, (sv_N, (20, (0, []))))), (20, (.iinc 1 1, (.inl (1 : Int32), (23, (0, []))))), (23, (.goto (-21), (sv_N, (26, (2, []))))), (26, (.return_, (sv_N, (27, (0, [])))))]
noncomputable def ev_Mo_laysBack : sv_E := (fun i => sv_lk i fl_12, (fun i => sv_lk i kc_12, (fun _ => false, (true, fun pc => sv_lk pc []))))
noncomputable def kk_Mo_laysBack_2 (n : Nat) : sv_K (sv_S) := fun pc => sv_lk pc [(2, fun lo st σ => match lo, st with
    | [some (.inr (.inr (some (30, 0)))), some (.inl x1)], [] => f_Mo_laysBack_2 n x1 σ
    | _, _ => none)]
set_option maxRecDepth 20000 in
theorem e_Mo_laysBack_2 (n : Nat) (x1 : Int32) (σ : sv_S) : sv_ex ev_Mo_laysBack sv_rV (kk_Mo_laysBack_2 n) cd_Mo_laysBack 18 2 [some (.inr (.inr (some (30, 0)))), some (.inl x1)] [] σ = f_Mo_laysBack_2 (n + 1) x1 σ := by
  rw [f_Mo_laysBack_2.eq_2]
  delta ev_Mo_laysBack kk_Mo_laysBack_2
  generalize f_Mo_laysBack_2 = c0
  rfl
noncomputable def kk_Mo_laysBack : sv_K (sv_S) := fun pc => sv_lk pc [(2, fun lo st σ => match lo, st with
    | [some (.inr (.inr (some (30, 0)))), some (.inl x1)], [] => f_Mo_laysBack_2 sv_fu x1 σ
    | _, _ => none)]
set_option maxRecDepth 20000 in
theorem e_Mo_laysBack (σ : sv_S) : sv_ex ev_Mo_laysBack sv_rV kk_Mo_laysBack cd_Mo_laysBack 18 0 [some (.inr (.inr (some (30, 0)))), none] [] σ = f_Mo_laysBack σ := by
  unfold f_Mo_laysBack
  delta ev_Mo_laysBack kk_Mo_laysBack
  generalize f_Mo_laysBack_2 = c0
  rfl
theorem d_Mo_laysBack : cd_Mo_laysBack.all (sv_dk cX12_laysBack) = true := by decide +kernel
set_option maxRecDepth 20000 in
theorem w_Mo_laysBack_2 {Γ : sv_Ga} {res : sv_S} (X : sv_Ok Γ ev_Mo_laysBack cX12_laysBack sv_rV res) : ∀ (n : Nat) (x1 : Int32) (σ : sv_S), f_Mo_laysBack_2 n x1 σ = some res → sv_T Γ 2 [some (.inr (.inr (some (30, 0)))), some (.inl x1)] [] σ := by
  intro n
  induction n with
  | zero =>
    intro x1 σ h
    rw [f_Mo_laysBack_2.eq_1] at h
    cases h
  | succ n ih =>
    intro x1 σ h
    refine sv_run X d_Mo_laysBack (K := kk_Mo_laysBack_2 n) (sv_lk_all (P := fun pc (k : sv_Lo → List sv_V → sv_S → Option (sv_S)) => ∀ lo st σ, k lo st σ = some res → sv_T Γ pc lo st σ) ?_) _ _ _ _ _ ((e_Mo_laysBack_2 n x1 σ).trans h)
    clear h
    refine List.forall_mem_cons.mpr ⟨fun lo st σ h => ?_, fun _ h => absurd h List.not_mem_nil⟩
    · dsimp only at h
      split at h
      · exact ih _ _ h
      · cases h

set_option maxRecDepth 20000 in
theorem b_Mo_laysBack (Γ : sv_Ga) (res : sv_S) (X : sv_Ok Γ ev_Mo_laysBack cX12_laysBack sv_rV res) (as : List sv_V) (σ : sv_S) (h : n_Mo_laysBack as σ = some res) : sv_T Γ 0 (sv_e0 2 as) [] σ := by
  unfold n_Mo_laysBack at h
  split at h
  · refine sv_run X d_Mo_laysBack (K := kk_Mo_laysBack) (sv_lk_all (P := fun pc (k : sv_Lo → List sv_V → sv_S → Option (sv_S)) => ∀ lo st σ, k lo st σ = some res → sv_T Γ pc lo st σ) ?_) _ _ _ _ _ ((e_Mo_laysBack _).trans h)
    clear h
    refine List.forall_mem_cons.mpr ⟨fun lo st σ h => ?_, fun _ h => absurd h List.not_mem_nil⟩
    · dsimp only at h
      split at h
      · exact w_Mo_laysBack_2 X _ _ _ h
      · cases h
  · cases h
theorem a_Mo_laysBack (as : List sv_V) (σ : sv_S) (x : sv_S) (h : n_Mo_laysBack as σ = some x) : sv_args 2 ev_Mo_laysBack.2.2.2.1 as := by
  unfold n_Mo_laysBack at h
  split at h
  · exact ⟨Nat.le_of_ble_eq_true rfl, fun _ v hv => by
      simp only [List.mem_cons, List.not_mem_nil, or_false] at hv
      rcases hv with rfl <;> trivial⟩
  · cases h
theorem g_Mo_laysBack (as : List sv_V) (σ : sv_S) (x : Option sv_V × sv_S) (h : sv_gV n_Mo_laysBack as σ = some x) : ∃ r i as', as = sv_R r i :: as' ∧ sv_kd r i = .inl 12 := by
  obtain ⟨_, h, -⟩ := sv_b0_some h
  unfold n_Mo_laysBack at h
  split at h
  · exact ⟨_, _, _, rfl, rfl⟩
  · cases h

set_option maxRecDepth 20000 in
theorem m_Mo_laysBack (l : Launch) : sv_M l yX12_laysBack cX12_laysBack 2 none (sv_gV n_Mo_laysBack) 0 := by
  refine sv_mV (E := ev_Mo_laysBack) (by decide +kernel) (ln_gen fk_12 kk_12 (sv_ns _ (fun _ => rfl) _)) ?_ a_Mo_laysBack b_Mo_laysBack
  intro p e R s m args below meth c cells slots Q base ad dC dI cA n0 S hkn hR hf pc n f h
  refine sv_lk_all (P := fun pc (x : Nat × sv_F) => sv_cok p l e R s m args below meth c cells slots Q base ad dC dI cA true 2 n0 pc x.1 x.2) ?_ pc (n, f) h
  exact fun _ h => absurd h List.not_mem_nil
noncomputable def f_Mo_behind_48 : Nat → Int32 → Int32 → Int32 → Int32 → Int32 → Int32 → sv_S → Option (Int32 × sv_S)
  | 0, _, _, _, _, _, _, _ => none
  | n + 1, x1, x2, x3, x4, x5, x6, σ =>
    sv_if (x2 ≤ x6)
      (sv_b (f_Mo_of x1 (2 : Int32) σ) (fun v1 σ2 =>
        sv_b0 (f_Mo_laysBack σ2) (fun σ3 =>
          sv_if (x3 = 0)
            (some (v1, σ3))
            (sv_if (x3 = (1 : Int32))
              (some (x4, σ3))
              (some (x5, σ3))))))
      (sv_b (f_Mo_goesOn σ) (fun v4 σ5 =>
        sv_b (f_Mo_ones v4 σ5) (fun v6 σ7 =>
          f_Mo_behind_48 n x1 x2 x3 (x4 + ((v4 >>> (x1 &&& 31)) &&& (1 : Int32))) v6 (x6 + (1 : Int32)) σ7)))
noncomputable def f_Mo_behind (a1 : Int32) (a2 : Int32) (a3 : Int32) (σ : sv_S) : Option (Int32 × sv_S) :=
  sv_b (f_Mo_isDrummer a1 σ) (fun v1 σ2 =>
    sv_if (v1 = 0)
      (some ((-1000000001 : Int32), σ2))
      (sv_b (f_Mo_isIn (a2.toInt64) (0 : Int64) (100 : Int64) σ2) (fun v3 σ4 =>
        sv_if (v3 = 0)
          (some ((-1000000001 : Int32), σ4))
          (sv_b (f_Mo_isIn (a3.toInt64) (0 : Int64) (2 : Int64) σ4) (fun v5 σ6 =>
            sv_if (v5 = 0)
              (some ((-1000000001 : Int32), σ6))
              (sv_b0 (f_Mo_laysBy σ6) (fun σ7 =>
                f_Mo_behind_48 sv_fu a1 a2 a3 (0 : Int32) (0 : Int32) (0 : Int32) σ7)))))))
noncomputable def n_Mo_behind : List sv_V → sv_S → Option (Int32 × sv_S)
  | [.inr (.inr (some (30, 0))), .inl a1, .inl a2, .inl a3], σ => f_Mo_behind a1 a2 a3 σ
  | _, _ => none
def cd_Mo_behind : sv_C := [(0, (.aload_n 0, (sv_N, (1, (0, []))))), (1, (.iload_n 1, (sv_N, (2, (0, []))))), (2, (.invokevirtual 113, (sv_N, (5, (0, []))))), (5, (.ifCond .eq 27, (sv_N, (8, (32, []))))), (8, (.iload_n 2, (sv_N, (9, (0, []))))), (9, (.i2l, (sv_N, (10, (0, []))))), (10, (.lconst 0, (.inr (.inl (0 : Int64)), (11, (0, []))))), (11, (.ldc2_w 139, (sv_N, (14, (0, []))))), (14, (.invokestatic 71, (sv_N, (17, (0, []))))), (17, (.ifCond .eq 15, (sv_N, (20, (32, []))))), (20, (.iload_n 3, (sv_N, (21, (0, []))))), (21, (.i2l, (sv_N, (22, (0, []))))), (22, (.lconst 0, (.inr (.inl (0 : Int64)), (23, (0, []))))), (23, (.ldc2_w 160, (sv_N, (26, (0, []))))), (26, (.invokestatic 71, (sv_N, (29, (0, []))))), (29, (.ifCond .ne 6, (sv_N, (32, (35, []))))), (32, (.ldc 84, (sv_N, (34, (0, []))))), (34, (.ireturn, (sv_N, (35, (0, []))))), (35, (.aload_n 0, (sv_N, (36, (0, []))))), (36, (.invokevirtual 162, (sv_N, (39, (0, []))))), (39, (.iconst 0, (.inl (0 : Int32), (40, (0, []))))), (40, (.istore 4, (sv_N, (42, (0, []))))), (42, (.iconst 0, (.inl (0 : Int32), (43, (0, []))))), (43, (.istore 5, (sv_N, (45, (0, []))))), (45, (.iconst 0, (.inl (0 : Int32), (46, (0, []))))), (46, (.istore 6, (sv_N, (48, (0, []))))), (48, (.iload 6, (sv_N, (50, (0, []))))), (50, (.iload_n 2, (sv_N, (51, (0, []))))), (51, (.if_icmp .ge 33, (sv_N, (54, (84, []))))), (54, (.aload_n 0, (sv_N, (55, (0, []))))), (55, (.invokevirtual 154, (sv_N, (58, (0, []))))), (58, (.istore 7, (sv_N, (60, (0, []))))), (60, (.iload 4, (sv_N, (62, (0, []))))), (62, (.iload 7, (sv_N, (64, (0, []))))), (64, (.iload_n 1, (sv_N, (65, (0, []))))), (65, (.ishr, (sv_N, (66, (0, []))))), (66, (.iconst 1, (.inl (1 : Int32), (67, (0, []))))), (67, (.iand, (sv_N, (68, (0, []))))), (68, (.iadd, (sv_N, (69, (0, []))))), (69, (.istore 4, (sv_N, (71, (0, []))))), (71, (.iload 7, (sv_N, (73, (0, []))))), (73, (.invokestatic 157, (sv_N, (76, (0, []))))), (76, (.istore 5, (sv_N, (78, (0, []))))), (78, (.iinc 6 1, (.inl (1 : Int32), (81, (0, []))))), (81, (.goto (-33), (sv_N, (84, (48, []))))), (84, (.aload_n 0, (sv_N, (85, (0, []))))), (85, (.iload_n 1, (sv_N, (86, (0, []))))), (86, (.iconst 2, (.inl (2 : Int32), (87, (0, []))))), (87, (.invokevirtual 90, (sv_N, (90, (0, []))))), (90, (.istore 6, (sv_N, (92, (0, []))))), (92, (.aload_n 0, (sv_N, (93, (0, []))))), (93, (.invokevirtual 165, (sv_N, (96, (0, []))))), (96, (.iload_n 3, (sv_N, (97, (0, []))))), (97, (.ifCond .ne 8, (sv_N, (100, (105, []))))), (100, (.iload 6, (sv_N, (102, (0, []))))), (102, (.goto 15, (sv_N, (105, (117, []))))), (105, (.iload_n 3, (sv_N, (106, (0, []))))), (106, (.iconst 1, (.inl (1 : Int32), (107, (0, []))))), (107, (.if_icmp .ne 8, (sv_N, (110, (115, []))))), (110, (.iload 4, (sv_N, (112, (0, []))))), (112, (.goto 5, (sv_N, (115, (117, []))))), (115, (.iload 5, (sv_N, (117, (0, []))))), (117, (.ireturn, (sv_N, (118, (0, [])))))]
noncomputable def ev_Mo_behind : sv_E := (fun i => sv_lk i fl_12, (fun i => sv_lk i kc_12, (fun _ => false, (true, fun pc => sv_lk pc [(2, (2, .inl n_Mo_isDrummer)), (14, (3, .inl n_Mo_isIn)), (26, (3, .inl n_Mo_isIn)), (36, (1, .inr (.inl n_Mo_laysBy))), (55, (1, .inl n_Mo_goesOn)), (73, (1, .inl n_Mo_ones)), (87, (3, .inl n_Mo_of)), (93, (1, .inr (.inl n_Mo_laysBack)))]))))
noncomputable def kk_Mo_behind_48 (n : Nat) : sv_K (Int32 × sv_S) := fun pc => sv_lk pc [(48, fun lo st σ => match lo, st with
    | [some (.inr (.inr (some (30, 0)))), some (.inl x1), some (.inl x2), some (.inl x3), some (.inl x4), some (.inl x5), some (.inl x6), _], [] => f_Mo_behind_48 n x1 x2 x3 x4 x5 x6 σ
    | _, _ => none)]
set_option maxRecDepth 20000 in
theorem e_Mo_behind_48 (n : Nat) (x1 : Int32) (x2 : Int32) (x3 : Int32) (x4 : Int32) (x5 : Int32) (x6 : Int32) (z7 : Option sv_V) (σ : sv_S) : sv_ex ev_Mo_behind sv_rI (kk_Mo_behind_48 n) cd_Mo_behind 65 48 [some (.inr (.inr (some (30, 0)))), some (.inl x1), some (.inl x2), some (.inl x3), some (.inl x4), some (.inl x5), some (.inl x6), z7] [] σ = f_Mo_behind_48 (n + 1) x1 x2 x3 x4 x5 x6 σ := by
  rw [f_Mo_behind_48.eq_2]
  delta ev_Mo_behind kk_Mo_behind_48 n_Mo_isDrummer n_Mo_isIn n_Mo_laysBy n_Mo_goesOn n_Mo_ones n_Mo_of n_Mo_laysBack
  generalize f_Mo_isDrummer = c0
  generalize f_Mo_isIn = c1
  generalize f_Mo_laysBy = c2
  generalize f_Mo_goesOn = c3
  generalize f_Mo_ones = c4
  generalize f_Mo_of = c5
  generalize f_Mo_laysBack = c6
  generalize f_Mo_behind_48 = c7
  rfl
noncomputable def kk_Mo_behind : sv_K (Int32 × sv_S) := fun pc => sv_lk pc [(48, fun lo st σ => match lo, st with
    | [some (.inr (.inr (some (30, 0)))), some (.inl x1), some (.inl x2), some (.inl x3), some (.inl x4), some (.inl x5), some (.inl x6), _], [] => f_Mo_behind_48 sv_fu x1 x2 x3 x4 x5 x6 σ
    | _, _ => none)]
set_option maxRecDepth 20000 in
theorem e_Mo_behind (a1 : Int32) (a2 : Int32) (a3 : Int32) (σ : sv_S) : sv_ex ev_Mo_behind sv_rI kk_Mo_behind cd_Mo_behind 65 0 [some (.inr (.inr (some (30, 0)))), some (.inl a1), some (.inl a2), some (.inl a3), none, none, none, none] [] σ = f_Mo_behind a1 a2 a3 σ := by
  unfold f_Mo_behind
  delta ev_Mo_behind kk_Mo_behind n_Mo_isDrummer n_Mo_isIn n_Mo_laysBy n_Mo_goesOn n_Mo_ones n_Mo_of n_Mo_laysBack
  generalize f_Mo_isDrummer = c0
  generalize f_Mo_isIn = c1
  generalize f_Mo_laysBy = c2
  generalize f_Mo_goesOn = c3
  generalize f_Mo_ones = c4
  generalize f_Mo_of = c5
  generalize f_Mo_laysBack = c6
  generalize f_Mo_behind_48 = c7
  rfl
theorem d_Mo_behind : cd_Mo_behind.all (sv_dk cX12_behind) = true := by decide +kernel
set_option maxRecDepth 20000 in
theorem w_Mo_behind_48 {Γ : sv_Ga} {res : Int32 × sv_S} (X : sv_Ok Γ ev_Mo_behind cX12_behind sv_rI res) : ∀ (n : Nat) (x1 : Int32) (x2 : Int32) (x3 : Int32) (x4 : Int32) (x5 : Int32) (x6 : Int32) (z7 : Option sv_V) (σ : sv_S), f_Mo_behind_48 n x1 x2 x3 x4 x5 x6 σ = some res → sv_T Γ 48 [some (.inr (.inr (some (30, 0)))), some (.inl x1), some (.inl x2), some (.inl x3), some (.inl x4), some (.inl x5), some (.inl x6), z7] [] σ := by
  intro n
  induction n with
  | zero =>
    intro x1 x2 x3 x4 x5 x6 z7 σ h
    rw [f_Mo_behind_48.eq_1] at h
    cases h
  | succ n ih =>
    intro x1 x2 x3 x4 x5 x6 z7 σ h
    refine sv_run X d_Mo_behind (K := kk_Mo_behind_48 n) (sv_lk_all (P := fun pc (k : sv_Lo → List sv_V → sv_S → Option (Int32 × sv_S)) => ∀ lo st σ, k lo st σ = some res → sv_T Γ pc lo st σ) ?_) _ _ _ _ _ ((e_Mo_behind_48 n x1 x2 x3 x4 x5 x6 z7 σ).trans h)
    clear h
    refine List.forall_mem_cons.mpr ⟨fun lo st σ h => ?_, fun _ h => absurd h List.not_mem_nil⟩
    · dsimp only at h
      split at h
      · exact ih _ _ _ _ _ _ _ _ h
      · cases h

set_option maxRecDepth 20000 in
theorem b_Mo_behind (Γ : sv_Ga) (res : Int32 × sv_S) (X : sv_Ok Γ ev_Mo_behind cX12_behind sv_rI res) (as : List sv_V) (σ : sv_S) (h : n_Mo_behind as σ = some res) : sv_T Γ 0 (sv_e0 8 as) [] σ := by
  unfold n_Mo_behind at h
  split at h
  · refine sv_run X d_Mo_behind (K := kk_Mo_behind) (sv_lk_all (P := fun pc (k : sv_Lo → List sv_V → sv_S → Option (Int32 × sv_S)) => ∀ lo st σ, k lo st σ = some res → sv_T Γ pc lo st σ) ?_) _ _ _ _ _ ((e_Mo_behind _ _ _ _).trans h)
    clear h
    refine List.forall_mem_cons.mpr ⟨fun lo st σ h => ?_, fun _ h => absurd h List.not_mem_nil⟩
    · dsimp only at h
      split at h
      · exact w_Mo_behind_48 X _ _ _ _ _ _ _ _ _ h
      · cases h
  · cases h
theorem a_Mo_behind (as : List sv_V) (σ : sv_S) (x : Int32 × sv_S) (h : n_Mo_behind as σ = some x) : sv_args 8 ev_Mo_behind.2.2.2.1 as := by
  unfold n_Mo_behind at h
  split at h
  · exact ⟨Nat.le_of_ble_eq_true rfl, fun _ v hv => by
      simp only [List.mem_cons, List.not_mem_nil, or_false] at hv
      rcases hv with rfl | rfl | rfl | rfl <;> trivial⟩
  · cases h
theorem g_Mo_behind (as : List sv_V) (σ : sv_S) (x : Option sv_V × sv_S) (h : sv_gI n_Mo_behind as σ = some x) : ∃ r i as', as = sv_R r i :: as' ∧ sv_kd r i = .inl 12 := by
  obtain ⟨_, _, h, -⟩ := sv_b_some h
  unfold n_Mo_behind at h
  split at h
  · exact ⟨_, _, _, rfl, rfl⟩
  · cases h
theorem tw_26 : Cond.selects RX12 yX12_laysBy yX12_laysBy ∈ gw_tbl := gw_at 26 (by decide +kernel) rfl
theorem tw_27 : Cond.selects RX12 yX12_laysBack yX12_laysBack ∈ gw_tbl := gw_at 27 (by decide +kernel) rfl
theorem tw_1244 : Cond.methodLink RX12 162 yX12_laysBy ∈ gw_tbl := gw_at 1244 (by decide +kernel) rfl
theorem tw_1246 : Cond.instanceMethod yX12_laysBy ∈ gw_tbl := gw_at 1246 (by decide +kernel) rfl
theorem tw_1247 : Cond.code yX12_laysBy cX12_laysBy 2 none ∈ gw_tbl := gw_at 1247 (by decide +kernel) rfl
theorem tw_1248 : Cond.methodLink RX12 165 yX12_laysBack ∈ gw_tbl := gw_at 1248 (by decide +kernel) rfl
theorem tw_1250 : Cond.instanceMethod yX12_laysBack ∈ gw_tbl := gw_at 1250 (by decide +kernel) rfl
theorem tw_1251 : Cond.code yX12_laysBack cX12_laysBack 2 none ∈ gw_tbl := gw_at 1251 (by decide +kernel) rfl
set_option maxRecDepth 20000 in
theorem m_Mo_behind (l : Launch) : sv_M l yX12_behind cX12_behind 8 (some .int) (sv_gI n_Mo_behind) 5 := by
  refine sv_mI (E := ev_Mo_behind) (by decide +kernel) (ln_gen fk_12 kk_12 (sv_ns _ (fun _ => rfl) _)) ?_ a_Mo_behind b_Mo_behind
  intro p e R s m args below meth c cells slots Q base ad dC dI cA n0 S hkn hR hf pc n f h
  refine sv_lk_all (P := fun pc (x : Nat × sv_F) => sv_cok p l e R s m args below meth c cells slots Q base ad dC dI cA true 8 n0 pc x.1 x.2) ?_ pc (n, f) h
  exact List.forall_mem_cons.mpr ⟨(sv_cV S hkn (m_Mo_isDrummer l) ⟨Nat.le_trans (by decide) hR.1, Nat.le_trans (by decide) hR.2⟩ (by decide) hf rfl g_Mo_isDrummer (sv_w5 tw_1116 tw_1118 tw_9 tw_65 tw_1119) (by decide +kernel) (sv_dc3 d_Mo_behind (pc := 2) rfl rfl)).I,
      List.forall_mem_cons.mpr ⟨(sv_cS S hkn (m_Mo_isIn l) ⟨Nat.le_trans (by decide) hR.1, Nat.le_trans (by decide) hR.2⟩ (by decide) hf (sv_w4 tw_1098 tw_1099 tw_65 tw_1100) (by decide +kernel) (sv_dc3 d_Mo_behind (pc := 14) rfl rfl)).I,
      List.forall_mem_cons.mpr ⟨(sv_cS S hkn (m_Mo_isIn l) ⟨Nat.le_trans (by decide) hR.1, Nat.le_trans (by decide) hR.2⟩ (by decide) hf (sv_w4 tw_1098 tw_1099 tw_65 tw_1100) (by decide +kernel) (sv_dc3 d_Mo_behind (pc := 26) rfl rfl)).I,
      List.forall_mem_cons.mpr ⟨(sv_cV S hkn (m_Mo_laysBy l) ⟨Nat.le_trans (by decide) hR.1, Nat.le_trans (by decide) hR.2⟩ (by decide) hf rfl g_Mo_laysBy (sv_w5 tw_1244 tw_1246 tw_26 tw_65 tw_1247) (by decide +kernel) (sv_dc3 d_Mo_behind (pc := 36) rfl rfl)).V,
      List.forall_mem_cons.mpr ⟨(sv_cV S hkn (m_Mo_goesOn l) ⟨Nat.le_trans (by decide) hR.1, Nat.le_trans (by decide) hR.2⟩ (by decide) hf rfl g_Mo_goesOn (sv_w5 tw_1232 tw_1234 tw_25 tw_65 tw_1235) (by decide +kernel) (sv_dc3 d_Mo_behind (pc := 55) rfl rfl)).I,
      List.forall_mem_cons.mpr ⟨(sv_cS S hkn (m_Mo_ones l) ⟨Nat.le_trans (by decide) hR.1, Nat.le_trans (by decide) hR.2⟩ (by decide) hf (sv_w4 tw_1236 tw_1237 tw_65 tw_1238) (by decide +kernel) (sv_dc3 d_Mo_behind (pc := 73) rfl rfl)).I,
      List.forall_mem_cons.mpr ⟨(sv_cV S hkn (m_Mo_of l) ⟨Nat.le_trans (by decide) hR.1, Nat.le_trans (by decide) hR.2⟩ (by decide) hf rfl g_Mo_of (sv_w5 tw_1120 tw_1122 tw_10 tw_65 tw_1123) (by decide +kernel) (sv_dc3 d_Mo_behind (pc := 87) rfl rfl)).I,
      List.forall_mem_cons.mpr ⟨(sv_cV S hkn (m_Mo_laysBack l) ⟨Nat.le_trans (by decide) hR.1, Nat.le_trans (by decide) hR.2⟩ (by decide) hf rfl g_Mo_laysBack (sv_w5 tw_1248 tw_1250 tw_27 tw_65 tw_1251) (by decide +kernel) (sv_dc3 d_Mo_behind (pc := 93) rfl rfl)).V,
      fun _ h => absurd h List.not_mem_nil⟩⟩⟩⟩⟩⟩⟩⟩
noncomputable def f_Mo_firstOf_8 : Nat → Int32 → Int32 → Int32 → sv_S → Option (Int32 × sv_S)
  | 0, _, _, _, _ => none
  | n + 1, x1, x2, x3, σ =>
    sv_if ((100 : Int32) < x3)
      (sv_b0 (f_Mo_laysBack σ) (fun σ1 =>
        some (x2, σ1)))
      (sv_if (0 ≤ x2)
        (sv_b0 (f_Mo_laysBack σ) (fun σ2 =>
          some (x2, σ2)))
        (sv_b (f_Mo_goesOn σ) (fun v3 σ4 =>
          sv_b (f_Mo_ones v3 σ4) (fun v5 σ6 =>
            sv_if (v5 < x1)
              (f_Mo_firstOf_8 n x1 (-1 : Int32) (x3 + (1 : Int32)) σ6)
              (f_Mo_firstOf_8 n x1 x3 (x3 + (1 : Int32)) σ6)))))
noncomputable def f_Mo_firstOf (a1 : Int32) (σ : sv_S) : Option (Int32 × sv_S) :=
  sv_b0 (f_Mo_laysBy σ) (fun σ1 =>
    f_Mo_firstOf_8 sv_fu a1 (-1 : Int32) (1 : Int32) σ1)
noncomputable def n_Mo_firstOf : List sv_V → sv_S → Option (Int32 × sv_S)
  | [.inr (.inr (some (30, 0))), .inl a1], σ => f_Mo_firstOf a1 σ
  | _, _ => none
def cd_Mo_firstOf : sv_C := [(0, (.aload_n 0, (sv_N, (1, (0, []))))), (1, (.invokevirtual 162, (sv_N, (4, (0, []))))), (4, (.iconst (-1), (.inl (-1 : Int32), (5, (0, []))))), (5, (.istore_n 2, (sv_N, (6, (0, []))))), (6, (.iconst 1, (.inl (1 : Int32), (7, (0, []))))), (7, (.istore_n 3, (sv_N, (8, (0, []))))), (8, (.iload_n 3, (sv_N, (9, (0, []))))), (9, (.bipush 100, (.inl (100 : Int32), (11, (0, []))))), (11, (.if_icmp .gt 30, (sv_N, (14, (41, []))))), (14, (.iload_n 2, (sv_N, (15, (0, []))))), (15, (.ifCond .ge 26, (sv_N, (18, (41, []))))), (18, (.aload_n 0, (sv_N, (19, (0, []))))), (19, (.invokevirtual 154, (sv_N, (22, (0, []))))), (22, (.invokestatic 157, (sv_N, (25, (0, []))))), (25, (.iload_n 1, (sv_N, (26, (0, []))))), (26, (.if_icmp .lt 7, (sv_N, (29, (33, []))))), (29, (.iload_n 3, (sv_N, (30, (0, []))))), (30, (.goto 4, (sv_N, (33, (34, []))))), (33, (.iconst (-1), (.inl (-1 : Int32), (34, (0, []))))), (34, (.istore_n 2, (sv_N, (35, (0, []))))), (35, (.iinc 3 1, (.inl (1 : Int32), (38, (0, []))))), (38, (.goto (-30), (sv_N, (41, (8, []))))), (41, (.aload_n 0, (sv_N, (42, (0, []))))), (42, (.invokevirtual 165, (sv_N, (45, (0, []))))), (45, (.iload_n 2, (sv_N, (46, (0, []))))), (46, (.ireturn, (sv_N, (47, (0, [])))))]
noncomputable def ev_Mo_firstOf : sv_E := (fun i => sv_lk i fl_12, (fun i => sv_lk i kc_12, (fun _ => false, (true, fun pc => sv_lk pc [(1, (1, .inr (.inl n_Mo_laysBy))), (19, (1, .inl n_Mo_goesOn)), (22, (1, .inl n_Mo_ones)), (42, (1, .inr (.inl n_Mo_laysBack)))]))))
noncomputable def kk_Mo_firstOf_8 (n : Nat) : sv_K (Int32 × sv_S) := fun pc => sv_lk pc [(8, fun lo st σ => match lo, st with
    | [some (.inr (.inr (some (30, 0)))), some (.inl x1), some (.inl x2), some (.inl x3)], [] => f_Mo_firstOf_8 n x1 x2 x3 σ
    | _, _ => none)]
set_option maxRecDepth 20000 in
theorem e_Mo_firstOf_8 (n : Nat) (x1 : Int32) (x2 : Int32) (x3 : Int32) (σ : sv_S) : sv_ex ev_Mo_firstOf sv_rI (kk_Mo_firstOf_8 n) cd_Mo_firstOf 28 8 [some (.inr (.inr (some (30, 0)))), some (.inl x1), some (.inl x2), some (.inl x3)] [] σ = f_Mo_firstOf_8 (n + 1) x1 x2 x3 σ := by
  rw [f_Mo_firstOf_8.eq_2]
  delta ev_Mo_firstOf kk_Mo_firstOf_8 n_Mo_laysBy n_Mo_goesOn n_Mo_ones n_Mo_laysBack
  generalize f_Mo_laysBy = c0
  generalize f_Mo_goesOn = c1
  generalize f_Mo_ones = c2
  generalize f_Mo_laysBack = c3
  generalize f_Mo_firstOf_8 = c4
  rfl
noncomputable def kk_Mo_firstOf : sv_K (Int32 × sv_S) := fun pc => sv_lk pc [(8, fun lo st σ => match lo, st with
    | [some (.inr (.inr (some (30, 0)))), some (.inl x1), some (.inl x2), some (.inl x3)], [] => f_Mo_firstOf_8 sv_fu x1 x2 x3 σ
    | _, _ => none)]
set_option maxRecDepth 20000 in
theorem e_Mo_firstOf (a1 : Int32) (σ : sv_S) : sv_ex ev_Mo_firstOf sv_rI kk_Mo_firstOf cd_Mo_firstOf 28 0 [some (.inr (.inr (some (30, 0)))), some (.inl a1), none, none] [] σ = f_Mo_firstOf a1 σ := by
  unfold f_Mo_firstOf
  delta ev_Mo_firstOf kk_Mo_firstOf n_Mo_laysBy n_Mo_goesOn n_Mo_ones n_Mo_laysBack
  generalize f_Mo_laysBy = c0
  generalize f_Mo_goesOn = c1
  generalize f_Mo_ones = c2
  generalize f_Mo_laysBack = c3
  generalize f_Mo_firstOf_8 = c4
  rfl
theorem d_Mo_firstOf : cd_Mo_firstOf.all (sv_dk cX12_firstOf) = true := by decide +kernel
set_option maxRecDepth 20000 in
theorem w_Mo_firstOf_8 {Γ : sv_Ga} {res : Int32 × sv_S} (X : sv_Ok Γ ev_Mo_firstOf cX12_firstOf sv_rI res) : ∀ (n : Nat) (x1 : Int32) (x2 : Int32) (x3 : Int32) (σ : sv_S), f_Mo_firstOf_8 n x1 x2 x3 σ = some res → sv_T Γ 8 [some (.inr (.inr (some (30, 0)))), some (.inl x1), some (.inl x2), some (.inl x3)] [] σ := by
  intro n
  induction n with
  | zero =>
    intro x1 x2 x3 σ h
    rw [f_Mo_firstOf_8.eq_1] at h
    cases h
  | succ n ih =>
    intro x1 x2 x3 σ h
    refine sv_run X d_Mo_firstOf (K := kk_Mo_firstOf_8 n) (sv_lk_all (P := fun pc (k : sv_Lo → List sv_V → sv_S → Option (Int32 × sv_S)) => ∀ lo st σ, k lo st σ = some res → sv_T Γ pc lo st σ) ?_) _ _ _ _ _ ((e_Mo_firstOf_8 n x1 x2 x3 σ).trans h)
    clear h
    refine List.forall_mem_cons.mpr ⟨fun lo st σ h => ?_, fun _ h => absurd h List.not_mem_nil⟩
    · dsimp only at h
      split at h
      · exact ih _ _ _ _ h
      · cases h

set_option maxRecDepth 20000 in
theorem b_Mo_firstOf (Γ : sv_Ga) (res : Int32 × sv_S) (X : sv_Ok Γ ev_Mo_firstOf cX12_firstOf sv_rI res) (as : List sv_V) (σ : sv_S) (h : n_Mo_firstOf as σ = some res) : sv_T Γ 0 (sv_e0 4 as) [] σ := by
  unfold n_Mo_firstOf at h
  split at h
  · refine sv_run X d_Mo_firstOf (K := kk_Mo_firstOf) (sv_lk_all (P := fun pc (k : sv_Lo → List sv_V → sv_S → Option (Int32 × sv_S)) => ∀ lo st σ, k lo st σ = some res → sv_T Γ pc lo st σ) ?_) _ _ _ _ _ ((e_Mo_firstOf _ _).trans h)
    clear h
    refine List.forall_mem_cons.mpr ⟨fun lo st σ h => ?_, fun _ h => absurd h List.not_mem_nil⟩
    · dsimp only at h
      split at h
      · exact w_Mo_firstOf_8 X _ _ _ _ _ h
      · cases h
  · cases h
theorem a_Mo_firstOf (as : List sv_V) (σ : sv_S) (x : Int32 × sv_S) (h : n_Mo_firstOf as σ = some x) : sv_args 4 ev_Mo_firstOf.2.2.2.1 as := by
  unfold n_Mo_firstOf at h
  split at h
  · exact ⟨Nat.le_of_ble_eq_true rfl, fun _ v hv => by
      simp only [List.mem_cons, List.not_mem_nil, or_false] at hv
      rcases hv with rfl | rfl <;> trivial⟩
  · cases h
theorem g_Mo_firstOf (as : List sv_V) (σ : sv_S) (x : Option sv_V × sv_S) (h : sv_gI n_Mo_firstOf as σ = some x) : ∃ r i as', as = sv_R r i :: as' ∧ sv_kd r i = .inl 12 := by
  obtain ⟨_, _, h, -⟩ := sv_b_some h
  unfold n_Mo_firstOf at h
  split at h
  · exact ⟨_, _, _, rfl, rfl⟩
  · cases h

set_option maxRecDepth 20000 in
theorem m_Mo_firstOf (l : Launch) : sv_M l yX12_firstOf cX12_firstOf 4 (some .int) (sv_gI n_Mo_firstOf) 5 := by
  refine sv_mI (E := ev_Mo_firstOf) (by decide +kernel) (ln_gen fk_12 kk_12 (sv_ns _ (fun _ => rfl) _)) ?_ a_Mo_firstOf b_Mo_firstOf
  intro p e R s m args below meth c cells slots Q base ad dC dI cA n0 S hkn hR hf pc n f h
  refine sv_lk_all (P := fun pc (x : Nat × sv_F) => sv_cok p l e R s m args below meth c cells slots Q base ad dC dI cA true 4 n0 pc x.1 x.2) ?_ pc (n, f) h
  exact List.forall_mem_cons.mpr ⟨(sv_cV S hkn (m_Mo_laysBy l) ⟨Nat.le_trans (by decide) hR.1, Nat.le_trans (by decide) hR.2⟩ (by decide) hf rfl g_Mo_laysBy (sv_w5 tw_1244 tw_1246 tw_26 tw_65 tw_1247) (by decide +kernel) (sv_dc3 d_Mo_firstOf (pc := 1) rfl rfl)).V,
      List.forall_mem_cons.mpr ⟨(sv_cV S hkn (m_Mo_goesOn l) ⟨Nat.le_trans (by decide) hR.1, Nat.le_trans (by decide) hR.2⟩ (by decide) hf rfl g_Mo_goesOn (sv_w5 tw_1232 tw_1234 tw_25 tw_65 tw_1235) (by decide +kernel) (sv_dc3 d_Mo_firstOf (pc := 19) rfl rfl)).I,
      List.forall_mem_cons.mpr ⟨(sv_cS S hkn (m_Mo_ones l) ⟨Nat.le_trans (by decide) hR.1, Nat.le_trans (by decide) hR.2⟩ (by decide) hf (sv_w4 tw_1236 tw_1237 tw_65 tw_1238) (by decide +kernel) (sv_dc3 d_Mo_firstOf (pc := 22) rfl rfl)).I,
      List.forall_mem_cons.mpr ⟨(sv_cV S hkn (m_Mo_laysBack l) ⟨Nat.le_trans (by decide) hR.1, Nat.le_trans (by decide) hR.2⟩ (by decide) hf rfl g_Mo_laysBack (sv_w5 tw_1248 tw_1250 tw_27 tw_65 tw_1251) (by decide +kernel) (sv_dc3 d_Mo_firstOf (pc := 42) rfl rfl)).V,
      fun _ h => absurd h List.not_mem_nil⟩⟩⟩⟩
noncomputable def f_Mo_soon (σ : sv_S) : Option (Int32 × sv_S) :=
  sv_b (f_Mo_firstOf (1 : Int32) σ) (fun v1 σ2 =>
    sv_b (f_Mo_orNone v1 σ2) (fun v3 σ4 =>
      some (v3, σ4)))
noncomputable def n_Mo_soon : List sv_V → sv_S → Option (Int32 × sv_S)
  | [.inr (.inr (some (30, 0)))], σ => f_Mo_soon σ
  | _, _ => none
def cd_Mo_soon : sv_C := [(0, (.aload_n 0, (sv_N, (1, (0, []))))), (1, (.iconst 1, (.inl (1 : Int32), (2, (0, []))))), (2, (.invokevirtual 168, (sv_N, (5, (0, []))))), (5, (.invokestatic 171, (sv_N, (8, (0, []))))), (8, (.ireturn, (sv_N, (9, (0, [])))))]
noncomputable def ev_Mo_soon : sv_E := (fun i => sv_lk i fl_12, (fun i => sv_lk i kc_12, (fun _ => false, (true, fun pc => sv_lk pc [(2, (2, .inl n_Mo_firstOf)), (5, (1, .inl n_Mo_orNone))]))))
noncomputable def kk_Mo_soon : sv_K (Int32 × sv_S) := fun pc => sv_lk pc []
set_option maxRecDepth 20000 in
theorem e_Mo_soon (σ : sv_S) : sv_ex ev_Mo_soon sv_rI kk_Mo_soon cd_Mo_soon 7 0 [some (.inr (.inr (some (30, 0))))] [] σ = f_Mo_soon σ := by
  unfold f_Mo_soon
  delta ev_Mo_soon kk_Mo_soon n_Mo_firstOf n_Mo_orNone
  generalize f_Mo_firstOf = c0
  generalize f_Mo_orNone = c1
  rfl
theorem d_Mo_soon : cd_Mo_soon.all (sv_dk cX12_soon) = true := by decide +kernel
set_option maxRecDepth 20000 in
theorem b_Mo_soon (Γ : sv_Ga) (res : Int32 × sv_S) (X : sv_Ok Γ ev_Mo_soon cX12_soon sv_rI res) (as : List sv_V) (σ : sv_S) (h : n_Mo_soon as σ = some res) : sv_T Γ 0 (sv_e0 1 as) [] σ := by
  unfold n_Mo_soon at h
  split at h
  · refine sv_run X d_Mo_soon (K := kk_Mo_soon) (sv_lk_all (P := fun pc (k : sv_Lo → List sv_V → sv_S → Option (Int32 × sv_S)) => ∀ lo st σ, k lo st σ = some res → sv_T Γ pc lo st σ) ?_) _ _ _ _ _ ((e_Mo_soon _).trans h)
    clear h
    exact fun _ h => absurd h List.not_mem_nil
  · cases h
theorem a_Mo_soon (as : List sv_V) (σ : sv_S) (x : Int32 × sv_S) (h : n_Mo_soon as σ = some x) : sv_args 1 ev_Mo_soon.2.2.2.1 as := by
  unfold n_Mo_soon at h
  split at h
  · exact ⟨Nat.le_of_ble_eq_true rfl, fun _ v hv => by
      simp only [List.mem_cons, List.not_mem_nil, or_false] at hv
      rcases hv with rfl <;> trivial⟩
  · cases h
theorem g_Mo_soon (as : List sv_V) (σ : sv_S) (x : Option sv_V × sv_S) (h : sv_gI n_Mo_soon as σ = some x) : ∃ r i as', as = sv_R r i :: as' ∧ sv_kd r i = .inl 12 := by
  obtain ⟨_, _, h, -⟩ := sv_b_some h
  unfold n_Mo_soon at h
  split at h
  · exact ⟨_, _, _, rfl, rfl⟩
  · cases h
theorem tw_28 : Cond.selects RX12 yX12_firstOf yX12_firstOf ∈ gw_tbl := gw_at 28 (by decide +kernel) rfl
theorem tw_1256 : Cond.methodLink RX12 168 yX12_firstOf ∈ gw_tbl := gw_at 1256 (by decide +kernel) rfl
theorem tw_1258 : Cond.instanceMethod yX12_firstOf ∈ gw_tbl := gw_at 1258 (by decide +kernel) rfl
theorem tw_1259 : Cond.code yX12_firstOf cX12_firstOf 4 (some .int) ∈ gw_tbl := gw_at 1259 (by decide +kernel) rfl
theorem tw_1260 : Cond.methodLink RX12 171 yX12_orNone ∈ gw_tbl := gw_at 1260 (by decide +kernel) rfl
theorem tw_1261 : Cond.static yX12_orNone ∈ gw_tbl := gw_at 1261 (by decide +kernel) rfl
theorem tw_1262 : Cond.code yX12_orNone cX12_orNone 1 (some .int) ∈ gw_tbl := gw_at 1262 (by decide +kernel) rfl
set_option maxRecDepth 20000 in
theorem m_Mo_soon (l : Launch) : sv_M l yX12_soon cX12_soon 1 (some .int) (sv_gI n_Mo_soon) 6 := by
  refine sv_mI (E := ev_Mo_soon) (by decide +kernel) (ln_gen fk_12 kk_12 (sv_ns _ (fun _ => rfl) _)) ?_ a_Mo_soon b_Mo_soon
  intro p e R s m args below meth c cells slots Q base ad dC dI cA n0 S hkn hR hf pc n f h
  refine sv_lk_all (P := fun pc (x : Nat × sv_F) => sv_cok p l e R s m args below meth c cells slots Q base ad dC dI cA true 1 n0 pc x.1 x.2) ?_ pc (n, f) h
  exact List.forall_mem_cons.mpr ⟨(sv_cV S hkn (m_Mo_firstOf l) ⟨Nat.le_trans (by decide) hR.1, Nat.le_trans (by decide) hR.2⟩ (by decide) hf rfl g_Mo_firstOf (sv_w5 tw_1256 tw_1258 tw_28 tw_65 tw_1259) (by decide +kernel) (sv_dc3 d_Mo_soon (pc := 2) rfl rfl)).I,
      List.forall_mem_cons.mpr ⟨(sv_cS S hkn (m_Mo_orNone l) ⟨Nat.le_trans (by decide) hR.1, Nat.le_trans (by decide) hR.2⟩ (by decide) hf (sv_w4 tw_1260 tw_1261 tw_65 tw_1262) (by decide +kernel) (sv_dc3 d_Mo_soon (pc := 5) rfl rfl)).I,
      fun _ h => absurd h List.not_mem_nil⟩⟩
noncomputable def f_Mo_all (σ : sv_S) : Option (Int32 × sv_S) :=
  sv_g (sv_in (0 : Int32) 3086) (sv_if ((σ 31 0 ((0 : Int32).toNatClampNeg)) = 0)
    (some ((-1000000005 : Int32), σ))
    (sv_g (sv_in (0 : Int32) 3086) (sv_b (f_Mo_firstOf (σ 31 0 ((0 : Int32).toNatClampNeg)) σ) (fun v1 σ2 =>
      sv_b (f_Mo_orNone v1 σ2) (fun v3 σ4 =>
        some (v3, σ4))))))
noncomputable def n_Mo_all : List sv_V → sv_S → Option (Int32 × sv_S)
  | [.inr (.inr (some (30, 0)))], σ => f_Mo_all σ
  | _, _ => none
def cd_Mo_all : sv_C := [(0, (.aload_n 0, (sv_N, (1, (0, []))))), (1, (.getfield 7, (sv_N, (4, (0, []))))), (4, (.iconst 0, (.inl (0 : Int32), (5, (0, []))))), (5, (.iaload, (sv_N, (6, (0, []))))), (6, (.ifCond .ne 8, (sv_N, (9, (14, []))))), (9, (.ldc 70, (sv_N, (11, (0, []))))), (11, (.goto 16, (sv_N, (14, (27, []))))), (14, (.aload_n 0, (sv_N, (15, (0, []))))), (15, (.aload_n 0, (sv_N, (16, (0, []))))), (16, (.getfield 7, (sv_N, (19, (0, []))))), (19, (.iconst 0, (.inl (0 : Int32), (20, (0, []))))), (20, (.iaload, (sv_N, (21, (0, []))))), (21, (.invokevirtual 168, (sv_N, (24, (0, []))))), (24, (.invokestatic 171, (sv_N, (27, (0, []))))), (27, (.ireturn, (sv_N, (28, (0, [])))))]
noncomputable def ev_Mo_all : sv_E := (fun i => sv_lk i fl_12, (fun i => sv_lk i kc_12, (fun _ => false, (true, fun pc => sv_lk pc [(21, (2, .inl n_Mo_firstOf)), (24, (1, .inl n_Mo_orNone))]))))
noncomputable def kk_Mo_all : sv_K (Int32 × sv_S) := fun pc => sv_lk pc []
set_option maxRecDepth 20000 in
theorem e_Mo_all (σ : sv_S) : sv_ex ev_Mo_all sv_rI kk_Mo_all cd_Mo_all 17 0 [some (.inr (.inr (some (30, 0))))] [] σ = f_Mo_all σ := by
  unfold f_Mo_all
  delta ev_Mo_all kk_Mo_all n_Mo_firstOf n_Mo_orNone
  generalize f_Mo_firstOf = c0
  generalize f_Mo_orNone = c1
  rfl
theorem d_Mo_all : cd_Mo_all.all (sv_dk cX12_all) = true := by decide +kernel
set_option maxRecDepth 20000 in
theorem b_Mo_all (Γ : sv_Ga) (res : Int32 × sv_S) (X : sv_Ok Γ ev_Mo_all cX12_all sv_rI res) (as : List sv_V) (σ : sv_S) (h : n_Mo_all as σ = some res) : sv_T Γ 0 (sv_e0 1 as) [] σ := by
  unfold n_Mo_all at h
  split at h
  · refine sv_run X d_Mo_all (K := kk_Mo_all) (sv_lk_all (P := fun pc (k : sv_Lo → List sv_V → sv_S → Option (Int32 × sv_S)) => ∀ lo st σ, k lo st σ = some res → sv_T Γ pc lo st σ) ?_) _ _ _ _ _ ((e_Mo_all _).trans h)
    clear h
    exact fun _ h => absurd h List.not_mem_nil
  · cases h
theorem a_Mo_all (as : List sv_V) (σ : sv_S) (x : Int32 × sv_S) (h : n_Mo_all as σ = some x) : sv_args 1 ev_Mo_all.2.2.2.1 as := by
  unfold n_Mo_all at h
  split at h
  · exact ⟨Nat.le_of_ble_eq_true rfl, fun _ v hv => by
      simp only [List.mem_cons, List.not_mem_nil, or_false] at hv
      rcases hv with rfl <;> trivial⟩
  · cases h
theorem g_Mo_all (as : List sv_V) (σ : sv_S) (x : Option sv_V × sv_S) (h : sv_gI n_Mo_all as σ = some x) : ∃ r i as', as = sv_R r i :: as' ∧ sv_kd r i = .inl 12 := by
  obtain ⟨_, _, h, -⟩ := sv_b_some h
  unfold n_Mo_all at h
  split at h
  · exact ⟨_, _, _, rfl, rfl⟩
  · cases h

set_option maxRecDepth 20000 in
theorem m_Mo_all (l : Launch) : sv_M l yX12_all cX12_all 1 (some .int) (sv_gI n_Mo_all) 6 := by
  refine sv_mI (E := ev_Mo_all) (by decide +kernel) (ln_gen fk_12 kk_12 (sv_ns _ (fun _ => rfl) _)) ?_ a_Mo_all b_Mo_all
  intro p e R s m args below meth c cells slots Q base ad dC dI cA n0 S hkn hR hf pc n f h
  refine sv_lk_all (P := fun pc (x : Nat × sv_F) => sv_cok p l e R s m args below meth c cells slots Q base ad dC dI cA true 1 n0 pc x.1 x.2) ?_ pc (n, f) h
  exact List.forall_mem_cons.mpr ⟨(sv_cV S hkn (m_Mo_firstOf l) ⟨Nat.le_trans (by decide) hR.1, Nat.le_trans (by decide) hR.2⟩ (by decide) hf rfl g_Mo_firstOf (sv_w5 tw_1256 tw_1258 tw_28 tw_65 tw_1259) (by decide +kernel) (sv_dc3 d_Mo_all (pc := 21) rfl rfl)).I,
      List.forall_mem_cons.mpr ⟨(sv_cS S hkn (m_Mo_orNone l) ⟨Nat.le_trans (by decide) hR.1, Nat.le_trans (by decide) hR.2⟩ (by decide) hf (sv_w4 tw_1260 tw_1261 tw_65 tw_1262) (by decide +kernel) (sv_dc3 d_Mo_all (pc := 24) rfl rfl)).I,
      fun _ h => absurd h List.not_mem_nil⟩⟩
noncomputable def f_Mo_layFirsts_108 (k28 : Int32 → Int32 → sv_S → Option (sv_S)) (k67 : Int32 → Int32 → Int32 → Int32 → sv_S → Option (sv_S)) (x1 : Int32) (x2 : Int32) (x3 : Int32) (x4 : Int32) (y0 : Int32) (y1 : Nat) (σ : sv_S) : Option (sv_S) :=
    sv_g (sv_in x4 10) (sv_g (sv_in y0 (sv_ml y1)) (k67 x1 x2 x3 (x4 + (1 : Int32)) (sv_up σ 31 y1 (y0.toNatClampNeg) (σ 31 14 (x4.toNatClampNeg)))))
noncomputable def f_Mo_layFirsts_67 (k28 : Int32 → Int32 → sv_S → Option (sv_S)) : Nat → Int32 → Int32 → Int32 → Int32 → sv_S → Option (sv_S)
  | 0, _, _, _, _, _ => none
  | n + 1, x1, x2, x3, x4, σ =>
    sv_g (sv_in (0 : Int32) 3086) (sv_if ((σ 31 0 ((0 : Int32).toNatClampNeg)) ≤ x4)
      (k28 x1 (x2 + (1 : Int32)) σ)
      (sv_g (sv_in x4 10) (sv_if ((σ 31 14 (x4.toNatClampNeg)) = 0)
        (sv_if (((x3 >>> (x4 &&& 31)) &&& (1 : Int32)) = (1 : Int32))
          (sv_g (sv_in x4 10) (f_Mo_layFirsts_67 k28 n x1 x2 x3 (x4 + (1 : Int32)) (sv_up σ 31 14 (x4.toNatClampNeg) x2)))
          (f_Mo_layFirsts_108 k28 (f_Mo_layFirsts_67 k28 n) x1 x2 x3 x4 x4 14 σ))
        (f_Mo_layFirsts_108 k28 (f_Mo_layFirsts_67 k28 n) x1 x2 x3 x4 x4 14 σ))))
noncomputable def f_Mo_layFirsts_28 : Nat → Int32 → Int32 → sv_S → Option (sv_S)
  | 0, _, _, _ => none
  | n + 1, x1, x2, σ =>
    sv_if (x1 < x2)
      (some σ)
      (sv_b (f_Mo_goesOn σ) (fun v1 σ2 =>
        sv_b (f_Mo_ones v1 σ2) (fun v3 σ4 =>
          sv_if (v3 ≤ (σ4 30 0 15))
            (let σ5 := sv_up σ4 30 0 15 (σ4 30 0 15)
            f_Mo_layFirsts_67 (f_Mo_layFirsts_28 n) sv_fu x1 x2 v1 (0 : Int32) σ5)
            (sv_b (f_Mo_ones v1 σ4) (fun v6 σ7 =>
              let σ8 := sv_up σ7 30 0 15 v6
              f_Mo_layFirsts_67 (f_Mo_layFirsts_28 n) sv_fu x1 x2 v1 (0 : Int32) σ8)))))
noncomputable def f_Mo_layFirsts_7 : Nat → Int32 → Int32 → sv_S → Option (sv_S)
  | 0, _, _, _ => none
  | n + 1, x1, x2, σ =>
    sv_if ((10 : Int32) ≤ x2)
      (f_Mo_layFirsts_28 sv_fu x1 (1 : Int32) σ)
      (sv_g (sv_in x2 10) (f_Mo_layFirsts_7 n x1 (x2 + (1 : Int32)) (sv_up σ 31 14 (x2.toNatClampNeg) (0 : Int32))))
noncomputable def f_Mo_layFirsts (a1 : Int32) (σ : sv_S) : Option (sv_S) :=
  let σ1 := sv_up σ 30 0 15 (0 : Int32)
  f_Mo_layFirsts_7 sv_fu a1 (0 : Int32) σ1
noncomputable def n_Mo_layFirsts : List sv_V → sv_S → Option (sv_S)
  | [.inr (.inr (some (30, 0))), .inl a1], σ => f_Mo_layFirsts a1 σ
  | _, _ => none
def cd_Mo_layFirsts : sv_C := [(0, (.aload_n 0, (sv_N, (1, (0, []))))), (1, (.iconst 0, (.inl (0 : Int32), (2, (0, []))))), (2, (.putfield 174, (sv_N, (5, (0, []))))), (5, (.iconst 0, (.inl (0 : Int32), (6, (0, []))))), (6, (.istore_n 2, (sv_N, (7, (0, []))))), (7, (.iload_n 2, (sv_N, (8, (0, []))))), (8, (.bipush 10, (.inl (10 : Int32), (10, (0, []))))), (10, (.if_icmp .ge 16, (sv_N, (13, (26, []))))), (13, (.aload_n 0, (sv_N, (14, (0, []))))), (14, (.getfield 49, (sv_N, (17, (0, []))))), (17, (.iload_n 2, (sv_N, (18, (0, []))))), (18, (.iconst 0, (.inl (0 : Int32), (19, (0, []))))), (19, (.iastore, (sv_N, (20, (0, []))))), (20, (.iinc 2 1, (.inl (1 : Int32), (23, (0, []))))), (23, (.goto (-16), (sv_N, (26, (7, []))))), (26, (.iconst 1, (.inl (1 : Int32), (27, (0, []))))), (27, (.istore_n 2, (sv_N, (28, (0, []))))), (28, (.iload_n 2, (sv_N, (29, (0, []))))), (29, (.iload_n 1, (sv_N, (30, (0, []))))), (30, (.if_icmp .gt 98, (sv_N, (33, (128, []))))), (33, (.aload_n 0, (sv_N, (34, (0, []))))), (34, (.invokevirtual 154, (sv_N, (37, (0, []))))), (37, (.istore_n 3, (sv_N, (38, (0, []))))), (38, (.aload_n 0, (sv_N, (39, (0, []))))), (39, (.iload_n 3, (sv_N, (40, (0, []))))), (40, (.invokestatic 157, (sv_N, (43, (0, []))))), (43, (.aload_n 0, (sv_N, (44, (0, []))))), (44, (.getfield 174, (sv_N, (47, (0, []))))), (47, (.if_icmp .le 10, (sv_N, (50, (57, []))))), (50, (.iload_n 3, (sv_N, (51, (0, []))))), (51, (.invokestatic 157, (sv_N, (54, (0, []))))), (54, (.goto 7, (sv_N, (57, (61, []))))), (57, (.aload_n 0, (sv_N, (58, (0, []))))), (58, (.getfield 174, (sv_N, (61, (0, []))))), (61, (.putfield 174, (sv_N, (64, (0, []))))), (64, (.iconst 0, (.inl (0 : Int32), (65, (0, []))))), (65, (.istore 4, (sv_N, (67, (0, []))))), (67, (.iload 4, (sv_N, (69, (0, []))))), (69, (.aload_n 0, (sv_N, (70, (0, []))))), (70, (.getfield 7, (sv_N, (73, (0, []))))), (73, (.iconst 0, (.inl (0 : Int32), (74, (0, []))))), (74, (.iaload, (sv_N, (75, (0, []))))), (75, (.if_icmp .ge 47, (sv_N, (78, (122, []))))), (78, (.aload_n 0, (sv_N, (79, (0, []))))), (79, (.getfield 49, (sv_N, (82, (0, []))))), (82, (.iload 4, (sv_N, (84, (0, []))))), (84, (.aload_n 0, (sv_N, (85, (0, []))))), (85, (.getfield 49, (sv_N, (88, (0, []))))), (88, (.iload 4, (sv_N, (90, (0, []))))), (90, (.iaload, (sv_N, (91, (0, []))))), (91, (.ifCond .ne 17, (sv_N, (94, (108, []))))), (94, (.iload_n 3, (sv_N, (95, (0, []))))), (95, (.iload 4, (sv_N, (97, (0, []))))), (97, (.ishr, (sv_N, (98, (0, []))))), (98, (.iconst 1, (.inl (1 : Int32), (99, (0, []))))), (99, (.iand, (sv_N, (100, (0, []))))), (100, (.iconst 1, (.inl (1 : Int32), (101, (0, []))))), (101, (.if_icmp .ne 7, (sv_N, (104, (108, []))))), (104, (.iload_n 2, (sv_N, (105, (0, []))))), (105, (.goto 10, (sv_N, (108, (115, []))))), (108, (.aload_n 0, (sv_N, (109, (0, []))))), (109, (.getfield 49, (sv_N, (112, (0, []))))), (112, (.iload 4, (sv_N, (114, (0, []))))), (114, (.iaload, (sv_N, (115, (0, []))))), (115, (.iastore, (sv_N, (116, (0, []))))), (116, (.iinc 4 1, (.inl (1 : Int32), (119, (0, []))))), (119, (.goto (-52), (sv_N, (122, (67, []))))), (122, (.iinc 2 1, (.inl (1 : Int32), (125, (0, []))))), (125, (.goto (-97), (sv_N, (128, (28, []))))), (128, (.return_, (sv_N, (129, (0, [])))))]
noncomputable def ev_Mo_layFirsts : sv_E := (fun i => sv_lk i fl_12, (fun i => sv_lk i kc_12, (fun _ => false, (true, fun pc => sv_lk pc [(34, (1, .inl n_Mo_goesOn)), (40, (1, .inl n_Mo_ones)), (51, (1, .inl n_Mo_ones))]))))
noncomputable def kk_Mo_layFirsts_108 (k28 : Int32 → Int32 → sv_S → Option (sv_S)) (k67 : Int32 → Int32 → Int32 → Int32 → sv_S → Option (sv_S)) : sv_K (sv_S) := fun pc => sv_lk pc [(67, fun lo st σ => match lo, st with
    | [some (.inr (.inr (some (30, 0)))), some (.inl x1), some (.inl x2), some (.inl x3), some (.inl x4)], [] => k67 x1 x2 x3 x4 σ
    | _, _ => none)]
set_option maxRecDepth 20000 in
theorem e_Mo_layFirsts_108 (k28 : Int32 → Int32 → sv_S → Option (sv_S)) (k67 : Int32 → Int32 → Int32 → Int32 → sv_S → Option (sv_S)) (x1 : Int32) (x2 : Int32) (x3 : Int32) (x4 : Int32) (y0 : Int32) (y1 : Nat) (σ : sv_S) : sv_ex ev_Mo_layFirsts sv_rV (kk_Mo_layFirsts_108 k28 k67) cd_Mo_layFirsts 72 108 [some (.inr (.inr (some (30, 0)))), some (.inl x1), some (.inl x2), some (.inl x3), some (.inl x4)] [.inl y0, .inr (.inr (some (31, y1)))] σ = f_Mo_layFirsts_108 k28 k67 x1 x2 x3 x4 y0 y1 σ := by
  unfold f_Mo_layFirsts_108
  delta ev_Mo_layFirsts kk_Mo_layFirsts_108 n_Mo_goesOn n_Mo_ones
  generalize f_Mo_goesOn = c0
  generalize f_Mo_ones = c1
  generalize f_Mo_layFirsts_67 = c2
  rfl
noncomputable def kk_Mo_layFirsts_67 (k28 : Int32 → Int32 → sv_S → Option (sv_S)) (n : Nat) : sv_K (sv_S) := fun pc => sv_lk pc [(28, fun lo st σ => match lo, st with
    | [some (.inr (.inr (some (30, 0)))), some (.inl x1), some (.inl x2), _, _], [] => k28 x1 x2 σ
    | _, _ => none),
  (67, fun lo st σ => match lo, st with
    | [some (.inr (.inr (some (30, 0)))), some (.inl x1), some (.inl x2), some (.inl x3), some (.inl x4)], [] => f_Mo_layFirsts_67 k28 n x1 x2 x3 x4 σ
    | _, _ => none),
  (108, fun lo st σ => match lo, st with
    | [some (.inr (.inr (some (30, 0)))), some (.inl x1), some (.inl x2), some (.inl x3), some (.inl x4)], [.inl y0, .inr (.inr (some (31, y1)))] => f_Mo_layFirsts_108 k28 (f_Mo_layFirsts_67 k28 n) x1 x2 x3 x4 y0 y1 σ
    | _, _ => none)]
set_option maxRecDepth 20000 in
theorem e_Mo_layFirsts_67 (k28 : Int32 → Int32 → sv_S → Option (sv_S)) (n : Nat) (x1 : Int32) (x2 : Int32) (x3 : Int32) (x4 : Int32) (σ : sv_S) : sv_ex ev_Mo_layFirsts sv_rV (kk_Mo_layFirsts_67 k28 n) cd_Mo_layFirsts 72 67 [some (.inr (.inr (some (30, 0)))), some (.inl x1), some (.inl x2), some (.inl x3), some (.inl x4)] [] σ = f_Mo_layFirsts_67 k28 (n + 1) x1 x2 x3 x4 σ := by
  rw [f_Mo_layFirsts_67.eq_2]
  delta ev_Mo_layFirsts kk_Mo_layFirsts_67 n_Mo_goesOn n_Mo_ones
  generalize f_Mo_goesOn = c0
  generalize f_Mo_ones = c1
  generalize f_Mo_layFirsts_28 = c2
  generalize f_Mo_layFirsts_67 = c3
  generalize f_Mo_layFirsts_108 = c4
  rfl
noncomputable def kk_Mo_layFirsts_28 (n : Nat) : sv_K (sv_S) := fun pc => sv_lk pc [(67, fun lo st σ => match lo, st with
    | [some (.inr (.inr (some (30, 0)))), some (.inl x1), some (.inl x2), some (.inl x3), some (.inl x4)], [] => f_Mo_layFirsts_67 (f_Mo_layFirsts_28 n) sv_fu x1 x2 x3 x4 σ
    | _, _ => none)]
set_option maxRecDepth 20000 in
theorem e_Mo_layFirsts_28 (n : Nat) (x1 : Int32) (x2 : Int32) (z3 z4 : Option sv_V) (σ : sv_S) : sv_ex ev_Mo_layFirsts sv_rV (kk_Mo_layFirsts_28 n) cd_Mo_layFirsts 72 28 [some (.inr (.inr (some (30, 0)))), some (.inl x1), some (.inl x2), z3, z4] [] σ = f_Mo_layFirsts_28 (n + 1) x1 x2 σ := by
  rw [f_Mo_layFirsts_28.eq_2]
  delta ev_Mo_layFirsts kk_Mo_layFirsts_28 n_Mo_goesOn n_Mo_ones
  generalize f_Mo_goesOn = c0
  generalize f_Mo_ones = c1
  generalize f_Mo_layFirsts_67 = c2
  generalize f_Mo_layFirsts_28 = c3
  rfl
noncomputable def kk_Mo_layFirsts_7 (n : Nat) : sv_K (sv_S) := fun pc => sv_lk pc [(7, fun lo st σ => match lo, st with
    | [some (.inr (.inr (some (30, 0)))), some (.inl x1), some (.inl x2), _, _], [] => f_Mo_layFirsts_7 n x1 x2 σ
    | _, _ => none),
  (28, fun lo st σ => match lo, st with
    | [some (.inr (.inr (some (30, 0)))), some (.inl x1), some (.inl x2), _, _], [] => f_Mo_layFirsts_28 sv_fu x1 x2 σ
    | _, _ => none)]
set_option maxRecDepth 20000 in
theorem e_Mo_layFirsts_7 (n : Nat) (x1 : Int32) (x2 : Int32) (z3 z4 : Option sv_V) (σ : sv_S) : sv_ex ev_Mo_layFirsts sv_rV (kk_Mo_layFirsts_7 n) cd_Mo_layFirsts 72 7 [some (.inr (.inr (some (30, 0)))), some (.inl x1), some (.inl x2), z3, z4] [] σ = f_Mo_layFirsts_7 (n + 1) x1 x2 σ := by
  rw [f_Mo_layFirsts_7.eq_2]
  delta ev_Mo_layFirsts kk_Mo_layFirsts_7 n_Mo_goesOn n_Mo_ones
  generalize f_Mo_goesOn = c0
  generalize f_Mo_ones = c1
  generalize f_Mo_layFirsts_7 = c2
  generalize f_Mo_layFirsts_28 = c3
  rfl
noncomputable def kk_Mo_layFirsts : sv_K (sv_S) := fun pc => sv_lk pc [(7, fun lo st σ => match lo, st with
    | [some (.inr (.inr (some (30, 0)))), some (.inl x1), some (.inl x2), _, _], [] => f_Mo_layFirsts_7 sv_fu x1 x2 σ
    | _, _ => none)]
set_option maxRecDepth 20000 in
theorem e_Mo_layFirsts (a1 : Int32) (σ : sv_S) : sv_ex ev_Mo_layFirsts sv_rV kk_Mo_layFirsts cd_Mo_layFirsts 72 0 [some (.inr (.inr (some (30, 0)))), some (.inl a1), none, none, none] [] σ = f_Mo_layFirsts a1 σ := by
  unfold f_Mo_layFirsts
  delta ev_Mo_layFirsts kk_Mo_layFirsts n_Mo_goesOn n_Mo_ones
  generalize f_Mo_goesOn = c0
  generalize f_Mo_ones = c1
  generalize f_Mo_layFirsts_7 = c2
  rfl
theorem d_Mo_layFirsts : cd_Mo_layFirsts.all (sv_dk cX12_layFirsts) = true := by decide +kernel
set_option maxRecDepth 20000 in
theorem w_Mo_layFirsts_108 {Γ : sv_Ga} {res : sv_S} (X : sv_Ok Γ ev_Mo_layFirsts cX12_layFirsts sv_rV res) (k28 : Int32 → Int32 → sv_S → Option (sv_S)) (h28 : ∀ (x1 : Int32) (x2 : Int32) (z3 z4 : Option sv_V) (σ : sv_S), k28 x1 x2 σ = some res → sv_T Γ 28 [some (.inr (.inr (some (30, 0)))), some (.inl x1), some (.inl x2), z3, z4] [] σ) (k67 : Int32 → Int32 → Int32 → Int32 → sv_S → Option (sv_S)) (h67 : ∀ (x1 : Int32) (x2 : Int32) (x3 : Int32) (x4 : Int32) (σ : sv_S), k67 x1 x2 x3 x4 σ = some res → sv_T Γ 67 [some (.inr (.inr (some (30, 0)))), some (.inl x1), some (.inl x2), some (.inl x3), some (.inl x4)] [] σ) : ∀ (x1 : Int32) (x2 : Int32) (x3 : Int32) (x4 : Int32) (y0 : Int32) (y1 : Nat) (σ : sv_S), f_Mo_layFirsts_108 k28 k67 x1 x2 x3 x4 y0 y1 σ = some res → sv_T Γ 108 [some (.inr (.inr (some (30, 0)))), some (.inl x1), some (.inl x2), some (.inl x3), some (.inl x4)] [.inl y0, .inr (.inr (some (31, y1)))] σ := by
  intro x1 x2 x3 x4 y0 y1 σ h
  refine sv_run X d_Mo_layFirsts (K := kk_Mo_layFirsts_108 k28 k67) (sv_lk_all (P := fun pc (k : sv_Lo → List sv_V → sv_S → Option (sv_S)) => ∀ lo st σ, k lo st σ = some res → sv_T Γ pc lo st σ) ?_) _ _ _ _ _ ((e_Mo_layFirsts_108 k28 k67 x1 x2 x3 x4 y0 y1 σ).trans h)
  clear h
  refine List.forall_mem_cons.mpr ⟨fun lo st σ h => ?_, fun _ h => absurd h List.not_mem_nil⟩
  · dsimp only at h
    split at h
    · exact h67 _ _ _ _ _ h
    · cases h

set_option maxRecDepth 20000 in
theorem w_Mo_layFirsts_67 {Γ : sv_Ga} {res : sv_S} (X : sv_Ok Γ ev_Mo_layFirsts cX12_layFirsts sv_rV res) (k28 : Int32 → Int32 → sv_S → Option (sv_S)) (h28 : ∀ (x1 : Int32) (x2 : Int32) (z3 z4 : Option sv_V) (σ : sv_S), k28 x1 x2 σ = some res → sv_T Γ 28 [some (.inr (.inr (some (30, 0)))), some (.inl x1), some (.inl x2), z3, z4] [] σ) : ∀ (n : Nat) (x1 : Int32) (x2 : Int32) (x3 : Int32) (x4 : Int32) (σ : sv_S), f_Mo_layFirsts_67 k28 n x1 x2 x3 x4 σ = some res → sv_T Γ 67 [some (.inr (.inr (some (30, 0)))), some (.inl x1), some (.inl x2), some (.inl x3), some (.inl x4)] [] σ := by
  intro n
  induction n with
  | zero =>
    intro x1 x2 x3 x4 σ h
    rw [f_Mo_layFirsts_67.eq_1] at h
    cases h
  | succ n ih =>
    intro x1 x2 x3 x4 σ h
    refine sv_run X d_Mo_layFirsts (K := kk_Mo_layFirsts_67 k28 n) (sv_lk_all (P := fun pc (k : sv_Lo → List sv_V → sv_S → Option (sv_S)) => ∀ lo st σ, k lo st σ = some res → sv_T Γ pc lo st σ) ?_) _ _ _ _ _ ((e_Mo_layFirsts_67 k28 n x1 x2 x3 x4 σ).trans h)
    clear h
    refine List.forall_mem_cons.mpr ⟨fun lo st σ h => ?_, List.forall_mem_cons.mpr ⟨fun lo st σ h => ?_, List.forall_mem_cons.mpr ⟨fun lo st σ h => ?_, fun _ h => absurd h List.not_mem_nil⟩⟩⟩
    · dsimp only at h
      split at h
      · exact h28 _ _ _ _ _ h
      · cases h
    · dsimp only at h
      split at h
      · exact ih _ _ _ _ _ h
      · cases h
    · dsimp only at h
      split at h
      · exact w_Mo_layFirsts_108 X _ h28 _ ih _ _ _ _ _ _ _ h
      · cases h

set_option maxRecDepth 20000 in
theorem w_Mo_layFirsts_28 {Γ : sv_Ga} {res : sv_S} (X : sv_Ok Γ ev_Mo_layFirsts cX12_layFirsts sv_rV res) : ∀ (n : Nat) (x1 : Int32) (x2 : Int32) (z3 z4 : Option sv_V) (σ : sv_S), f_Mo_layFirsts_28 n x1 x2 σ = some res → sv_T Γ 28 [some (.inr (.inr (some (30, 0)))), some (.inl x1), some (.inl x2), z3, z4] [] σ := by
  intro n
  induction n with
  | zero =>
    intro x1 x2 z3 z4 σ h
    rw [f_Mo_layFirsts_28.eq_1] at h
    cases h
  | succ n ih =>
    intro x1 x2 z3 z4 σ h
    refine sv_run X d_Mo_layFirsts (K := kk_Mo_layFirsts_28 n) (sv_lk_all (P := fun pc (k : sv_Lo → List sv_V → sv_S → Option (sv_S)) => ∀ lo st σ, k lo st σ = some res → sv_T Γ pc lo st σ) ?_) _ _ _ _ _ ((e_Mo_layFirsts_28 n x1 x2 z3 z4 σ).trans h)
    clear h
    refine List.forall_mem_cons.mpr ⟨fun lo st σ h => ?_, fun _ h => absurd h List.not_mem_nil⟩
    · dsimp only at h
      split at h
      · exact w_Mo_layFirsts_67 X _ ih _ _ _ _ _ _ h
      · cases h

set_option maxRecDepth 20000 in
theorem w_Mo_layFirsts_7 {Γ : sv_Ga} {res : sv_S} (X : sv_Ok Γ ev_Mo_layFirsts cX12_layFirsts sv_rV res) : ∀ (n : Nat) (x1 : Int32) (x2 : Int32) (z3 z4 : Option sv_V) (σ : sv_S), f_Mo_layFirsts_7 n x1 x2 σ = some res → sv_T Γ 7 [some (.inr (.inr (some (30, 0)))), some (.inl x1), some (.inl x2), z3, z4] [] σ := by
  intro n
  induction n with
  | zero =>
    intro x1 x2 z3 z4 σ h
    rw [f_Mo_layFirsts_7.eq_1] at h
    cases h
  | succ n ih =>
    intro x1 x2 z3 z4 σ h
    refine sv_run X d_Mo_layFirsts (K := kk_Mo_layFirsts_7 n) (sv_lk_all (P := fun pc (k : sv_Lo → List sv_V → sv_S → Option (sv_S)) => ∀ lo st σ, k lo st σ = some res → sv_T Γ pc lo st σ) ?_) _ _ _ _ _ ((e_Mo_layFirsts_7 n x1 x2 z3 z4 σ).trans h)
    clear h
    refine List.forall_mem_cons.mpr ⟨fun lo st σ h => ?_, List.forall_mem_cons.mpr ⟨fun lo st σ h => ?_, fun _ h => absurd h List.not_mem_nil⟩⟩
    · dsimp only at h
      split at h
      · exact ih _ _ _ _ _ h
      · cases h
    · dsimp only at h
      split at h
      · exact w_Mo_layFirsts_28 X _ _ _ _ _ _ h
      · cases h

set_option maxRecDepth 20000 in
theorem b_Mo_layFirsts (Γ : sv_Ga) (res : sv_S) (X : sv_Ok Γ ev_Mo_layFirsts cX12_layFirsts sv_rV res) (as : List sv_V) (σ : sv_S) (h : n_Mo_layFirsts as σ = some res) : sv_T Γ 0 (sv_e0 5 as) [] σ := by
  unfold n_Mo_layFirsts at h
  split at h
  · refine sv_run X d_Mo_layFirsts (K := kk_Mo_layFirsts) (sv_lk_all (P := fun pc (k : sv_Lo → List sv_V → sv_S → Option (sv_S)) => ∀ lo st σ, k lo st σ = some res → sv_T Γ pc lo st σ) ?_) _ _ _ _ _ ((e_Mo_layFirsts _ _).trans h)
    clear h
    refine List.forall_mem_cons.mpr ⟨fun lo st σ h => ?_, fun _ h => absurd h List.not_mem_nil⟩
    · dsimp only at h
      split at h
      · exact w_Mo_layFirsts_7 X _ _ _ _ _ _ h
      · cases h
  · cases h
theorem a_Mo_layFirsts (as : List sv_V) (σ : sv_S) (x : sv_S) (h : n_Mo_layFirsts as σ = some x) : sv_args 5 ev_Mo_layFirsts.2.2.2.1 as := by
  unfold n_Mo_layFirsts at h
  split at h
  · exact ⟨Nat.le_of_ble_eq_true rfl, fun _ v hv => by
      simp only [List.mem_cons, List.not_mem_nil, or_false] at hv
      rcases hv with rfl | rfl <;> trivial⟩
  · cases h
theorem g_Mo_layFirsts (as : List sv_V) (σ : sv_S) (x : Option sv_V × sv_S) (h : sv_gV n_Mo_layFirsts as σ = some x) : ∃ r i as', as = sv_R r i :: as' ∧ sv_kd r i = .inl 12 := by
  obtain ⟨_, h, -⟩ := sv_b0_some h
  unfold n_Mo_layFirsts at h
  split at h
  · exact ⟨_, _, _, rfl, rfl⟩
  · cases h

set_option maxRecDepth 20000 in
theorem m_Mo_layFirsts (l : Launch) : sv_M l yX12_layFirsts cX12_layFirsts 5 none (sv_gV n_Mo_layFirsts) 5 := by
  refine sv_mV (E := ev_Mo_layFirsts) (by decide +kernel) (ln_gen fk_12 kk_12 (sv_ns _ (fun _ => rfl) _)) ?_ a_Mo_layFirsts b_Mo_layFirsts
  intro p e R s m args below meth c cells slots Q base ad dC dI cA n0 S hkn hR hf pc n f h
  refine sv_lk_all (P := fun pc (x : Nat × sv_F) => sv_cok p l e R s m args below meth c cells slots Q base ad dC dI cA true 5 n0 pc x.1 x.2) ?_ pc (n, f) h
  exact List.forall_mem_cons.mpr ⟨(sv_cV S hkn (m_Mo_goesOn l) ⟨Nat.le_trans (by decide) hR.1, Nat.le_trans (by decide) hR.2⟩ (by decide) hf rfl g_Mo_goesOn (sv_w5 tw_1232 tw_1234 tw_25 tw_65 tw_1235) (by decide +kernel) (sv_dc3 d_Mo_layFirsts (pc := 34) rfl rfl)).I,
      List.forall_mem_cons.mpr ⟨(sv_cS S hkn (m_Mo_ones l) ⟨Nat.le_trans (by decide) hR.1, Nat.le_trans (by decide) hR.2⟩ (by decide) hf (sv_w4 tw_1236 tw_1237 tw_65 tw_1238) (by decide +kernel) (sv_dc3 d_Mo_layFirsts (pc := 40) rfl rfl)).I,
      List.forall_mem_cons.mpr ⟨(sv_cS S hkn (m_Mo_ones l) ⟨Nat.le_trans (by decide) hR.1, Nat.le_trans (by decide) hR.2⟩ (by decide) hf (sv_w4 tw_1236 tw_1237 tw_65 tw_1238) (by decide +kernel) (sv_dc3 d_Mo_layFirsts (pc := 51) rfl rfl)).I,
      fun _ h => absurd h List.not_mem_nil⟩⟩⟩
noncomputable def f_Mo_spreadOf_38 (k8 : Int32 → Int32 → Int32 → sv_S → Option (Int32 × sv_S)) (x2 : Int32) (x3 : Int32) (y0 : Int32) (σ : sv_S) : Option (Int32 × sv_S) :=
    sv_g (sv_in x3 10) (sv_if ((σ 31 14 (x3.toNatClampNeg)) ≤ x2)
      (k8 y0 x2 (x3 + (1 : Int32)) σ)
      (sv_g (sv_in x3 10) (k8 y0 (σ 31 14 (x3.toNatClampNeg)) (x3 + (1 : Int32)) σ)))
noncomputable def f_Mo_spreadOf_8 : Nat → Int32 → Int32 → Int32 → sv_S → Option (Int32 × sv_S)
  | 0, _, _, _, _ => none
  | n + 1, x1, x2, x3, σ =>
    sv_g (sv_in (0 : Int32) 3086) (sv_if ((σ 31 0 ((0 : Int32).toNatClampNeg)) ≤ x3)
      (sv_g (sv_in (0 : Int32) 3086) (sv_if ((σ 31 0 ((0 : Int32).toNatClampNeg)) = 0)
        (some ((-1 : Int32), σ))
        (sv_if (x1 = 0)
          (some ((-1 : Int32), σ))
          (some (x2 - x1, σ)))))
      (sv_g (sv_in x3 10) (sv_if (x1 ≤ (σ 31 14 (x3.toNatClampNeg)))
        (f_Mo_spreadOf_38 (f_Mo_spreadOf_8 n) x2 x3 x1 σ)
        (sv_g (sv_in x3 10) (f_Mo_spreadOf_38 (f_Mo_spreadOf_8 n) x2 x3 (σ 31 14 (x3.toNatClampNeg)) σ)))))
noncomputable def f_Mo_spreadOf (σ : sv_S) : Option (Int32 × sv_S) :=
  f_Mo_spreadOf_8 sv_fu (1000 : Int32) (0 : Int32) (0 : Int32) σ
noncomputable def n_Mo_spreadOf : List sv_V → sv_S → Option (Int32 × sv_S)
  | [.inr (.inr (some (30, 0)))], σ => f_Mo_spreadOf σ
  | _, _ => none
def cd_Mo_spreadOf : sv_C := [(0, (.sipush 1000, (.inl (1000 : Int32), (3, (0, []))))), (3, (.istore_n 1, (sv_N, (4, (0, []))))), (4, (.iconst 0, (.inl (0 : Int32), (5, (0, []))))), (5, (.istore_n 2, (sv_N, (6, (0, []))))), (6, (.iconst 0, (.inl (0 : Int32), (7, (0, []))))), (7, (.istore_n 3, (sv_N, (8, (0, []))))), (8, (.iload_n 3, (sv_N, (9, (0, []))))), (9, (.aload_n 0, (sv_N, (10, (0, []))))), (10, (.getfield 7, (sv_N, (13, (0, []))))), (13, (.iconst 0, (.inl (0 : Int32), (14, (0, []))))), (14, (.iaload, (sv_N, (15, (0, []))))), (15, (.if_icmp .ge 51, (sv_N, (18, (66, []))))), (18, (.aload_n 0, (sv_N, (19, (0, []))))), (19, (.getfield 49, (sv_N, (22, (0, []))))), (22, (.iload_n 3, (sv_N, (23, (0, []))))), (23, (.iaload, (sv_N, (24, (0, []))))), (24, (.iload_n 1, (sv_N, (25, (0, []))))), (25, (.if_icmp .ge 12, (sv_N, (28, (37, []))))), (28, (.aload_n 0, (sv_N, (29, (0, []))))), (29, (.getfield 49, (sv_N, (32, (0, []))))), (32, (.iload_n 3, (sv_N, (33, (0, []))))), (33, (.iaload, (sv_N, (34, (0, []))))), (34, (.goto 4, (sv_N, (37, (38, []))))), (37, (.iload_n 1, (sv_N, (38, (0, []))))), (38, (.istore_n 1, (sv_N, (39, (0, []))))), (39, (.aload_n 0, (sv_N, (40, (0, []))))), (40, (.getfield 49, (sv_N, (43, (0, []))))), (43, (.iload_n 3, (sv_N, (44, (0, []))))), (44, (.iaload, (sv_N, (45, (0, []))))), (45, (.iload_n 2, (sv_N, (46, (0, []))))), (46, (.if_icmp .le 12, (sv_N, (49, (58, []))))), (49, (.aload_n 0, (sv_N, (50, (0, []))))), (50, (.getfield 49, (sv_N, (53, (0, []))))), (53, (.iload_n 3, (sv_N, (54, (0, []))))), (54, (.iaload, (sv_N, (55, (0, []))))), (55, (.goto 4, (sv_N, (58, (59, []))))), (58, (.iload_n 2, (sv_N, (59, (0, []))))), (59, (.istore_n 2, (sv_N, (60, (0, []))))), (60, (.iinc 3 1, (.inl (1 : Int32), (63, (0, []))))), (63, (.goto (-55), (sv_N, (66, (8, []))))), (66, (.aload_n 0, (sv_N, (67, (0, []))))), (67, (.getfield 7, (sv_N, (70, (0, []))))), (70, (.iconst 0, (.inl (0 : Int32), (71, (0, []))))), (71, (.iaload, (sv_N, (72, (0, []))))), (72, (.ifCond .eq 7, (sv_N, (75, (79, []))))), (75, (.iload_n 1, (sv_N, (76, (0, []))))), (76, (.ifCond .ne 7, (sv_N, (79, (83, []))))), (79, (.iconst (-1), (.inl (-1 : Int32), (80, (0, []))))), (80, (.goto 6, (sv_N, (83, (86, []))))), (83, (.iload_n 2, (sv_N, (84, (0, []))))), (84, (.iload_n 1, (sv_N, (85, (0, []))))), (85, (.isub, (sv_N, (86, (0, []))))), (86, (.ireturn, (sv_N, (87, (0, [])))))]
noncomputable def ev_Mo_spreadOf : sv_E := (fun i => sv_lk i fl_12, (fun i => sv_lk i kc_12, (fun _ => false, (true, fun pc => sv_lk pc []))))
noncomputable def kk_Mo_spreadOf_38 (k8 : Int32 → Int32 → Int32 → sv_S → Option (Int32 × sv_S)) : sv_K (Int32 × sv_S) := fun pc => sv_lk pc [(8, fun lo st σ => match lo, st with
    | [some (.inr (.inr (some (30, 0)))), some (.inl x1), some (.inl x2), some (.inl x3)], [] => k8 x1 x2 x3 σ
    | _, _ => none)]
set_option maxRecDepth 20000 in
theorem e_Mo_spreadOf_38 (k8 : Int32 → Int32 → Int32 → sv_S → Option (Int32 × sv_S)) (x2 : Int32) (x3 : Int32) (y0 : Int32) (z1 : Option sv_V) (σ : sv_S) : sv_ex ev_Mo_spreadOf sv_rI (kk_Mo_spreadOf_38 k8) cd_Mo_spreadOf 55 38 [some (.inr (.inr (some (30, 0)))), z1, some (.inl x2), some (.inl x3)] [.inl y0] σ = f_Mo_spreadOf_38 k8 x2 x3 y0 σ := by
  unfold f_Mo_spreadOf_38
  delta ev_Mo_spreadOf kk_Mo_spreadOf_38
  generalize f_Mo_spreadOf_8 = c0
  rfl
noncomputable def kk_Mo_spreadOf_8 (n : Nat) : sv_K (Int32 × sv_S) := fun pc => sv_lk pc [(38, fun lo st σ => match lo, st with
    | [some (.inr (.inr (some (30, 0)))), _, some (.inl x2), some (.inl x3)], [.inl y0] => f_Mo_spreadOf_38 (f_Mo_spreadOf_8 n) x2 x3 y0 σ
    | _, _ => none)]
set_option maxRecDepth 20000 in
theorem e_Mo_spreadOf_8 (n : Nat) (x1 : Int32) (x2 : Int32) (x3 : Int32) (σ : sv_S) : sv_ex ev_Mo_spreadOf sv_rI (kk_Mo_spreadOf_8 n) cd_Mo_spreadOf 55 8 [some (.inr (.inr (some (30, 0)))), some (.inl x1), some (.inl x2), some (.inl x3)] [] σ = f_Mo_spreadOf_8 (n + 1) x1 x2 x3 σ := by
  rw [f_Mo_spreadOf_8.eq_2]
  delta ev_Mo_spreadOf kk_Mo_spreadOf_8
  generalize f_Mo_spreadOf_38 = c0
  generalize f_Mo_spreadOf_8 = c1
  rfl
noncomputable def kk_Mo_spreadOf : sv_K (Int32 × sv_S) := fun pc => sv_lk pc [(8, fun lo st σ => match lo, st with
    | [some (.inr (.inr (some (30, 0)))), some (.inl x1), some (.inl x2), some (.inl x3)], [] => f_Mo_spreadOf_8 sv_fu x1 x2 x3 σ
    | _, _ => none)]
set_option maxRecDepth 20000 in
theorem e_Mo_spreadOf (σ : sv_S) : sv_ex ev_Mo_spreadOf sv_rI kk_Mo_spreadOf cd_Mo_spreadOf 55 0 [some (.inr (.inr (some (30, 0)))), none, none, none] [] σ = f_Mo_spreadOf σ := by
  unfold f_Mo_spreadOf
  delta ev_Mo_spreadOf kk_Mo_spreadOf
  generalize f_Mo_spreadOf_8 = c0
  rfl
theorem d_Mo_spreadOf : cd_Mo_spreadOf.all (sv_dk cX12_spreadOf) = true := by decide +kernel
set_option maxRecDepth 20000 in
theorem w_Mo_spreadOf_38 {Γ : sv_Ga} {res : Int32 × sv_S} (X : sv_Ok Γ ev_Mo_spreadOf cX12_spreadOf sv_rI res) (k8 : Int32 → Int32 → Int32 → sv_S → Option (Int32 × sv_S)) (h8 : ∀ (x1 : Int32) (x2 : Int32) (x3 : Int32) (σ : sv_S), k8 x1 x2 x3 σ = some res → sv_T Γ 8 [some (.inr (.inr (some (30, 0)))), some (.inl x1), some (.inl x2), some (.inl x3)] [] σ) : ∀ (x2 : Int32) (x3 : Int32) (y0 : Int32) (z1 : Option sv_V) (σ : sv_S), f_Mo_spreadOf_38 k8 x2 x3 y0 σ = some res → sv_T Γ 38 [some (.inr (.inr (some (30, 0)))), z1, some (.inl x2), some (.inl x3)] [.inl y0] σ := by
  intro x2 x3 y0 z1 σ h
  refine sv_run X d_Mo_spreadOf (K := kk_Mo_spreadOf_38 k8) (sv_lk_all (P := fun pc (k : sv_Lo → List sv_V → sv_S → Option (Int32 × sv_S)) => ∀ lo st σ, k lo st σ = some res → sv_T Γ pc lo st σ) ?_) _ _ _ _ _ ((e_Mo_spreadOf_38 k8 x2 x3 y0 z1 σ).trans h)
  clear h
  refine List.forall_mem_cons.mpr ⟨fun lo st σ h => ?_, fun _ h => absurd h List.not_mem_nil⟩
  · dsimp only at h
    split at h
    · exact h8 _ _ _ _ h
    · cases h

set_option maxRecDepth 20000 in
theorem w_Mo_spreadOf_8 {Γ : sv_Ga} {res : Int32 × sv_S} (X : sv_Ok Γ ev_Mo_spreadOf cX12_spreadOf sv_rI res) : ∀ (n : Nat) (x1 : Int32) (x2 : Int32) (x3 : Int32) (σ : sv_S), f_Mo_spreadOf_8 n x1 x2 x3 σ = some res → sv_T Γ 8 [some (.inr (.inr (some (30, 0)))), some (.inl x1), some (.inl x2), some (.inl x3)] [] σ := by
  intro n
  induction n with
  | zero =>
    intro x1 x2 x3 σ h
    rw [f_Mo_spreadOf_8.eq_1] at h
    cases h
  | succ n ih =>
    intro x1 x2 x3 σ h
    refine sv_run X d_Mo_spreadOf (K := kk_Mo_spreadOf_8 n) (sv_lk_all (P := fun pc (k : sv_Lo → List sv_V → sv_S → Option (Int32 × sv_S)) => ∀ lo st σ, k lo st σ = some res → sv_T Γ pc lo st σ) ?_) _ _ _ _ _ ((e_Mo_spreadOf_8 n x1 x2 x3 σ).trans h)
    clear h
    refine List.forall_mem_cons.mpr ⟨fun lo st σ h => ?_, fun _ h => absurd h List.not_mem_nil⟩
    · dsimp only at h
      split at h
      · exact w_Mo_spreadOf_38 X _ ih _ _ _ _ _ h
      · cases h

set_option maxRecDepth 20000 in
theorem b_Mo_spreadOf (Γ : sv_Ga) (res : Int32 × sv_S) (X : sv_Ok Γ ev_Mo_spreadOf cX12_spreadOf sv_rI res) (as : List sv_V) (σ : sv_S) (h : n_Mo_spreadOf as σ = some res) : sv_T Γ 0 (sv_e0 4 as) [] σ := by
  unfold n_Mo_spreadOf at h
  split at h
  · refine sv_run X d_Mo_spreadOf (K := kk_Mo_spreadOf) (sv_lk_all (P := fun pc (k : sv_Lo → List sv_V → sv_S → Option (Int32 × sv_S)) => ∀ lo st σ, k lo st σ = some res → sv_T Γ pc lo st σ) ?_) _ _ _ _ _ ((e_Mo_spreadOf _).trans h)
    clear h
    refine List.forall_mem_cons.mpr ⟨fun lo st σ h => ?_, fun _ h => absurd h List.not_mem_nil⟩
    · dsimp only at h
      split at h
      · exact w_Mo_spreadOf_8 X _ _ _ _ _ h
      · cases h
  · cases h
theorem a_Mo_spreadOf (as : List sv_V) (σ : sv_S) (x : Int32 × sv_S) (h : n_Mo_spreadOf as σ = some x) : sv_args 4 ev_Mo_spreadOf.2.2.2.1 as := by
  unfold n_Mo_spreadOf at h
  split at h
  · exact ⟨Nat.le_of_ble_eq_true rfl, fun _ v hv => by
      simp only [List.mem_cons, List.not_mem_nil, or_false] at hv
      rcases hv with rfl <;> trivial⟩
  · cases h
theorem g_Mo_spreadOf (as : List sv_V) (σ : sv_S) (x : Option sv_V × sv_S) (h : sv_gI n_Mo_spreadOf as σ = some x) : ∃ r i as', as = sv_R r i :: as' ∧ sv_kd r i = .inl 12 := by
  obtain ⟨_, _, h, -⟩ := sv_b_some h
  unfold n_Mo_spreadOf at h
  split at h
  · exact ⟨_, _, _, rfl, rfl⟩
  · cases h

set_option maxRecDepth 20000 in
theorem m_Mo_spreadOf (l : Launch) : sv_M l yX12_spreadOf cX12_spreadOf 4 (some .int) (sv_gI n_Mo_spreadOf) 0 := by
  refine sv_mI (E := ev_Mo_spreadOf) (by decide +kernel) (ln_gen fk_12 kk_12 (sv_ns _ (fun _ => rfl) _)) ?_ a_Mo_spreadOf b_Mo_spreadOf
  intro p e R s m args below meth c cells slots Q base ad dC dI cA n0 S hkn hR hf pc n f h
  refine sv_lk_all (P := fun pc (x : Nat × sv_F) => sv_cok p l e R s m args below meth c cells slots Q base ad dC dI cA true 4 n0 pc x.1 x.2) ?_ pc (n, f) h
  exact fun _ h => absurd h List.not_mem_nil
noncomputable def f_Mo_spread (a1 : Int32) (σ : sv_S) : Option (Int32 × sv_S) :=
  sv_b (f_Mo_isIn (a1.toInt64) (1 : Int64) (100 : Int64) σ) (fun v1 σ2 =>
    sv_if (v1 = 0)
      (some ((-1000000001 : Int32), σ2))
      (sv_b0 (f_Mo_laysBy σ2) (fun σ3 =>
        sv_b0 (f_Mo_layFirsts a1 σ3) (fun σ4 =>
          sv_b0 (f_Mo_laysBack σ4) (fun σ5 =>
            sv_b (f_Mo_spreadOf σ5) (fun v6 σ7 =>
              sv_b (f_Mo_orNone v6 σ7) (fun v8 σ9 =>
                some (v8, σ9))))))))
noncomputable def n_Mo_spread : List sv_V → sv_S → Option (Int32 × sv_S)
  | [.inr (.inr (some (30, 0))), .inl a1], σ => f_Mo_spread a1 σ
  | _, _ => none
def cd_Mo_spread : sv_C := [(0, (.iload_n 1, (sv_N, (1, (0, []))))), (1, (.i2l, (sv_N, (2, (0, []))))), (2, (.lconst 1, (.inr (.inl (1 : Int64)), (3, (0, []))))), (3, (.ldc2_w 139, (sv_N, (6, (0, []))))), (6, (.invokestatic 71, (sv_N, (9, (0, []))))), (9, (.ifCond .ne 6, (sv_N, (12, (15, []))))), (12, (.ldc 84, (sv_N, (14, (0, []))))), (14, (.ireturn, (sv_N, (15, (0, []))))), (15, (.aload_n 0, (sv_N, (16, (0, []))))), (16, (.invokevirtual 162, (sv_N, (19, (0, []))))), (19, (.aload_n 0, (sv_N, (20, (0, []))))), (20, (.iload_n 1, (sv_N, (21, (0, []))))), (21, (.invokevirtual 178, (sv_N, (24, (0, []))))), (24, (.aload_n 0, (sv_N, (25, (0, []))))), (25, (.invokevirtual 165, (sv_N, (28, (0, []))))), (28, (.aload_n 0, (sv_N, (29, (0, []))))), (29, (.invokevirtual 182, (sv_N, (32, (0, []))))), (32, (.invokestatic 171, (sv_N, (35, (0, []))))), (35, (.ireturn, (sv_N, (36, (0, [])))))]
noncomputable def ev_Mo_spread : sv_E := (fun i => sv_lk i fl_12, (fun i => sv_lk i kc_12, (fun _ => false, (true, fun pc => sv_lk pc [(6, (3, .inl n_Mo_isIn)), (16, (1, .inr (.inl n_Mo_laysBy))), (21, (2, .inr (.inl n_Mo_layFirsts))), (25, (1, .inr (.inl n_Mo_laysBack))), (29, (1, .inl n_Mo_spreadOf)), (32, (1, .inl n_Mo_orNone))]))))
noncomputable def kk_Mo_spread : sv_K (Int32 × sv_S) := fun pc => sv_lk pc []
set_option maxRecDepth 20000 in
theorem e_Mo_spread (a1 : Int32) (σ : sv_S) : sv_ex ev_Mo_spread sv_rI kk_Mo_spread cd_Mo_spread 21 0 [some (.inr (.inr (some (30, 0)))), some (.inl a1)] [] σ = f_Mo_spread a1 σ := by
  unfold f_Mo_spread
  delta ev_Mo_spread kk_Mo_spread n_Mo_isIn n_Mo_laysBy n_Mo_layFirsts n_Mo_laysBack n_Mo_spreadOf n_Mo_orNone
  generalize f_Mo_isIn = c0
  generalize f_Mo_laysBy = c1
  generalize f_Mo_layFirsts = c2
  generalize f_Mo_laysBack = c3
  generalize f_Mo_spreadOf = c4
  generalize f_Mo_orNone = c5
  rfl
theorem d_Mo_spread : cd_Mo_spread.all (sv_dk cX12_spread) = true := by decide +kernel
set_option maxRecDepth 20000 in
theorem b_Mo_spread (Γ : sv_Ga) (res : Int32 × sv_S) (X : sv_Ok Γ ev_Mo_spread cX12_spread sv_rI res) (as : List sv_V) (σ : sv_S) (h : n_Mo_spread as σ = some res) : sv_T Γ 0 (sv_e0 2 as) [] σ := by
  unfold n_Mo_spread at h
  split at h
  · refine sv_run X d_Mo_spread (K := kk_Mo_spread) (sv_lk_all (P := fun pc (k : sv_Lo → List sv_V → sv_S → Option (Int32 × sv_S)) => ∀ lo st σ, k lo st σ = some res → sv_T Γ pc lo st σ) ?_) _ _ _ _ _ ((e_Mo_spread _ _).trans h)
    clear h
    exact fun _ h => absurd h List.not_mem_nil
  · cases h
theorem a_Mo_spread (as : List sv_V) (σ : sv_S) (x : Int32 × sv_S) (h : n_Mo_spread as σ = some x) : sv_args 2 ev_Mo_spread.2.2.2.1 as := by
  unfold n_Mo_spread at h
  split at h
  · exact ⟨Nat.le_of_ble_eq_true rfl, fun _ v hv => by
      simp only [List.mem_cons, List.not_mem_nil, or_false] at hv
      rcases hv with rfl | rfl <;> trivial⟩
  · cases h
theorem g_Mo_spread (as : List sv_V) (σ : sv_S) (x : Option sv_V × sv_S) (h : sv_gI n_Mo_spread as σ = some x) : ∃ r i as', as = sv_R r i :: as' ∧ sv_kd r i = .inl 12 := by
  obtain ⟨_, _, h, -⟩ := sv_b_some h
  unfold n_Mo_spread at h
  split at h
  · exact ⟨_, _, _, rfl, rfl⟩
  · cases h
theorem tw_29 : Cond.selects RX12 yX12_layFirsts yX12_layFirsts ∈ gw_tbl := gw_at 29 (by decide +kernel) rfl
theorem tw_30 : Cond.selects RX12 yX12_spreadOf yX12_spreadOf ∈ gw_tbl := gw_at 30 (by decide +kernel) rfl
theorem tw_1271 : Cond.methodLink RX12 178 yX12_layFirsts ∈ gw_tbl := gw_at 1271 (by decide +kernel) rfl
theorem tw_1273 : Cond.instanceMethod yX12_layFirsts ∈ gw_tbl := gw_at 1273 (by decide +kernel) rfl
theorem tw_1274 : Cond.code yX12_layFirsts cX12_layFirsts 5 none ∈ gw_tbl := gw_at 1274 (by decide +kernel) rfl
theorem tw_1275 : Cond.methodLink RX12 182 yX12_spreadOf ∈ gw_tbl := gw_at 1275 (by decide +kernel) rfl
theorem tw_1277 : Cond.instanceMethod yX12_spreadOf ∈ gw_tbl := gw_at 1277 (by decide +kernel) rfl
theorem tw_1278 : Cond.code yX12_spreadOf cX12_spreadOf 4 (some .int) ∈ gw_tbl := gw_at 1278 (by decide +kernel) rfl
set_option maxRecDepth 20000 in
theorem m_Mo_spread (l : Launch) : sv_M l yX12_spread cX12_spread 2 (some .int) (sv_gI n_Mo_spread) 6 := by
  refine sv_mI (E := ev_Mo_spread) (by decide +kernel) (ln_gen fk_12 kk_12 (sv_ns _ (fun _ => rfl) _)) ?_ a_Mo_spread b_Mo_spread
  intro p e R s m args below meth c cells slots Q base ad dC dI cA n0 S hkn hR hf pc n f h
  refine sv_lk_all (P := fun pc (x : Nat × sv_F) => sv_cok p l e R s m args below meth c cells slots Q base ad dC dI cA true 2 n0 pc x.1 x.2) ?_ pc (n, f) h
  exact List.forall_mem_cons.mpr ⟨(sv_cS S hkn (m_Mo_isIn l) ⟨Nat.le_trans (by decide) hR.1, Nat.le_trans (by decide) hR.2⟩ (by decide) hf (sv_w4 tw_1098 tw_1099 tw_65 tw_1100) (by decide +kernel) (sv_dc3 d_Mo_spread (pc := 6) rfl rfl)).I,
      List.forall_mem_cons.mpr ⟨(sv_cV S hkn (m_Mo_laysBy l) ⟨Nat.le_trans (by decide) hR.1, Nat.le_trans (by decide) hR.2⟩ (by decide) hf rfl g_Mo_laysBy (sv_w5 tw_1244 tw_1246 tw_26 tw_65 tw_1247) (by decide +kernel) (sv_dc3 d_Mo_spread (pc := 16) rfl rfl)).V,
      List.forall_mem_cons.mpr ⟨(sv_cV S hkn (m_Mo_layFirsts l) ⟨Nat.le_trans (by decide) hR.1, Nat.le_trans (by decide) hR.2⟩ (by decide) hf rfl g_Mo_layFirsts (sv_w5 tw_1271 tw_1273 tw_29 tw_65 tw_1274) (by decide +kernel) (sv_dc3 d_Mo_spread (pc := 21) rfl rfl)).V,
      List.forall_mem_cons.mpr ⟨(sv_cV S hkn (m_Mo_laysBack l) ⟨Nat.le_trans (by decide) hR.1, Nat.le_trans (by decide) hR.2⟩ (by decide) hf rfl g_Mo_laysBack (sv_w5 tw_1248 tw_1250 tw_27 tw_65 tw_1251) (by decide +kernel) (sv_dc3 d_Mo_spread (pc := 25) rfl rfl)).V,
      List.forall_mem_cons.mpr ⟨(sv_cV S hkn (m_Mo_spreadOf l) ⟨Nat.le_trans (by decide) hR.1, Nat.le_trans (by decide) hR.2⟩ (by decide) hf rfl g_Mo_spreadOf (sv_w5 tw_1275 tw_1277 tw_30 tw_65 tw_1278) (by decide +kernel) (sv_dc3 d_Mo_spread (pc := 29) rfl rfl)).I,
      List.forall_mem_cons.mpr ⟨(sv_cS S hkn (m_Mo_orNone l) ⟨Nat.le_trans (by decide) hR.1, Nat.le_trans (by decide) hR.2⟩ (by decide) hf (sv_w4 tw_1260 tw_1261 tw_65 tw_1262) (by decide +kernel) (sv_dc3 d_Mo_spread (pc := 32) rfl rfl)).I,
      fun _ h => absurd h List.not_mem_nil⟩⟩⟩⟩⟩⟩
noncomputable def f_Mo_toWhom_84 (k26 : Int32 → Int32 → Int32 → Int32 → sv_S → Option (Int32 × sv_S)) (x1 : Int32) (x4 : Int32) (x6 : Int32) (σ : sv_S) : Option (Int32 × sv_S) :=
    k26 x1 x4 x6 (x4 + (1 : Int32)) σ
noncomputable def f_Mo_toWhom_26 : Nat → Int32 → Int32 → Int32 → Int32 → sv_S → Option (Int32 × sv_S)
  | 0, _, _, _, _, _ => none
  | n + 1, x1, x2, x3, x4, σ =>
    sv_g (sv_in (0 : Int32) 3086) (sv_if ((σ 31 0 ((0 : Int32).toNatClampNeg)) ≤ x4)
      (sv_b (f_Mo_orNone x2 σ) (fun v1 σ2 =>
        some (v1, σ2)))
      (sv_b (f_Mo_mayOrder x4 σ) (fun v3 σ4 =>
        sv_if (v3 = 0)
          (f_Mo_toWhom_26 n x1 x2 x3 (x4 + (1 : Int32)) σ4)
          (sv_b (f_Mo_orders x4 σ4) (fun v5 σ6 =>
            sv_b0 (f_Mo_layFirsts x1 σ6) (fun σ7 =>
              sv_b0 (f_Mo_laysBack σ7) (fun σ8 =>
                sv_b (f_Mo_spreadOf σ8) (fun v9 σ10 =>
                  sv_if (v9 < 0)
                    (f_Mo_toWhom_26 n x1 x2 x3 (x4 + (1 : Int32)) σ10)
                    (sv_if (x2 < 0)
                      (f_Mo_toWhom_84 (f_Mo_toWhom_26 n) x1 x4 v9 σ10)
                      (sv_if (x3 ≤ v9)
                        (f_Mo_toWhom_26 n x1 x2 x3 (x4 + (1 : Int32)) σ10)
                        (f_Mo_toWhom_84 (f_Mo_toWhom_26 n) x1 x4 v9 σ10)))))))))))
noncomputable def f_Mo_toWhom (a1 : Int32) (σ : sv_S) : Option (Int32 × sv_S) :=
  sv_b (f_Mo_isIn (a1.toInt64) (1 : Int64) (60 : Int64) σ) (fun v1 σ2 =>
    sv_if (v1 = 0)
      (some ((-1000000001 : Int32), σ2))
      (sv_b0 (f_Mo_laysBy σ2) (fun σ3 =>
        f_Mo_toWhom_26 sv_fu a1 (-1 : Int32) (0 : Int32) (0 : Int32) σ3)))
noncomputable def n_Mo_toWhom : List sv_V → sv_S → Option (Int32 × sv_S)
  | [.inr (.inr (some (30, 0))), .inl a1], σ => f_Mo_toWhom a1 σ
  | _, _ => none
def cd_Mo_toWhom : sv_C := [(0, (.iload_n 1, (sv_N, (1, (0, []))))), (1, (.i2l, (sv_N, (2, (0, []))))), (2, (.lconst 1, (.inr (.inl (1 : Int64)), (3, (0, []))))), (3, (.ldc2_w 185, (sv_N, (6, (0, []))))), (6, (.invokestatic 71, (sv_N, (9, (0, []))))), (9, (.ifCond .ne 6, (sv_N, (12, (15, []))))), (12, (.ldc 84, (sv_N, (14, (0, []))))), (14, (.ireturn, (sv_N, (15, (0, []))))), (15, (.aload_n 0, (sv_N, (16, (0, []))))), (16, (.invokevirtual 162, (sv_N, (19, (0, []))))), (19, (.iconst (-1), (.inl (-1 : Int32), (20, (0, []))))), (20, (.istore_n 2, (sv_N, (21, (0, []))))), (21, (.iconst 0, (.inl (0 : Int32), (22, (0, []))))), (22, (.istore_n 3, (sv_N, (23, (0, []))))), (23, (.iconst 0, (.inl (0 : Int32), (24, (0, []))))), (24, (.istore 4, (sv_N, (26, (0, []))))), (26, (.iload 4, (sv_N, (28, (0, []))))), (28, (.aload_n 0, (sv_N, (29, (0, []))))), (29, (.getfield 7, (sv_N, (32, (0, []))))), (32, (.iconst 0, (.inl (0 : Int32), (33, (0, []))))), (33, (.iaload, (sv_N, (34, (0, []))))), (34, (.if_icmp .ge 62, (sv_N, (37, (96, []))))), (37, (.aload_n 0, (sv_N, (38, (0, []))))), (38, (.iload 4, (sv_N, (40, (0, []))))), (40, (.invokevirtual 147, (sv_N, (43, (0, []))))), (43, (.ifCond .eq 47, (sv_N, (46, (90, []))))), (46, (.aload_n 0, (sv_N, (47, (0, []))))), (47, (.iload 4, (sv_N, (49, (0, []))))), (49, (.invokevirtual 150, (sv_N, (52, (0, []))))), (52, (.istore 5, (sv_N, (54, (0, []))))), (54, (.aload_n 0, (sv_N, (55, (0, []))))), (55, (.iload_n 1, (sv_N, (56, (0, []))))), (56, (.invokevirtual 178, (sv_N, (59, (0, []))))), (59, (.aload_n 0, (sv_N, (60, (0, []))))), (60, (.invokevirtual 165, (sv_N, (63, (0, []))))), (63, (.aload_n 0, (sv_N, (64, (0, []))))), (64, (.invokevirtual 182, (sv_N, (67, (0, []))))), (67, (.istore 6, (sv_N, (69, (0, []))))), (69, (.iload 6, (sv_N, (71, (0, []))))), (71, (.ifCond .lt 19, (sv_N, (74, (90, []))))), (74, (.iload_n 2, (sv_N, (75, (0, []))))), (75, (.ifCond .lt 9, (sv_N, (78, (84, []))))), (78, (.iload 6, (sv_N, (80, (0, []))))), (80, (.iload_n 3, (sv_N, (81, (0, []))))), (81, (.if_icmp .ge 9, (sv_N, (84, (90, []))))), (84, (.iload 4, (sv_N, (86, (0, []))))), (86, (.istore_n 2, (sv_N, (87, (0, []))))), (87, (.iload 6, (sv_N, (89, (0, []))))), (89, (.istore_n 3, (sv_N, (90, (0, []))))), (90, (.iinc 4 1, (.inl (1 : Int32), (93, (0, []))))), (93, (.goto (-67), (sv_N, (96, (26, []))))), (96, (.iload_n 2, (sv_N, (97, (0, []))))), (97, (.invokestatic 171, (sv_N, (100, (0, []))))), (100, (.ireturn, (sv_N, (101, (0, [])))))]
noncomputable def ev_Mo_toWhom : sv_E := (fun i => sv_lk i fl_12, (fun i => sv_lk i kc_12, (fun _ => false, (true, fun pc => sv_lk pc [(6, (3, .inl n_Mo_isIn)), (16, (1, .inr (.inl n_Mo_laysBy))), (40, (2, .inl n_Mo_mayOrder)), (49, (2, .inl n_Mo_orders)), (56, (2, .inr (.inl n_Mo_layFirsts))), (60, (1, .inr (.inl n_Mo_laysBack))), (64, (1, .inl n_Mo_spreadOf)), (97, (1, .inl n_Mo_orNone))]))))
noncomputable def kk_Mo_toWhom_84 (k26 : Int32 → Int32 → Int32 → Int32 → sv_S → Option (Int32 × sv_S)) : sv_K (Int32 × sv_S) := fun pc => sv_lk pc [(26, fun lo st σ => match lo, st with
    | [some (.inr (.inr (some (30, 0)))), some (.inl x1), some (.inl x2), some (.inl x3), some (.inl x4), _, _], [] => k26 x1 x2 x3 x4 σ
    | _, _ => none)]
set_option maxRecDepth 20000 in
theorem e_Mo_toWhom_84 (k26 : Int32 → Int32 → Int32 → Int32 → sv_S → Option (Int32 × sv_S)) (x1 : Int32) (x4 : Int32) (x6 : Int32) (z2 z3 z5 : Option sv_V) (σ : sv_S) : sv_ex ev_Mo_toWhom sv_rI (kk_Mo_toWhom_84 k26) cd_Mo_toWhom 56 84 [some (.inr (.inr (some (30, 0)))), some (.inl x1), z2, z3, some (.inl x4), z5, some (.inl x6)] [] σ = f_Mo_toWhom_84 k26 x1 x4 x6 σ := by
  unfold f_Mo_toWhom_84
  delta ev_Mo_toWhom kk_Mo_toWhom_84 n_Mo_isIn n_Mo_laysBy n_Mo_mayOrder n_Mo_orders n_Mo_layFirsts n_Mo_laysBack n_Mo_spreadOf n_Mo_orNone
  generalize f_Mo_isIn = c0
  generalize f_Mo_laysBy = c1
  generalize f_Mo_mayOrder = c2
  generalize f_Mo_orders = c3
  generalize f_Mo_layFirsts = c4
  generalize f_Mo_laysBack = c5
  generalize f_Mo_spreadOf = c6
  generalize f_Mo_orNone = c7
  generalize f_Mo_toWhom_26 = c8
  rfl
noncomputable def kk_Mo_toWhom_26 (n : Nat) : sv_K (Int32 × sv_S) := fun pc => sv_lk pc [(26, fun lo st σ => match lo, st with
    | [some (.inr (.inr (some (30, 0)))), some (.inl x1), some (.inl x2), some (.inl x3), some (.inl x4), _, _], [] => f_Mo_toWhom_26 n x1 x2 x3 x4 σ
    | _, _ => none),
  (84, fun lo st σ => match lo, st with
    | [some (.inr (.inr (some (30, 0)))), some (.inl x1), _, _, some (.inl x4), _, some (.inl x6)], [] => f_Mo_toWhom_84 (f_Mo_toWhom_26 n) x1 x4 x6 σ
    | _, _ => none)]
set_option maxRecDepth 20000 in
theorem e_Mo_toWhom_26 (n : Nat) (x1 : Int32) (x2 : Int32) (x3 : Int32) (x4 : Int32) (z5 z6 : Option sv_V) (σ : sv_S) : sv_ex ev_Mo_toWhom sv_rI (kk_Mo_toWhom_26 n) cd_Mo_toWhom 56 26 [some (.inr (.inr (some (30, 0)))), some (.inl x1), some (.inl x2), some (.inl x3), some (.inl x4), z5, z6] [] σ = f_Mo_toWhom_26 (n + 1) x1 x2 x3 x4 σ := by
  rw [f_Mo_toWhom_26.eq_2]
  delta ev_Mo_toWhom kk_Mo_toWhom_26 n_Mo_isIn n_Mo_laysBy n_Mo_mayOrder n_Mo_orders n_Mo_layFirsts n_Mo_laysBack n_Mo_spreadOf n_Mo_orNone
  generalize f_Mo_isIn = c0
  generalize f_Mo_laysBy = c1
  generalize f_Mo_mayOrder = c2
  generalize f_Mo_orders = c3
  generalize f_Mo_layFirsts = c4
  generalize f_Mo_laysBack = c5
  generalize f_Mo_spreadOf = c6
  generalize f_Mo_orNone = c7
  generalize f_Mo_toWhom_26 = c8
  generalize f_Mo_toWhom_84 = c9
  rfl
noncomputable def kk_Mo_toWhom : sv_K (Int32 × sv_S) := fun pc => sv_lk pc [(26, fun lo st σ => match lo, st with
    | [some (.inr (.inr (some (30, 0)))), some (.inl x1), some (.inl x2), some (.inl x3), some (.inl x4), _, _], [] => f_Mo_toWhom_26 sv_fu x1 x2 x3 x4 σ
    | _, _ => none)]
set_option maxRecDepth 20000 in
theorem e_Mo_toWhom (a1 : Int32) (σ : sv_S) : sv_ex ev_Mo_toWhom sv_rI kk_Mo_toWhom cd_Mo_toWhom 56 0 [some (.inr (.inr (some (30, 0)))), some (.inl a1), none, none, none, none, none] [] σ = f_Mo_toWhom a1 σ := by
  unfold f_Mo_toWhom
  delta ev_Mo_toWhom kk_Mo_toWhom n_Mo_isIn n_Mo_laysBy n_Mo_mayOrder n_Mo_orders n_Mo_layFirsts n_Mo_laysBack n_Mo_spreadOf n_Mo_orNone
  generalize f_Mo_isIn = c0
  generalize f_Mo_laysBy = c1
  generalize f_Mo_mayOrder = c2
  generalize f_Mo_orders = c3
  generalize f_Mo_layFirsts = c4
  generalize f_Mo_laysBack = c5
  generalize f_Mo_spreadOf = c6
  generalize f_Mo_orNone = c7
  generalize f_Mo_toWhom_26 = c8
  rfl
theorem d_Mo_toWhom : cd_Mo_toWhom.all (sv_dk cX12_toWhom) = true := by decide +kernel
set_option maxRecDepth 20000 in
theorem w_Mo_toWhom_84 {Γ : sv_Ga} {res : Int32 × sv_S} (X : sv_Ok Γ ev_Mo_toWhom cX12_toWhom sv_rI res) (k26 : Int32 → Int32 → Int32 → Int32 → sv_S → Option (Int32 × sv_S)) (h26 : ∀ (x1 : Int32) (x2 : Int32) (x3 : Int32) (x4 : Int32) (z5 z6 : Option sv_V) (σ : sv_S), k26 x1 x2 x3 x4 σ = some res → sv_T Γ 26 [some (.inr (.inr (some (30, 0)))), some (.inl x1), some (.inl x2), some (.inl x3), some (.inl x4), z5, z6] [] σ) : ∀ (x1 : Int32) (x4 : Int32) (x6 : Int32) (z2 z3 z5 : Option sv_V) (σ : sv_S), f_Mo_toWhom_84 k26 x1 x4 x6 σ = some res → sv_T Γ 84 [some (.inr (.inr (some (30, 0)))), some (.inl x1), z2, z3, some (.inl x4), z5, some (.inl x6)] [] σ := by
  intro x1 x4 x6 z2 z3 z5 σ h
  refine sv_run X d_Mo_toWhom (K := kk_Mo_toWhom_84 k26) (sv_lk_all (P := fun pc (k : sv_Lo → List sv_V → sv_S → Option (Int32 × sv_S)) => ∀ lo st σ, k lo st σ = some res → sv_T Γ pc lo st σ) ?_) _ _ _ _ _ ((e_Mo_toWhom_84 k26 x1 x4 x6 z2 z3 z5 σ).trans h)
  clear h
  refine List.forall_mem_cons.mpr ⟨fun lo st σ h => ?_, fun _ h => absurd h List.not_mem_nil⟩
  · dsimp only at h
    split at h
    · exact h26 _ _ _ _ _ _ _ h
    · cases h

set_option maxRecDepth 20000 in
theorem w_Mo_toWhom_26 {Γ : sv_Ga} {res : Int32 × sv_S} (X : sv_Ok Γ ev_Mo_toWhom cX12_toWhom sv_rI res) : ∀ (n : Nat) (x1 : Int32) (x2 : Int32) (x3 : Int32) (x4 : Int32) (z5 z6 : Option sv_V) (σ : sv_S), f_Mo_toWhom_26 n x1 x2 x3 x4 σ = some res → sv_T Γ 26 [some (.inr (.inr (some (30, 0)))), some (.inl x1), some (.inl x2), some (.inl x3), some (.inl x4), z5, z6] [] σ := by
  intro n
  induction n with
  | zero =>
    intro x1 x2 x3 x4 z5 z6 σ h
    rw [f_Mo_toWhom_26.eq_1] at h
    cases h
  | succ n ih =>
    intro x1 x2 x3 x4 z5 z6 σ h
    refine sv_run X d_Mo_toWhom (K := kk_Mo_toWhom_26 n) (sv_lk_all (P := fun pc (k : sv_Lo → List sv_V → sv_S → Option (Int32 × sv_S)) => ∀ lo st σ, k lo st σ = some res → sv_T Γ pc lo st σ) ?_) _ _ _ _ _ ((e_Mo_toWhom_26 n x1 x2 x3 x4 z5 z6 σ).trans h)
    clear h
    refine List.forall_mem_cons.mpr ⟨fun lo st σ h => ?_, List.forall_mem_cons.mpr ⟨fun lo st σ h => ?_, fun _ h => absurd h List.not_mem_nil⟩⟩
    · dsimp only at h
      split at h
      · exact ih _ _ _ _ _ _ _ h
      · cases h
    · dsimp only at h
      split at h
      · exact w_Mo_toWhom_84 X _ ih _ _ _ _ _ _ _ h
      · cases h

set_option maxRecDepth 20000 in
theorem b_Mo_toWhom (Γ : sv_Ga) (res : Int32 × sv_S) (X : sv_Ok Γ ev_Mo_toWhom cX12_toWhom sv_rI res) (as : List sv_V) (σ : sv_S) (h : n_Mo_toWhom as σ = some res) : sv_T Γ 0 (sv_e0 7 as) [] σ := by
  unfold n_Mo_toWhom at h
  split at h
  · refine sv_run X d_Mo_toWhom (K := kk_Mo_toWhom) (sv_lk_all (P := fun pc (k : sv_Lo → List sv_V → sv_S → Option (Int32 × sv_S)) => ∀ lo st σ, k lo st σ = some res → sv_T Γ pc lo st σ) ?_) _ _ _ _ _ ((e_Mo_toWhom _ _).trans h)
    clear h
    refine List.forall_mem_cons.mpr ⟨fun lo st σ h => ?_, fun _ h => absurd h List.not_mem_nil⟩
    · dsimp only at h
      split at h
      · exact w_Mo_toWhom_26 X _ _ _ _ _ _ _ _ h
      · cases h
  · cases h
theorem a_Mo_toWhom (as : List sv_V) (σ : sv_S) (x : Int32 × sv_S) (h : n_Mo_toWhom as σ = some x) : sv_args 7 ev_Mo_toWhom.2.2.2.1 as := by
  unfold n_Mo_toWhom at h
  split at h
  · exact ⟨Nat.le_of_ble_eq_true rfl, fun _ v hv => by
      simp only [List.mem_cons, List.not_mem_nil, or_false] at hv
      rcases hv with rfl | rfl <;> trivial⟩
  · cases h
theorem g_Mo_toWhom (as : List sv_V) (σ : sv_S) (x : Option sv_V × sv_S) (h : sv_gI n_Mo_toWhom as σ = some x) : ∃ r i as', as = sv_R r i :: as' ∧ sv_kd r i = .inl 12 := by
  obtain ⟨_, _, h, -⟩ := sv_b_some h
  unfold n_Mo_toWhom at h
  split at h
  · exact ⟨_, _, _, rfl, rfl⟩
  · cases h

set_option maxRecDepth 20000 in
theorem m_Mo_toWhom (l : Launch) : sv_M l yX12_toWhom cX12_toWhom 7 (some .int) (sv_gI n_Mo_toWhom) 6 := by
  refine sv_mI (E := ev_Mo_toWhom) (by decide +kernel) (ln_gen fk_12 kk_12 (sv_ns _ (fun _ => rfl) _)) ?_ a_Mo_toWhom b_Mo_toWhom
  intro p e R s m args below meth c cells slots Q base ad dC dI cA n0 S hkn hR hf pc n f h
  refine sv_lk_all (P := fun pc (x : Nat × sv_F) => sv_cok p l e R s m args below meth c cells slots Q base ad dC dI cA true 7 n0 pc x.1 x.2) ?_ pc (n, f) h
  exact List.forall_mem_cons.mpr ⟨(sv_cS S hkn (m_Mo_isIn l) ⟨Nat.le_trans (by decide) hR.1, Nat.le_trans (by decide) hR.2⟩ (by decide) hf (sv_w4 tw_1098 tw_1099 tw_65 tw_1100) (by decide +kernel) (sv_dc3 d_Mo_toWhom (pc := 6) rfl rfl)).I,
      List.forall_mem_cons.mpr ⟨(sv_cV S hkn (m_Mo_laysBy l) ⟨Nat.le_trans (by decide) hR.1, Nat.le_trans (by decide) hR.2⟩ (by decide) hf rfl g_Mo_laysBy (sv_w5 tw_1244 tw_1246 tw_26 tw_65 tw_1247) (by decide +kernel) (sv_dc3 d_Mo_toWhom (pc := 16) rfl rfl)).V,
      List.forall_mem_cons.mpr ⟨(sv_cV S hkn (m_Mo_mayOrder l) ⟨Nat.le_trans (by decide) hR.1, Nat.le_trans (by decide) hR.2⟩ (by decide) hf rfl g_Mo_mayOrder (sv_w5 tw_1215 tw_1217 tw_23 tw_65 tw_1218) (by decide +kernel) (sv_dc3 d_Mo_toWhom (pc := 40) rfl rfl)).I,
      List.forall_mem_cons.mpr ⟨(sv_cV S hkn (m_Mo_orders l) ⟨Nat.le_trans (by decide) hR.1, Nat.le_trans (by decide) hR.2⟩ (by decide) hf rfl g_Mo_orders (sv_w5 tw_1219 tw_1221 tw_24 tw_65 tw_1222) (by decide +kernel) (sv_dc3 d_Mo_toWhom (pc := 49) rfl rfl)).I,
      List.forall_mem_cons.mpr ⟨(sv_cV S hkn (m_Mo_layFirsts l) ⟨Nat.le_trans (by decide) hR.1, Nat.le_trans (by decide) hR.2⟩ (by decide) hf rfl g_Mo_layFirsts (sv_w5 tw_1271 tw_1273 tw_29 tw_65 tw_1274) (by decide +kernel) (sv_dc3 d_Mo_toWhom (pc := 56) rfl rfl)).V,
      List.forall_mem_cons.mpr ⟨(sv_cV S hkn (m_Mo_laysBack l) ⟨Nat.le_trans (by decide) hR.1, Nat.le_trans (by decide) hR.2⟩ (by decide) hf rfl g_Mo_laysBack (sv_w5 tw_1248 tw_1250 tw_27 tw_65 tw_1251) (by decide +kernel) (sv_dc3 d_Mo_toWhom (pc := 60) rfl rfl)).V,
      List.forall_mem_cons.mpr ⟨(sv_cV S hkn (m_Mo_spreadOf l) ⟨Nat.le_trans (by decide) hR.1, Nat.le_trans (by decide) hR.2⟩ (by decide) hf rfl g_Mo_spreadOf (sv_w5 tw_1275 tw_1277 tw_30 tw_65 tw_1278) (by decide +kernel) (sv_dc3 d_Mo_toWhom (pc := 64) rfl rfl)).I,
      List.forall_mem_cons.mpr ⟨(sv_cS S hkn (m_Mo_orNone l) ⟨Nat.le_trans (by decide) hR.1, Nat.le_trans (by decide) hR.2⟩ (by decide) hf (sv_w4 tw_1260 tw_1261 tw_65 tw_1262) (by decide +kernel) (sv_dc3 d_Mo_toWhom (pc := 97) rfl rfl)).I,
      fun _ h => absurd h List.not_mem_nil⟩⟩⟩⟩⟩⟩⟩⟩
noncomputable def f_Mo_mend_68 (k54 : Int32 → Int32 → Int32 → Int32 → Int32 → Int32 → sv_S → Option (Int32 × sv_S)) : Nat → Int32 → Int32 → Int32 → Int32 → Int32 → Int32 → Int32 → sv_S → Option (Int32 × sv_S)
  | 0, _, _, _, _, _, _, _, _ => none
  | n + 1, x1, x2, x3, x4, x5, x6, x7, σ =>
    sv_if ((9 : Int32) < x7)
      (k54 x1 x2 x3 x4 x5 (x6 + (1 : Int32)) σ)
      (sv_b0 (f_Mo_sets x6 (1 : Int32) x7 σ) (fun σ1 =>
        sv_b0 (f_Mo_layFirsts x1 σ1) (fun σ2 =>
          sv_b0 (f_Mo_laysBack σ2) (fun σ3 =>
            sv_if ((σ3 30 0 15) ≤ x3)
              (f_Mo_mend_68 k54 n x1 x2 x3 x4 x5 x6 (x7 + (1 : Int32)) σ3)
              (f_Mo_mend_68 k54 n x1 x2 (σ3 30 0 15) x6 x7 x6 (x7 + (1 : Int32)) σ3)))))
noncomputable def f_Mo_mend_54 : Nat → Int32 → Int32 → Int32 → Int32 → Int32 → Int32 → sv_S → Option (Int32 × sv_S)
  | 0, _, _, _, _, _, _, _ => none
  | n + 1, x1, x2, x3, x4, x5, x6, σ =>
    sv_g (sv_in (0 : Int32) 3086) (sv_if ((σ 31 0 ((0 : Int32).toNatClampNeg)) ≤ x6)
      (sv_if (0 ≤ x4)
        (sv_if (x2 = 0)
          (some (x4, σ))
          (sv_if (x2 = (1 : Int32))
            (some (x5, σ))
            (some (x3, σ))))
        (some ((-1000000005 : Int32), σ)))
      (f_Mo_mend_68 (f_Mo_mend_54 n) sv_fu x1 x2 x3 x4 x5 x6 (1 : Int32) σ))
noncomputable def f_Mo_mend (a1 : Int32) (a2 : Int32) (σ : sv_S) : Option (Int32 × sv_S) :=
  sv_b (f_Mo_isIn (a1.toInt64) (1 : Int64) (40 : Int64) σ) (fun v1 σ2 =>
    sv_if (v1 = 0)
      (some ((-1000000001 : Int32), σ2))
      (sv_b (f_Mo_isIn (a2.toInt64) (0 : Int64) (2 : Int64) σ2) (fun v3 σ4 =>
        sv_if (v3 = 0)
          (some ((-1000000001 : Int32), σ4))
          (sv_b0 (f_Mo_laysBy σ4) (fun σ5 =>
            sv_b0 (f_Mo_layFirsts a1 σ5) (fun σ6 =>
              sv_b0 (f_Mo_laysBack σ6) (fun σ7 =>
                f_Mo_mend_54 sv_fu a1 a2 (σ7 30 0 15) (-1 : Int32) (0 : Int32) (0 : Int32) σ7)))))))
noncomputable def n_Mo_mend : List sv_V → sv_S → Option (Int32 × sv_S)
  | [.inr (.inr (some (30, 0))), .inl a1, .inl a2], σ => f_Mo_mend a1 a2 σ
  | _, _ => none
def cd_Mo_mend : sv_C := [(0, (.iload_n 1, (sv_N, (1, (0, []))))), (1, (.i2l, (sv_N, (2, (0, []))))), (2, (.lconst 1, (.inr (.inl (1 : Int64)), (3, (0, []))))), (3, (.ldc2_w 187, (sv_N, (6, (0, []))))), (6, (.invokestatic 71, (sv_N, (9, (0, []))))), (9, (.ifCond .eq 15, (sv_N, (12, (24, []))))), (12, (.iload_n 2, (sv_N, (13, (0, []))))), (13, (.i2l, (sv_N, (14, (0, []))))), (14, (.lconst 0, (.inr (.inl (0 : Int64)), (15, (0, []))))), (15, (.ldc2_w 160, (sv_N, (18, (0, []))))), (18, (.invokestatic 71, (sv_N, (21, (0, []))))), (21, (.ifCond .ne 6, (sv_N, (24, (27, []))))), (24, (.ldc 84, (sv_N, (26, (0, []))))), (26, (.ireturn, (sv_N, (27, (0, []))))), (27, (.aload_n 0, (sv_N, (28, (0, []))))), (28, (.invokevirtual 162, (sv_N, (31, (0, []))))), (31, (.aload_n 0, (sv_N, (32, (0, []))))), (32, (.iload_n 1, (sv_N, (33, (0, []))))), (33, (.invokevirtual 178, (sv_N, (36, (0, []))))), (36, (.aload_n 0, (sv_N, (37, (0, []))))), (37, (.invokevirtual 165, (sv_N, (40, (0, []))))), (40, (.aload_n 0, (sv_N, (41, (0, []))))), (41, (.getfield 174, (sv_N, (44, (0, []))))), (44, (.istore_n 3, (sv_N, (45, (0, []))))), (45, (.iconst (-1), (.inl (-1 : Int32), (46, (0, []))))), (46, (.istore 4, (sv_N, (48, (0, []))))), (48, (.iconst 0, (.inl (0 : Int32), (49, (0, []))))), (49, (.istore 5, (sv_N, (51, (0, []))))), (51, (.iconst 0, (.inl (0 : Int32), (52, (0, []))))), (52, (.istore 6, (sv_N, (54, (0, []))))), (54, (.iload 6, (sv_N, (56, (0, []))))), (56, (.aload_n 0, (sv_N, (57, (0, []))))), (57, (.getfield 7, (sv_N, (60, (0, []))))), (60, (.iconst 0, (.inl (0 : Int32), (61, (0, []))))), (61, (.iaload, (sv_N, (62, (0, []))))), (62, (.if_icmp .ge 64, (sv_N, (65, (126, []))))), (65, (.iconst 1, (.inl (1 : Int32), (66, (0, []))))), (66, (.istore 7, (sv_N, (68, (0, []))))), (68, (.iload 7, (sv_N, (70, (0, []))))), (70, (.bipush 9, (.inl (9 : Int32), (72, (0, []))))), (72, (.if_icmp .gt 48, (sv_N, (75, (120, []))))), (75, (.aload_n 0, (sv_N, (76, (0, []))))), (76, (.iload 6, (sv_N, (78, (0, []))))), (78, (.iconst 1, (.inl (1 : Int32), (79, (0, []))))), (79, (.iload 7, (sv_N, (81, (0, []))))), (81, (.invokevirtual 76, (sv_N, (84, (0, []))))), (84, (.aload_n 0, (sv_N, (85, (0, []))))), (85, (.iload_n 1, (sv_N, (86, (0, []))))), (86, (.invokevirtual 178, (sv_N, (89, (0, []))))), (89, (.aload_n 0, (sv_N, (90, (0, []))))), (90, (.invokevirtual 165, (sv_N, (93, (0, []))))), (93, (.aload_n 0, (sv_N, (94, (0, []))))), (94, (.getfield 174, (sv_N, (97, (0, []))))), (97, (.iload_n 3, (sv_N, (98, (0, []))))), (98, (.if_icmp .le 16, (sv_N, (101, (114, []))))), (101, (.aload_n 0, (sv_N, (102, (0, []))))), (102, (.getfield 174, (sv_N, (105, (0, []))))), (105, (.istore_n 3, (sv_N, (106, (0, []))))), (106, (.iload 6, (sv_N, (108, (0, []))))), (108, (.istore 4, (sv_N, (110, (0, []))))), (110, (.iload 7, (sv_N, (112, (0, []))))), (112, (.istore 5, (sv_N, (114, (0, []))))), (114, (.iinc 7 1, (.inl (1 : Int32), (117, (0, []))))), (117, (.goto (-49), (sv_N, (120, (68, []))))), (120, (.iinc 6 1, (.inl (1 : Int32), (123, (0, []))))), (123, (.goto (-69), (sv_N, (126, (54, []))))), (126, (.iload 4, (sv_N, (128, (0, []))))), (128, (.ifCond .ge 8, (sv_N, (131, (136, []))))), (131, (.ldc 70, (sv_N, (133, (0, []))))), (133, (.goto 23, (sv_N, (136, (156, []))))), (136, (.iload_n 2, (sv_N, (137, (0, []))))), (137, (.ifCond .ne 8, (sv_N, (140, (145, []))))), (140, (.iload 4, (sv_N, (142, (0, []))))), (142, (.goto 14, (sv_N, (145, (156, []))))), (145, (.iload_n 2, (sv_N, (146, (0, []))))), (146, (.iconst 1, (.inl (1 : Int32), (147, (0, []))))), (147, (.if_icmp .ne 8, (sv_N, (150, (155, []))))), (150, (.iload 5, (sv_N, (152, (0, []))))), (152, (.goto 4, (sv_N, (155, (156, []))))), (155, (.iload_n 3, (sv_N, (156, (0, []))))), (156, (.ireturn, (sv_N, (157, (0, [])))))]
noncomputable def ev_Mo_mend : sv_E := (fun i => sv_lk i fl_12, (fun i => sv_lk i kc_12, (fun _ => false, (true, fun pc => sv_lk pc [(6, (3, .inl n_Mo_isIn)), (18, (3, .inl n_Mo_isIn)), (28, (1, .inr (.inl n_Mo_laysBy))), (33, (2, .inr (.inl n_Mo_layFirsts))), (37, (1, .inr (.inl n_Mo_laysBack))), (81, (4, .inr (.inl n_Mo_sets))), (86, (2, .inr (.inl n_Mo_layFirsts))), (90, (1, .inr (.inl n_Mo_laysBack)))]))))
noncomputable def kk_Mo_mend_68 (k54 : Int32 → Int32 → Int32 → Int32 → Int32 → Int32 → sv_S → Option (Int32 × sv_S)) (n : Nat) : sv_K (Int32 × sv_S) := fun pc => sv_lk pc [(54, fun lo st σ => match lo, st with
    | [some (.inr (.inr (some (30, 0)))), some (.inl x1), some (.inl x2), some (.inl x3), some (.inl x4), some (.inl x5), some (.inl x6), _], [] => k54 x1 x2 x3 x4 x5 x6 σ
    | _, _ => none),
  (68, fun lo st σ => match lo, st with
    | [some (.inr (.inr (some (30, 0)))), some (.inl x1), some (.inl x2), some (.inl x3), some (.inl x4), some (.inl x5), some (.inl x6), some (.inl x7)], [] => f_Mo_mend_68 k54 n x1 x2 x3 x4 x5 x6 x7 σ
    | _, _ => none)]
set_option maxRecDepth 20000 in
theorem e_Mo_mend_68 (k54 : Int32 → Int32 → Int32 → Int32 → Int32 → Int32 → sv_S → Option (Int32 × sv_S)) (n : Nat) (x1 : Int32) (x2 : Int32) (x3 : Int32) (x4 : Int32) (x5 : Int32) (x6 : Int32) (x7 : Int32) (σ : sv_S) : sv_ex ev_Mo_mend sv_rI (kk_Mo_mend_68 k54 n) cd_Mo_mend 83 68 [some (.inr (.inr (some (30, 0)))), some (.inl x1), some (.inl x2), some (.inl x3), some (.inl x4), some (.inl x5), some (.inl x6), some (.inl x7)] [] σ = f_Mo_mend_68 k54 (n + 1) x1 x2 x3 x4 x5 x6 x7 σ := by
  rw [f_Mo_mend_68.eq_2]
  delta ev_Mo_mend kk_Mo_mend_68 n_Mo_isIn n_Mo_laysBy n_Mo_layFirsts n_Mo_laysBack n_Mo_sets
  generalize f_Mo_isIn = c0
  generalize f_Mo_laysBy = c1
  generalize f_Mo_layFirsts = c2
  generalize f_Mo_laysBack = c3
  generalize f_Mo_sets = c4
  generalize f_Mo_mend_54 = c5
  generalize f_Mo_mend_68 = c6
  rfl
noncomputable def kk_Mo_mend_54 (n : Nat) : sv_K (Int32 × sv_S) := fun pc => sv_lk pc [(68, fun lo st σ => match lo, st with
    | [some (.inr (.inr (some (30, 0)))), some (.inl x1), some (.inl x2), some (.inl x3), some (.inl x4), some (.inl x5), some (.inl x6), some (.inl x7)], [] => f_Mo_mend_68 (f_Mo_mend_54 n) sv_fu x1 x2 x3 x4 x5 x6 x7 σ
    | _, _ => none)]
set_option maxRecDepth 20000 in
theorem e_Mo_mend_54 (n : Nat) (x1 : Int32) (x2 : Int32) (x3 : Int32) (x4 : Int32) (x5 : Int32) (x6 : Int32) (z7 : Option sv_V) (σ : sv_S) : sv_ex ev_Mo_mend sv_rI (kk_Mo_mend_54 n) cd_Mo_mend 83 54 [some (.inr (.inr (some (30, 0)))), some (.inl x1), some (.inl x2), some (.inl x3), some (.inl x4), some (.inl x5), some (.inl x6), z7] [] σ = f_Mo_mend_54 (n + 1) x1 x2 x3 x4 x5 x6 σ := by
  rw [f_Mo_mend_54.eq_2]
  delta ev_Mo_mend kk_Mo_mend_54 n_Mo_isIn n_Mo_laysBy n_Mo_layFirsts n_Mo_laysBack n_Mo_sets
  generalize f_Mo_isIn = c0
  generalize f_Mo_laysBy = c1
  generalize f_Mo_layFirsts = c2
  generalize f_Mo_laysBack = c3
  generalize f_Mo_sets = c4
  generalize f_Mo_mend_68 = c5
  generalize f_Mo_mend_54 = c6
  rfl
noncomputable def kk_Mo_mend : sv_K (Int32 × sv_S) := fun pc => sv_lk pc [(54, fun lo st σ => match lo, st with
    | [some (.inr (.inr (some (30, 0)))), some (.inl x1), some (.inl x2), some (.inl x3), some (.inl x4), some (.inl x5), some (.inl x6), _], [] => f_Mo_mend_54 sv_fu x1 x2 x3 x4 x5 x6 σ
    | _, _ => none)]
set_option maxRecDepth 20000 in
theorem e_Mo_mend (a1 : Int32) (a2 : Int32) (σ : sv_S) : sv_ex ev_Mo_mend sv_rI kk_Mo_mend cd_Mo_mend 83 0 [some (.inr (.inr (some (30, 0)))), some (.inl a1), some (.inl a2), none, none, none, none, none] [] σ = f_Mo_mend a1 a2 σ := by
  unfold f_Mo_mend
  delta ev_Mo_mend kk_Mo_mend n_Mo_isIn n_Mo_laysBy n_Mo_layFirsts n_Mo_laysBack n_Mo_sets
  generalize f_Mo_isIn = c0
  generalize f_Mo_laysBy = c1
  generalize f_Mo_layFirsts = c2
  generalize f_Mo_laysBack = c3
  generalize f_Mo_sets = c4
  generalize f_Mo_mend_54 = c5
  rfl
theorem d_Mo_mend : cd_Mo_mend.all (sv_dk cX12_mend) = true := by decide +kernel
set_option maxRecDepth 20000 in
theorem w_Mo_mend_68 {Γ : sv_Ga} {res : Int32 × sv_S} (X : sv_Ok Γ ev_Mo_mend cX12_mend sv_rI res) (k54 : Int32 → Int32 → Int32 → Int32 → Int32 → Int32 → sv_S → Option (Int32 × sv_S)) (h54 : ∀ (x1 : Int32) (x2 : Int32) (x3 : Int32) (x4 : Int32) (x5 : Int32) (x6 : Int32) (z7 : Option sv_V) (σ : sv_S), k54 x1 x2 x3 x4 x5 x6 σ = some res → sv_T Γ 54 [some (.inr (.inr (some (30, 0)))), some (.inl x1), some (.inl x2), some (.inl x3), some (.inl x4), some (.inl x5), some (.inl x6), z7] [] σ) : ∀ (n : Nat) (x1 : Int32) (x2 : Int32) (x3 : Int32) (x4 : Int32) (x5 : Int32) (x6 : Int32) (x7 : Int32) (σ : sv_S), f_Mo_mend_68 k54 n x1 x2 x3 x4 x5 x6 x7 σ = some res → sv_T Γ 68 [some (.inr (.inr (some (30, 0)))), some (.inl x1), some (.inl x2), some (.inl x3), some (.inl x4), some (.inl x5), some (.inl x6), some (.inl x7)] [] σ := by
  intro n
  induction n with
  | zero =>
    intro x1 x2 x3 x4 x5 x6 x7 σ h
    rw [f_Mo_mend_68.eq_1] at h
    cases h
  | succ n ih =>
    intro x1 x2 x3 x4 x5 x6 x7 σ h
    refine sv_run X d_Mo_mend (K := kk_Mo_mend_68 k54 n) (sv_lk_all (P := fun pc (k : sv_Lo → List sv_V → sv_S → Option (Int32 × sv_S)) => ∀ lo st σ, k lo st σ = some res → sv_T Γ pc lo st σ) ?_) _ _ _ _ _ ((e_Mo_mend_68 k54 n x1 x2 x3 x4 x5 x6 x7 σ).trans h)
    clear h
    refine List.forall_mem_cons.mpr ⟨fun lo st σ h => ?_, List.forall_mem_cons.mpr ⟨fun lo st σ h => ?_, fun _ h => absurd h List.not_mem_nil⟩⟩
    · dsimp only at h
      split at h
      · exact h54 _ _ _ _ _ _ _ _ h
      · cases h
    · dsimp only at h
      split at h
      · exact ih _ _ _ _ _ _ _ _ h
      · cases h

set_option maxRecDepth 20000 in
theorem w_Mo_mend_54 {Γ : sv_Ga} {res : Int32 × sv_S} (X : sv_Ok Γ ev_Mo_mend cX12_mend sv_rI res) : ∀ (n : Nat) (x1 : Int32) (x2 : Int32) (x3 : Int32) (x4 : Int32) (x5 : Int32) (x6 : Int32) (z7 : Option sv_V) (σ : sv_S), f_Mo_mend_54 n x1 x2 x3 x4 x5 x6 σ = some res → sv_T Γ 54 [some (.inr (.inr (some (30, 0)))), some (.inl x1), some (.inl x2), some (.inl x3), some (.inl x4), some (.inl x5), some (.inl x6), z7] [] σ := by
  intro n
  induction n with
  | zero =>
    intro x1 x2 x3 x4 x5 x6 z7 σ h
    rw [f_Mo_mend_54.eq_1] at h
    cases h
  | succ n ih =>
    intro x1 x2 x3 x4 x5 x6 z7 σ h
    refine sv_run X d_Mo_mend (K := kk_Mo_mend_54 n) (sv_lk_all (P := fun pc (k : sv_Lo → List sv_V → sv_S → Option (Int32 × sv_S)) => ∀ lo st σ, k lo st σ = some res → sv_T Γ pc lo st σ) ?_) _ _ _ _ _ ((e_Mo_mend_54 n x1 x2 x3 x4 x5 x6 z7 σ).trans h)
    clear h
    refine List.forall_mem_cons.mpr ⟨fun lo st σ h => ?_, fun _ h => absurd h List.not_mem_nil⟩
    · dsimp only at h
      split at h
      · exact w_Mo_mend_68 X _ ih _ _ _ _ _ _ _ _ _ h
      · cases h

set_option maxRecDepth 20000 in
theorem b_Mo_mend (Γ : sv_Ga) (res : Int32 × sv_S) (X : sv_Ok Γ ev_Mo_mend cX12_mend sv_rI res) (as : List sv_V) (σ : sv_S) (h : n_Mo_mend as σ = some res) : sv_T Γ 0 (sv_e0 8 as) [] σ := by
  unfold n_Mo_mend at h
  split at h
  · refine sv_run X d_Mo_mend (K := kk_Mo_mend) (sv_lk_all (P := fun pc (k : sv_Lo → List sv_V → sv_S → Option (Int32 × sv_S)) => ∀ lo st σ, k lo st σ = some res → sv_T Γ pc lo st σ) ?_) _ _ _ _ _ ((e_Mo_mend _ _ _).trans h)
    clear h
    refine List.forall_mem_cons.mpr ⟨fun lo st σ h => ?_, fun _ h => absurd h List.not_mem_nil⟩
    · dsimp only at h
      split at h
      · exact w_Mo_mend_54 X _ _ _ _ _ _ _ _ _ h
      · cases h
  · cases h
theorem a_Mo_mend (as : List sv_V) (σ : sv_S) (x : Int32 × sv_S) (h : n_Mo_mend as σ = some x) : sv_args 8 ev_Mo_mend.2.2.2.1 as := by
  unfold n_Mo_mend at h
  split at h
  · exact ⟨Nat.le_of_ble_eq_true rfl, fun _ v hv => by
      simp only [List.mem_cons, List.not_mem_nil, or_false] at hv
      rcases hv with rfl | rfl | rfl <;> trivial⟩
  · cases h
theorem g_Mo_mend (as : List sv_V) (σ : sv_S) (x : Option sv_V × sv_S) (h : sv_gI n_Mo_mend as σ = some x) : ∃ r i as', as = sv_R r i :: as' ∧ sv_kd r i = .inl 12 := by
  obtain ⟨_, _, h, -⟩ := sv_b_some h
  unfold n_Mo_mend at h
  split at h
  · exact ⟨_, _, _, rfl, rfl⟩
  · cases h

set_option maxRecDepth 20000 in
theorem m_Mo_mend (l : Launch) : sv_M l yX12_mend cX12_mend 8 (some .int) (sv_gI n_Mo_mend) 6 := by
  refine sv_mI (E := ev_Mo_mend) (by decide +kernel) (ln_gen fk_12 kk_12 (sv_ns _ (fun _ => rfl) _)) ?_ a_Mo_mend b_Mo_mend
  intro p e R s m args below meth c cells slots Q base ad dC dI cA n0 S hkn hR hf pc n f h
  refine sv_lk_all (P := fun pc (x : Nat × sv_F) => sv_cok p l e R s m args below meth c cells slots Q base ad dC dI cA true 8 n0 pc x.1 x.2) ?_ pc (n, f) h
  exact List.forall_mem_cons.mpr ⟨(sv_cS S hkn (m_Mo_isIn l) ⟨Nat.le_trans (by decide) hR.1, Nat.le_trans (by decide) hR.2⟩ (by decide) hf (sv_w4 tw_1098 tw_1099 tw_65 tw_1100) (by decide +kernel) (sv_dc3 d_Mo_mend (pc := 6) rfl rfl)).I,
      List.forall_mem_cons.mpr ⟨(sv_cS S hkn (m_Mo_isIn l) ⟨Nat.le_trans (by decide) hR.1, Nat.le_trans (by decide) hR.2⟩ (by decide) hf (sv_w4 tw_1098 tw_1099 tw_65 tw_1100) (by decide +kernel) (sv_dc3 d_Mo_mend (pc := 18) rfl rfl)).I,
      List.forall_mem_cons.mpr ⟨(sv_cV S hkn (m_Mo_laysBy l) ⟨Nat.le_trans (by decide) hR.1, Nat.le_trans (by decide) hR.2⟩ (by decide) hf rfl g_Mo_laysBy (sv_w5 tw_1244 tw_1246 tw_26 tw_65 tw_1247) (by decide +kernel) (sv_dc3 d_Mo_mend (pc := 28) rfl rfl)).V,
      List.forall_mem_cons.mpr ⟨(sv_cV S hkn (m_Mo_layFirsts l) ⟨Nat.le_trans (by decide) hR.1, Nat.le_trans (by decide) hR.2⟩ (by decide) hf rfl g_Mo_layFirsts (sv_w5 tw_1271 tw_1273 tw_29 tw_65 tw_1274) (by decide +kernel) (sv_dc3 d_Mo_mend (pc := 33) rfl rfl)).V,
      List.forall_mem_cons.mpr ⟨(sv_cV S hkn (m_Mo_laysBack l) ⟨Nat.le_trans (by decide) hR.1, Nat.le_trans (by decide) hR.2⟩ (by decide) hf rfl g_Mo_laysBack (sv_w5 tw_1248 tw_1250 tw_27 tw_65 tw_1251) (by decide +kernel) (sv_dc3 d_Mo_mend (pc := 37) rfl rfl)).V,
      List.forall_mem_cons.mpr ⟨(sv_cV S hkn (m_Mo_sets l) ⟨Nat.le_trans (by decide) hR.1, Nat.le_trans (by decide) hR.2⟩ (by decide) hf rfl g_Mo_sets (sv_w5 tw_1108 tw_1110 tw_8 tw_65 tw_1111) (by decide +kernel) (sv_dc3 d_Mo_mend (pc := 81) rfl rfl)).V,
      List.forall_mem_cons.mpr ⟨(sv_cV S hkn (m_Mo_layFirsts l) ⟨Nat.le_trans (by decide) hR.1, Nat.le_trans (by decide) hR.2⟩ (by decide) hf rfl g_Mo_layFirsts (sv_w5 tw_1271 tw_1273 tw_29 tw_65 tw_1274) (by decide +kernel) (sv_dc3 d_Mo_mend (pc := 86) rfl rfl)).V,
      List.forall_mem_cons.mpr ⟨(sv_cV S hkn (m_Mo_laysBack l) ⟨Nat.le_trans (by decide) hR.1, Nat.le_trans (by decide) hR.2⟩ (by decide) hf rfl g_Mo_laysBack (sv_w5 tw_1248 tw_1250 tw_27 tw_65 tw_1251) (by decide +kernel) (sv_dc3 d_Mo_mend (pc := 90) rfl rfl)).V,
      fun _ h => absurd h List.not_mem_nil⟩⟩⟩⟩⟩⟩⟩⟩
noncomputable def f_Mo_farOf_26 (k14 : Int32 → Int32 → Int32 → Int32 → sv_S → Option (Int32 × sv_S)) (x1 : Int32) (x2 : Int32) (x3 : Int32) (x4 : Int32) (y0 : Int32) (y1 : Int32) (σ : sv_S) : Option (Int32 × sv_S) :=
    sv_if (y0 ≤ y1)
      (some (x3, σ))
      (sv_b (f_Mo_of x4 (7 : Int32) σ) (fun v1 σ2 =>
        k14 x1 x2 (x3 + v1) (x4 + (1 : Int32)) σ2))
noncomputable def f_Mo_farOf_14 : Nat → Int32 → Int32 → Int32 → Int32 → sv_S → Option (Int32 × sv_S)
  | 0, _, _, _, _, _ => none
  | n + 1, x1, x2, x3, x4, σ =>
    sv_if (x2 ≤ x1)
      (f_Mo_farOf_26 (f_Mo_farOf_14 n) x1 x2 x3 x4 x1 x4 σ)
      (f_Mo_farOf_26 (f_Mo_farOf_14 n) x1 x2 x3 x4 x2 x4 σ)
noncomputable def f_Mo_farOf (a1 : Int32) (a2 : Int32) (σ : sv_S) : Option (Int32 × sv_S) :=
  sv_if (a2 ≤ a1)
    (f_Mo_farOf_14 sv_fu a1 a2 (0 : Int32) a2 σ)
    (f_Mo_farOf_14 sv_fu a1 a2 (0 : Int32) a1 σ)
noncomputable def n_Mo_farOf : List sv_V → sv_S → Option (Int32 × sv_S)
  | [.inr (.inr (some (30, 0))), .inl a1, .inl a2], σ => f_Mo_farOf a1 a2 σ
  | _, _ => none
def cd_Mo_farOf : sv_C := [(0, (.iconst 0, (.inl (0 : Int32), (1, (0, []))))), (1, (.istore_n 3, (sv_N, (2, (0, []))))), (2, (.iload_n 1, (sv_N, (3, (0, []))))), (3, (.iload_n 2, (sv_N, (4, (0, []))))), (4, (.if_icmp .ge 7, (sv_N, (7, (11, []))))), (7, (.iload_n 1, (sv_N, (8, (0, []))))), (8, (.goto 4, (sv_N, (11, (12, []))))), (11, (.iload_n 2, (sv_N, (12, (0, []))))), (12, (.istore 4, (sv_N, (14, (0, []))))), (14, (.iload 4, (sv_N, (16, (0, []))))), (16, (.iload_n 1, (sv_N, (17, (0, []))))), (17, (.iload_n 2, (sv_N, (18, (0, []))))), (18, (.if_icmp .ge 7, (sv_N, (21, (25, []))))), (21, (.iload_n 2, (sv_N, (22, (0, []))))), (22, (.goto 4, (sv_N, (25, (26, []))))), (25, (.iload_n 1, (sv_N, (26, (0, []))))), (26, (.if_icmp .ge 20, (sv_N, (29, (46, []))))), (29, (.iload_n 3, (sv_N, (30, (0, []))))), (30, (.aload_n 0, (sv_N, (31, (0, []))))), (31, (.iload 4, (sv_N, (33, (0, []))))), (33, (.bipush 7, (.inl (7 : Int32), (35, (0, []))))), (35, (.invokevirtual 90, (sv_N, (38, (0, []))))), (38, (.iadd, (sv_N, (39, (0, []))))), (39, (.istore_n 3, (sv_N, (40, (0, []))))), (40, (.iinc 4 1, (.inl (1 : Int32), (43, (0, []))))), (43, (.goto (-29), (sv_N, (46, (14, []))))), (46, (.iload_n 3, (sv_N, (47, (0, []))))), (47, (.ireturn, (sv_N, (48, (0, [])))))]
noncomputable def ev_Mo_farOf : sv_E := (fun i => sv_lk i fl_12, (fun i => sv_lk i kc_12, (fun _ => false, (true, fun pc => sv_lk pc [(35, (3, .inl n_Mo_of))]))))
noncomputable def kk_Mo_farOf_26 (k14 : Int32 → Int32 → Int32 → Int32 → sv_S → Option (Int32 × sv_S)) : sv_K (Int32 × sv_S) := fun pc => sv_lk pc [(14, fun lo st σ => match lo, st with
    | [some (.inr (.inr (some (30, 0)))), some (.inl x1), some (.inl x2), some (.inl x3), some (.inl x4)], [] => k14 x1 x2 x3 x4 σ
    | _, _ => none)]
set_option maxRecDepth 20000 in
theorem e_Mo_farOf_26 (k14 : Int32 → Int32 → Int32 → Int32 → sv_S → Option (Int32 × sv_S)) (x1 : Int32) (x2 : Int32) (x3 : Int32) (x4 : Int32) (y0 : Int32) (y1 : Int32) (σ : sv_S) : sv_ex ev_Mo_farOf sv_rI (kk_Mo_farOf_26 k14) cd_Mo_farOf 30 26 [some (.inr (.inr (some (30, 0)))), some (.inl x1), some (.inl x2), some (.inl x3), some (.inl x4)] [.inl y0, .inl y1] σ = f_Mo_farOf_26 k14 x1 x2 x3 x4 y0 y1 σ := by
  unfold f_Mo_farOf_26
  delta ev_Mo_farOf kk_Mo_farOf_26 n_Mo_of
  generalize f_Mo_of = c0
  generalize f_Mo_farOf_14 = c1
  rfl
noncomputable def kk_Mo_farOf_14 (n : Nat) : sv_K (Int32 × sv_S) := fun pc => sv_lk pc [(26, fun lo st σ => match lo, st with
    | [some (.inr (.inr (some (30, 0)))), some (.inl x1), some (.inl x2), some (.inl x3), some (.inl x4)], [.inl y0, .inl y1] => f_Mo_farOf_26 (f_Mo_farOf_14 n) x1 x2 x3 x4 y0 y1 σ
    | _, _ => none)]
set_option maxRecDepth 20000 in
theorem e_Mo_farOf_14 (n : Nat) (x1 : Int32) (x2 : Int32) (x3 : Int32) (x4 : Int32) (σ : sv_S) : sv_ex ev_Mo_farOf sv_rI (kk_Mo_farOf_14 n) cd_Mo_farOf 30 14 [some (.inr (.inr (some (30, 0)))), some (.inl x1), some (.inl x2), some (.inl x3), some (.inl x4)] [] σ = f_Mo_farOf_14 (n + 1) x1 x2 x3 x4 σ := by
  rw [f_Mo_farOf_14.eq_2]
  delta ev_Mo_farOf kk_Mo_farOf_14 n_Mo_of
  generalize f_Mo_of = c0
  generalize f_Mo_farOf_26 = c1
  generalize f_Mo_farOf_14 = c2
  rfl
noncomputable def kk_Mo_farOf : sv_K (Int32 × sv_S) := fun pc => sv_lk pc [(14, fun lo st σ => match lo, st with
    | [some (.inr (.inr (some (30, 0)))), some (.inl x1), some (.inl x2), some (.inl x3), some (.inl x4)], [] => f_Mo_farOf_14 sv_fu x1 x2 x3 x4 σ
    | _, _ => none)]
set_option maxRecDepth 20000 in
theorem e_Mo_farOf (a1 : Int32) (a2 : Int32) (σ : sv_S) : sv_ex ev_Mo_farOf sv_rI kk_Mo_farOf cd_Mo_farOf 30 0 [some (.inr (.inr (some (30, 0)))), some (.inl a1), some (.inl a2), none, none] [] σ = f_Mo_farOf a1 a2 σ := by
  unfold f_Mo_farOf
  delta ev_Mo_farOf kk_Mo_farOf n_Mo_of
  generalize f_Mo_of = c0
  generalize f_Mo_farOf_14 = c1
  rfl
theorem d_Mo_farOf : cd_Mo_farOf.all (sv_dk cX12_farOf) = true := by decide +kernel
set_option maxRecDepth 20000 in
theorem w_Mo_farOf_26 {Γ : sv_Ga} {res : Int32 × sv_S} (X : sv_Ok Γ ev_Mo_farOf cX12_farOf sv_rI res) (k14 : Int32 → Int32 → Int32 → Int32 → sv_S → Option (Int32 × sv_S)) (h14 : ∀ (x1 : Int32) (x2 : Int32) (x3 : Int32) (x4 : Int32) (σ : sv_S), k14 x1 x2 x3 x4 σ = some res → sv_T Γ 14 [some (.inr (.inr (some (30, 0)))), some (.inl x1), some (.inl x2), some (.inl x3), some (.inl x4)] [] σ) : ∀ (x1 : Int32) (x2 : Int32) (x3 : Int32) (x4 : Int32) (y0 : Int32) (y1 : Int32) (σ : sv_S), f_Mo_farOf_26 k14 x1 x2 x3 x4 y0 y1 σ = some res → sv_T Γ 26 [some (.inr (.inr (some (30, 0)))), some (.inl x1), some (.inl x2), some (.inl x3), some (.inl x4)] [.inl y0, .inl y1] σ := by
  intro x1 x2 x3 x4 y0 y1 σ h
  refine sv_run X d_Mo_farOf (K := kk_Mo_farOf_26 k14) (sv_lk_all (P := fun pc (k : sv_Lo → List sv_V → sv_S → Option (Int32 × sv_S)) => ∀ lo st σ, k lo st σ = some res → sv_T Γ pc lo st σ) ?_) _ _ _ _ _ ((e_Mo_farOf_26 k14 x1 x2 x3 x4 y0 y1 σ).trans h)
  clear h
  refine List.forall_mem_cons.mpr ⟨fun lo st σ h => ?_, fun _ h => absurd h List.not_mem_nil⟩
  · dsimp only at h
    split at h
    · exact h14 _ _ _ _ _ h
    · cases h

set_option maxRecDepth 20000 in
theorem w_Mo_farOf_14 {Γ : sv_Ga} {res : Int32 × sv_S} (X : sv_Ok Γ ev_Mo_farOf cX12_farOf sv_rI res) : ∀ (n : Nat) (x1 : Int32) (x2 : Int32) (x3 : Int32) (x4 : Int32) (σ : sv_S), f_Mo_farOf_14 n x1 x2 x3 x4 σ = some res → sv_T Γ 14 [some (.inr (.inr (some (30, 0)))), some (.inl x1), some (.inl x2), some (.inl x3), some (.inl x4)] [] σ := by
  intro n
  induction n with
  | zero =>
    intro x1 x2 x3 x4 σ h
    rw [f_Mo_farOf_14.eq_1] at h
    cases h
  | succ n ih =>
    intro x1 x2 x3 x4 σ h
    refine sv_run X d_Mo_farOf (K := kk_Mo_farOf_14 n) (sv_lk_all (P := fun pc (k : sv_Lo → List sv_V → sv_S → Option (Int32 × sv_S)) => ∀ lo st σ, k lo st σ = some res → sv_T Γ pc lo st σ) ?_) _ _ _ _ _ ((e_Mo_farOf_14 n x1 x2 x3 x4 σ).trans h)
    clear h
    refine List.forall_mem_cons.mpr ⟨fun lo st σ h => ?_, fun _ h => absurd h List.not_mem_nil⟩
    · dsimp only at h
      split at h
      · exact w_Mo_farOf_26 X _ ih _ _ _ _ _ _ _ h
      · cases h

set_option maxRecDepth 20000 in
theorem b_Mo_farOf (Γ : sv_Ga) (res : Int32 × sv_S) (X : sv_Ok Γ ev_Mo_farOf cX12_farOf sv_rI res) (as : List sv_V) (σ : sv_S) (h : n_Mo_farOf as σ = some res) : sv_T Γ 0 (sv_e0 5 as) [] σ := by
  unfold n_Mo_farOf at h
  split at h
  · refine sv_run X d_Mo_farOf (K := kk_Mo_farOf) (sv_lk_all (P := fun pc (k : sv_Lo → List sv_V → sv_S → Option (Int32 × sv_S)) => ∀ lo st σ, k lo st σ = some res → sv_T Γ pc lo st σ) ?_) _ _ _ _ _ ((e_Mo_farOf _ _ _).trans h)
    clear h
    refine List.forall_mem_cons.mpr ⟨fun lo st σ h => ?_, fun _ h => absurd h List.not_mem_nil⟩
    · dsimp only at h
      split at h
      · exact w_Mo_farOf_14 X _ _ _ _ _ _ h
      · cases h
  · cases h
theorem a_Mo_farOf (as : List sv_V) (σ : sv_S) (x : Int32 × sv_S) (h : n_Mo_farOf as σ = some x) : sv_args 5 ev_Mo_farOf.2.2.2.1 as := by
  unfold n_Mo_farOf at h
  split at h
  · exact ⟨Nat.le_of_ble_eq_true rfl, fun _ v hv => by
      simp only [List.mem_cons, List.not_mem_nil, or_false] at hv
      rcases hv with rfl | rfl | rfl <;> trivial⟩
  · cases h
theorem g_Mo_farOf (as : List sv_V) (σ : sv_S) (x : Option sv_V × sv_S) (h : sv_gI n_Mo_farOf as σ = some x) : ∃ r i as', as = sv_R r i :: as' ∧ sv_kd r i = .inl 12 := by
  obtain ⟨_, _, h, -⟩ := sv_b_some h
  unfold n_Mo_farOf at h
  split at h
  · exact ⟨_, _, _, rfl, rfl⟩
  · cases h

set_option maxRecDepth 20000 in
theorem m_Mo_farOf (l : Launch) : sv_M l yX12_farOf cX12_farOf 5 (some .int) (sv_gI n_Mo_farOf) 1 := by
  refine sv_mI (E := ev_Mo_farOf) (by decide +kernel) (ln_gen fk_12 kk_12 (sv_ns _ (fun _ => rfl) _)) ?_ a_Mo_farOf b_Mo_farOf
  intro p e R s m args below meth c cells slots Q base ad dC dI cA n0 S hkn hR hf pc n f h
  refine sv_lk_all (P := fun pc (x : Nat × sv_F) => sv_cok p l e R s m args below meth c cells slots Q base ad dC dI cA true 5 n0 pc x.1 x.2) ?_ pc (n, f) h
  exact List.forall_mem_cons.mpr ⟨(sv_cV S hkn (m_Mo_of l) ⟨Nat.le_trans (by decide) hR.1, Nat.le_trans (by decide) hR.2⟩ (by decide) hf rfl g_Mo_of (sv_w5 tw_1120 tw_1122 tw_10 tw_65 tw_1123) (by decide +kernel) (sv_dc3 d_Mo_farOf (pc := 35) rfl rfl)).I,
      fun _ h => absurd h List.not_mem_nil⟩
noncomputable def f_Mo_far (a1 : Int32) (a2 : Int32) (σ : sv_S) : Option (Int32 × sv_S) :=
  sv_b (f_Mo_isDrummer a1 σ) (fun v1 σ2 =>
    sv_if (v1 = 0)
      (some ((-1000000001 : Int32), σ2))
      (sv_b (f_Mo_isDrummer a2 σ2) (fun v3 σ4 =>
        sv_if (v3 = 0)
          (some ((-1000000001 : Int32), σ4))
          (sv_b (f_Mo_farOf a1 a2 σ4) (fun v5 σ6 =>
            some (v5, σ6))))))
noncomputable def n_Mo_far : List sv_V → sv_S → Option (Int32 × sv_S)
  | [.inr (.inr (some (30, 0))), .inl a1, .inl a2], σ => f_Mo_far a1 a2 σ
  | _, _ => none
def cd_Mo_far : sv_C := [(0, (.aload_n 0, (sv_N, (1, (0, []))))), (1, (.iload_n 1, (sv_N, (2, (0, []))))), (2, (.invokevirtual 113, (sv_N, (5, (0, []))))), (5, (.ifCond .eq 20, (sv_N, (8, (25, []))))), (8, (.aload_n 0, (sv_N, (9, (0, []))))), (9, (.iload_n 2, (sv_N, (10, (0, []))))), (10, (.invokevirtual 113, (sv_N, (13, (0, []))))), (13, (.ifCond .eq 12, (sv_N, (16, (25, []))))), (16, (.aload_n 0, (sv_N, (17, (0, []))))), (17, (.iload_n 1, (sv_N, (18, (0, []))))), (18, (.iload_n 2, (sv_N, (19, (0, []))))), (19, (.invokevirtual 189, (sv_N, (22, (0, []))))), (22, (.goto 5, (sv_N, (25, (27, []))))), (25, (.ldc 84, (sv_N, (27, (0, []))))), (27, (.ireturn, (sv_N, (28, (0, [])))))]
noncomputable def ev_Mo_far : sv_E := (fun i => sv_lk i fl_12, (fun i => sv_lk i kc_12, (fun _ => false, (true, fun pc => sv_lk pc [(2, (2, .inl n_Mo_isDrummer)), (10, (2, .inl n_Mo_isDrummer)), (19, (3, .inl n_Mo_farOf))]))))
noncomputable def kk_Mo_far : sv_K (Int32 × sv_S) := fun pc => sv_lk pc []
set_option maxRecDepth 20000 in
theorem e_Mo_far (a1 : Int32) (a2 : Int32) (σ : sv_S) : sv_ex ev_Mo_far sv_rI kk_Mo_far cd_Mo_far 17 0 [some (.inr (.inr (some (30, 0)))), some (.inl a1), some (.inl a2)] [] σ = f_Mo_far a1 a2 σ := by
  unfold f_Mo_far
  delta ev_Mo_far kk_Mo_far n_Mo_isDrummer n_Mo_farOf
  generalize f_Mo_isDrummer = c0
  generalize f_Mo_farOf = c1
  rfl
theorem d_Mo_far : cd_Mo_far.all (sv_dk cX12_far) = true := by decide +kernel
set_option maxRecDepth 20000 in
theorem b_Mo_far (Γ : sv_Ga) (res : Int32 × sv_S) (X : sv_Ok Γ ev_Mo_far cX12_far sv_rI res) (as : List sv_V) (σ : sv_S) (h : n_Mo_far as σ = some res) : sv_T Γ 0 (sv_e0 3 as) [] σ := by
  unfold n_Mo_far at h
  split at h
  · refine sv_run X d_Mo_far (K := kk_Mo_far) (sv_lk_all (P := fun pc (k : sv_Lo → List sv_V → sv_S → Option (Int32 × sv_S)) => ∀ lo st σ, k lo st σ = some res → sv_T Γ pc lo st σ) ?_) _ _ _ _ _ ((e_Mo_far _ _ _).trans h)
    clear h
    exact fun _ h => absurd h List.not_mem_nil
  · cases h
theorem a_Mo_far (as : List sv_V) (σ : sv_S) (x : Int32 × sv_S) (h : n_Mo_far as σ = some x) : sv_args 3 ev_Mo_far.2.2.2.1 as := by
  unfold n_Mo_far at h
  split at h
  · exact ⟨Nat.le_of_ble_eq_true rfl, fun _ v hv => by
      simp only [List.mem_cons, List.not_mem_nil, or_false] at hv
      rcases hv with rfl | rfl | rfl <;> trivial⟩
  · cases h
theorem g_Mo_far (as : List sv_V) (σ : sv_S) (x : Option sv_V × sv_S) (h : sv_gI n_Mo_far as σ = some x) : ∃ r i as', as = sv_R r i :: as' ∧ sv_kd r i = .inl 12 := by
  obtain ⟨_, _, h, -⟩ := sv_b_some h
  unfold n_Mo_far at h
  split at h
  · exact ⟨_, _, _, rfl, rfl⟩
  · cases h
theorem tw_31 : Cond.selects RX12 yX12_farOf yX12_farOf ∈ gw_tbl := gw_at 31 (by decide +kernel) rfl
theorem tw_1293 : Cond.methodLink RX12 189 yX12_farOf ∈ gw_tbl := gw_at 1293 (by decide +kernel) rfl
theorem tw_1295 : Cond.instanceMethod yX12_farOf ∈ gw_tbl := gw_at 1295 (by decide +kernel) rfl
theorem tw_1296 : Cond.code yX12_farOf cX12_farOf 5 (some .int) ∈ gw_tbl := gw_at 1296 (by decide +kernel) rfl
set_option maxRecDepth 20000 in
theorem m_Mo_far (l : Launch) : sv_M l yX12_far cX12_far 3 (some .int) (sv_gI n_Mo_far) 2 := by
  refine sv_mI (E := ev_Mo_far) (by decide +kernel) (ln_gen fk_12 kk_12 (sv_ns _ (fun _ => rfl) _)) ?_ a_Mo_far b_Mo_far
  intro p e R s m args below meth c cells slots Q base ad dC dI cA n0 S hkn hR hf pc n f h
  refine sv_lk_all (P := fun pc (x : Nat × sv_F) => sv_cok p l e R s m args below meth c cells slots Q base ad dC dI cA true 3 n0 pc x.1 x.2) ?_ pc (n, f) h
  exact List.forall_mem_cons.mpr ⟨(sv_cV S hkn (m_Mo_isDrummer l) ⟨Nat.le_trans (by decide) hR.1, Nat.le_trans (by decide) hR.2⟩ (by decide) hf rfl g_Mo_isDrummer (sv_w5 tw_1116 tw_1118 tw_9 tw_65 tw_1119) (by decide +kernel) (sv_dc3 d_Mo_far (pc := 2) rfl rfl)).I,
      List.forall_mem_cons.mpr ⟨(sv_cV S hkn (m_Mo_isDrummer l) ⟨Nat.le_trans (by decide) hR.1, Nat.le_trans (by decide) hR.2⟩ (by decide) hf rfl g_Mo_isDrummer (sv_w5 tw_1116 tw_1118 tw_9 tw_65 tw_1119) (by decide +kernel) (sv_dc3 d_Mo_far (pc := 10) rfl rfl)).I,
      List.forall_mem_cons.mpr ⟨(sv_cV S hkn (m_Mo_farOf l) ⟨Nat.le_trans (by decide) hR.1, Nat.le_trans (by decide) hR.2⟩ (by decide) hf rfl g_Mo_farOf (sv_w5 tw_1293 tw_1295 tw_31 tw_65 tw_1296) (by decide +kernel) (sv_dc3 d_Mo_far (pc := 19) rfl rfl)).I,
      fun _ h => absurd h List.not_mem_nil⟩⟩⟩
noncomputable def f_Mo_reach_28 : Nat → Int32 → Int32 → Int32 → Int32 → sv_S → Option (Int32 × sv_S)
  | 0, _, _, _, _, _ => none
  | n + 1, x1, x2, x3, x4, σ =>
    sv_g (sv_in (0 : Int32) 3086) (sv_if ((σ 31 0 ((0 : Int32).toNatClampNeg)) ≤ x4)
      (some (x3, σ))
      (sv_b (f_Mo_farOf x1 x4 σ) (fun v1 σ2 =>
        sv_if (x2 < v1)
          (f_Mo_reach_28 n x1 x2 (x3 ||| (0 : Int32)) (x4 + (1 : Int32)) σ2)
          (f_Mo_reach_28 n x1 x2 (x3 ||| ((1 : Int32) <<< (x4 &&& 31))) (x4 + (1 : Int32)) σ2))))
noncomputable def f_Mo_reach (a1 : Int32) (a2 : Int32) (σ : sv_S) : Option (Int32 × sv_S) :=
  sv_b (f_Mo_isDrummer a1 σ) (fun v1 σ2 =>
    sv_if (v1 = 0)
      (some ((-1000000001 : Int32), σ2))
      (sv_b (f_Mo_isIn (a2.toInt64) (0 : Int64) (30 : Int64) σ2) (fun v3 σ4 =>
        sv_if (v3 = 0)
          (some ((-1000000001 : Int32), σ4))
          (f_Mo_reach_28 sv_fu a1 a2 (0 : Int32) (0 : Int32) σ4))))
noncomputable def n_Mo_reach : List sv_V → sv_S → Option (Int32 × sv_S)
  | [.inr (.inr (some (30, 0))), .inl a1, .inl a2], σ => f_Mo_reach a1 a2 σ
  | _, _ => none
def cd_Mo_reach : sv_C := [(0, (.aload_n 0, (sv_N, (1, (0, []))))), (1, (.iload_n 1, (sv_N, (2, (0, []))))), (2, (.invokevirtual 113, (sv_N, (5, (0, []))))), (5, (.ifCond .eq 15, (sv_N, (8, (20, []))))), (8, (.iload_n 2, (sv_N, (9, (0, []))))), (9, (.i2l, (sv_N, (10, (0, []))))), (10, (.lconst 0, (.inr (.inl (0 : Int64)), (11, (0, []))))), (11, (.ldc2_w 192, (sv_N, (14, (0, []))))), (14, (.invokestatic 71, (sv_N, (17, (0, []))))), (17, (.ifCond .ne 6, (sv_N, (20, (23, []))))), (20, (.ldc 84, (sv_N, (22, (0, []))))), (22, (.ireturn, (sv_N, (23, (0, []))))), (23, (.iconst 0, (.inl (0 : Int32), (24, (0, []))))), (24, (.istore_n 3, (sv_N, (25, (0, []))))), (25, (.iconst 0, (.inl (0 : Int32), (26, (0, []))))), (26, (.istore 4, (sv_N, (28, (0, []))))), (28, (.iload 4, (sv_N, (30, (0, []))))), (30, (.aload_n 0, (sv_N, (31, (0, []))))), (31, (.getfield 7, (sv_N, (34, (0, []))))), (34, (.iconst 0, (.inl (0 : Int32), (35, (0, []))))), (35, (.iaload, (sv_N, (36, (0, []))))), (36, (.if_icmp .ge 31, (sv_N, (39, (67, []))))), (39, (.iload_n 3, (sv_N, (40, (0, []))))), (40, (.aload_n 0, (sv_N, (41, (0, []))))), (41, (.iload_n 1, (sv_N, (42, (0, []))))), (42, (.iload 4, (sv_N, (44, (0, []))))), (44, (.invokevirtual 189, (sv_N, (47, (0, []))))), (47, (.iload_n 2, (sv_N, (48, (0, []))))), (48, (.if_icmp .gt 10, (sv_N, (51, (58, []))))), (51, (.iconst 1, (.inl (1 : Int32), (52, (0, []))))), (52, (.iload 4, (sv_N, (54, (0, []))))), (54, (.ishl, (sv_N, (55, (0, []))))), (55, (.goto 4, (sv_N, (58, (59, []))))), (58, (.iconst 0, (.inl (0 : Int32), (59, (0, []))))), (59, (.ior, (sv_N, (60, (0, []))))), (60, (.istore_n 3, (sv_N, (61, (0, []))))), (61, (.iinc 4 1, (.inl (1 : Int32), (64, (0, []))))), (64, (.goto (-36), (sv_N, (67, (28, []))))), (67, (.iload_n 3, (sv_N, (68, (0, []))))), (68, (.ireturn, (sv_N, (69, (0, [])))))]
noncomputable def ev_Mo_reach : sv_E := (fun i => sv_lk i fl_12, (fun i => sv_lk i kc_12, (fun _ => false, (true, fun pc => sv_lk pc [(2, (2, .inl n_Mo_isDrummer)), (14, (3, .inl n_Mo_isIn)), (44, (3, .inl n_Mo_farOf))]))))
noncomputable def kk_Mo_reach_28 (n : Nat) : sv_K (Int32 × sv_S) := fun pc => sv_lk pc [(28, fun lo st σ => match lo, st with
    | [some (.inr (.inr (some (30, 0)))), some (.inl x1), some (.inl x2), some (.inl x3), some (.inl x4)], [] => f_Mo_reach_28 n x1 x2 x3 x4 σ
    | _, _ => none)]
set_option maxRecDepth 20000 in
theorem e_Mo_reach_28 (n : Nat) (x1 : Int32) (x2 : Int32) (x3 : Int32) (x4 : Int32) (σ : sv_S) : sv_ex ev_Mo_reach sv_rI (kk_Mo_reach_28 n) cd_Mo_reach 42 28 [some (.inr (.inr (some (30, 0)))), some (.inl x1), some (.inl x2), some (.inl x3), some (.inl x4)] [] σ = f_Mo_reach_28 (n + 1) x1 x2 x3 x4 σ := by
  rw [f_Mo_reach_28.eq_2]
  delta ev_Mo_reach kk_Mo_reach_28 n_Mo_isDrummer n_Mo_isIn n_Mo_farOf
  generalize f_Mo_isDrummer = c0
  generalize f_Mo_isIn = c1
  generalize f_Mo_farOf = c2
  generalize f_Mo_reach_28 = c3
  rfl
noncomputable def kk_Mo_reach : sv_K (Int32 × sv_S) := fun pc => sv_lk pc [(28, fun lo st σ => match lo, st with
    | [some (.inr (.inr (some (30, 0)))), some (.inl x1), some (.inl x2), some (.inl x3), some (.inl x4)], [] => f_Mo_reach_28 sv_fu x1 x2 x3 x4 σ
    | _, _ => none)]
set_option maxRecDepth 20000 in
theorem e_Mo_reach (a1 : Int32) (a2 : Int32) (σ : sv_S) : sv_ex ev_Mo_reach sv_rI kk_Mo_reach cd_Mo_reach 42 0 [some (.inr (.inr (some (30, 0)))), some (.inl a1), some (.inl a2), none, none] [] σ = f_Mo_reach a1 a2 σ := by
  unfold f_Mo_reach
  delta ev_Mo_reach kk_Mo_reach n_Mo_isDrummer n_Mo_isIn n_Mo_farOf
  generalize f_Mo_isDrummer = c0
  generalize f_Mo_isIn = c1
  generalize f_Mo_farOf = c2
  generalize f_Mo_reach_28 = c3
  rfl
theorem d_Mo_reach : cd_Mo_reach.all (sv_dk cX12_reach) = true := by decide +kernel
set_option maxRecDepth 20000 in
theorem w_Mo_reach_28 {Γ : sv_Ga} {res : Int32 × sv_S} (X : sv_Ok Γ ev_Mo_reach cX12_reach sv_rI res) : ∀ (n : Nat) (x1 : Int32) (x2 : Int32) (x3 : Int32) (x4 : Int32) (σ : sv_S), f_Mo_reach_28 n x1 x2 x3 x4 σ = some res → sv_T Γ 28 [some (.inr (.inr (some (30, 0)))), some (.inl x1), some (.inl x2), some (.inl x3), some (.inl x4)] [] σ := by
  intro n
  induction n with
  | zero =>
    intro x1 x2 x3 x4 σ h
    rw [f_Mo_reach_28.eq_1] at h
    cases h
  | succ n ih =>
    intro x1 x2 x3 x4 σ h
    refine sv_run X d_Mo_reach (K := kk_Mo_reach_28 n) (sv_lk_all (P := fun pc (k : sv_Lo → List sv_V → sv_S → Option (Int32 × sv_S)) => ∀ lo st σ, k lo st σ = some res → sv_T Γ pc lo st σ) ?_) _ _ _ _ _ ((e_Mo_reach_28 n x1 x2 x3 x4 σ).trans h)
    clear h
    refine List.forall_mem_cons.mpr ⟨fun lo st σ h => ?_, fun _ h => absurd h List.not_mem_nil⟩
    · dsimp only at h
      split at h
      · exact ih _ _ _ _ _ h
      · cases h

set_option maxRecDepth 20000 in
theorem b_Mo_reach (Γ : sv_Ga) (res : Int32 × sv_S) (X : sv_Ok Γ ev_Mo_reach cX12_reach sv_rI res) (as : List sv_V) (σ : sv_S) (h : n_Mo_reach as σ = some res) : sv_T Γ 0 (sv_e0 5 as) [] σ := by
  unfold n_Mo_reach at h
  split at h
  · refine sv_run X d_Mo_reach (K := kk_Mo_reach) (sv_lk_all (P := fun pc (k : sv_Lo → List sv_V → sv_S → Option (Int32 × sv_S)) => ∀ lo st σ, k lo st σ = some res → sv_T Γ pc lo st σ) ?_) _ _ _ _ _ ((e_Mo_reach _ _ _).trans h)
    clear h
    refine List.forall_mem_cons.mpr ⟨fun lo st σ h => ?_, fun _ h => absurd h List.not_mem_nil⟩
    · dsimp only at h
      split at h
      · exact w_Mo_reach_28 X _ _ _ _ _ _ h
      · cases h
  · cases h
theorem a_Mo_reach (as : List sv_V) (σ : sv_S) (x : Int32 × sv_S) (h : n_Mo_reach as σ = some x) : sv_args 5 ev_Mo_reach.2.2.2.1 as := by
  unfold n_Mo_reach at h
  split at h
  · exact ⟨Nat.le_of_ble_eq_true rfl, fun _ v hv => by
      simp only [List.mem_cons, List.not_mem_nil, or_false] at hv
      rcases hv with rfl | rfl | rfl <;> trivial⟩
  · cases h
theorem g_Mo_reach (as : List sv_V) (σ : sv_S) (x : Option sv_V × sv_S) (h : sv_gI n_Mo_reach as σ = some x) : ∃ r i as', as = sv_R r i :: as' ∧ sv_kd r i = .inl 12 := by
  obtain ⟨_, _, h, -⟩ := sv_b_some h
  unfold n_Mo_reach at h
  split at h
  · exact ⟨_, _, _, rfl, rfl⟩
  · cases h

set_option maxRecDepth 20000 in
theorem m_Mo_reach (l : Launch) : sv_M l yX12_reach cX12_reach 5 (some .int) (sv_gI n_Mo_reach) 2 := by
  refine sv_mI (E := ev_Mo_reach) (by decide +kernel) (ln_gen fk_12 kk_12 (sv_ns _ (fun _ => rfl) _)) ?_ a_Mo_reach b_Mo_reach
  intro p e R s m args below meth c cells slots Q base ad dC dI cA n0 S hkn hR hf pc n f h
  refine sv_lk_all (P := fun pc (x : Nat × sv_F) => sv_cok p l e R s m args below meth c cells slots Q base ad dC dI cA true 5 n0 pc x.1 x.2) ?_ pc (n, f) h
  exact List.forall_mem_cons.mpr ⟨(sv_cV S hkn (m_Mo_isDrummer l) ⟨Nat.le_trans (by decide) hR.1, Nat.le_trans (by decide) hR.2⟩ (by decide) hf rfl g_Mo_isDrummer (sv_w5 tw_1116 tw_1118 tw_9 tw_65 tw_1119) (by decide +kernel) (sv_dc3 d_Mo_reach (pc := 2) rfl rfl)).I,
      List.forall_mem_cons.mpr ⟨(sv_cS S hkn (m_Mo_isIn l) ⟨Nat.le_trans (by decide) hR.1, Nat.le_trans (by decide) hR.2⟩ (by decide) hf (sv_w4 tw_1098 tw_1099 tw_65 tw_1100) (by decide +kernel) (sv_dc3 d_Mo_reach (pc := 14) rfl rfl)).I,
      List.forall_mem_cons.mpr ⟨(sv_cV S hkn (m_Mo_farOf l) ⟨Nat.le_trans (by decide) hR.1, Nat.le_trans (by decide) hR.2⟩ (by decide) hf rfl g_Mo_farOf (sv_w5 tw_1293 tw_1295 tw_31 tw_65 tw_1296) (by decide +kernel) (sv_dc3 d_Mo_reach (pc := 44) rfl rfl)).I,
      fun _ h => absurd h List.not_mem_nil⟩⟩⟩
noncomputable def f_Mo_edge (a1 : Int32) (σ : sv_S) : Option (Int32 × sv_S) :=
  sv_b (f_Mo_isDrummer a1 σ) (fun v1 σ2 =>
    sv_if (v1 = 0)
      (some ((-1000000001 : Int32), σ2))
      (sv_b (f_Mo_farOf a1 (0 : Int32) σ2) (fun v3 σ4 =>
        sv_g (sv_in (0 : Int32) 3086) (sv_b (f_Mo_farOf a1 ((σ4 31 0 ((0 : Int32).toNatClampNeg)) - (1 : Int32)) σ4) (fun v5 σ6 =>
          sv_if (v3 ≤ v5)
            (some (v5, σ6))
            (some (v3, σ6)))))))
noncomputable def n_Mo_edge : List sv_V → sv_S → Option (Int32 × sv_S)
  | [.inr (.inr (some (30, 0))), .inl a1], σ => f_Mo_edge a1 σ
  | _, _ => none
def cd_Mo_edge : sv_C := [(0, (.aload_n 0, (sv_N, (1, (0, []))))), (1, (.iload_n 1, (sv_N, (2, (0, []))))), (2, (.invokevirtual 113, (sv_N, (5, (0, []))))), (5, (.ifCond .ne 6, (sv_N, (8, (11, []))))), (8, (.ldc 84, (sv_N, (10, (0, []))))), (10, (.ireturn, (sv_N, (11, (0, []))))), (11, (.aload_n 0, (sv_N, (12, (0, []))))), (12, (.iload_n 1, (sv_N, (13, (0, []))))), (13, (.iconst 0, (.inl (0 : Int32), (14, (0, []))))), (14, (.invokevirtual 189, (sv_N, (17, (0, []))))), (17, (.istore_n 2, (sv_N, (18, (0, []))))), (18, (.aload_n 0, (sv_N, (19, (0, []))))), (19, (.iload_n 1, (sv_N, (20, (0, []))))), (20, (.aload_n 0, (sv_N, (21, (0, []))))), (21, (.getfield 7, (sv_N, (24, (0, []))))), (24, (.iconst 0, (.inl (0 : Int32), (25, (0, []))))), (25, (.iaload, (sv_N, (26, (0, []))))), (26, (.iconst 1, (.inl (1 : Int32), (27, (0, []))))), (27, (.isub, (sv_N, (28, (0, []))))), (28, (.invokevirtual 189, (sv_N, (31, (0, []))))), (31, (.istore_n 3, (sv_N, (32, (0, []))))), (32, (.iload_n 2, (sv_N, (33, (0, []))))), (33, (.iload_n 3, (sv_N, (34, (0, []))))), (34, (.if_icmp .le 7, (sv_N, (37, (41, []))))), (37, (.iload_n 2, (sv_N, (38, (0, []))))), (38, (.goto 4, (sv_N, (41, (42, []))))), (41, (.iload_n 3, (sv_N, (42, (0, []))))), (42, (.ireturn, (sv_N, (43, (0, [])))))]
noncomputable def ev_Mo_edge : sv_E := (fun i => sv_lk i fl_12, (fun i => sv_lk i kc_12, (fun _ => false, (true, fun pc => sv_lk pc [(2, (2, .inl n_Mo_isDrummer)), (14, (3, .inl n_Mo_farOf)), (28, (3, .inl n_Mo_farOf))]))))
noncomputable def kk_Mo_edge : sv_K (Int32 × sv_S) := fun pc => sv_lk pc []
set_option maxRecDepth 20000 in
theorem e_Mo_edge (a1 : Int32) (σ : sv_S) : sv_ex ev_Mo_edge sv_rI kk_Mo_edge cd_Mo_edge 30 0 [some (.inr (.inr (some (30, 0)))), some (.inl a1), none, none] [] σ = f_Mo_edge a1 σ := by
  unfold f_Mo_edge
  delta ev_Mo_edge kk_Mo_edge n_Mo_isDrummer n_Mo_farOf
  generalize f_Mo_isDrummer = c0
  generalize f_Mo_farOf = c1
  rfl
theorem d_Mo_edge : cd_Mo_edge.all (sv_dk cX12_edge) = true := by decide +kernel
set_option maxRecDepth 20000 in
theorem b_Mo_edge (Γ : sv_Ga) (res : Int32 × sv_S) (X : sv_Ok Γ ev_Mo_edge cX12_edge sv_rI res) (as : List sv_V) (σ : sv_S) (h : n_Mo_edge as σ = some res) : sv_T Γ 0 (sv_e0 4 as) [] σ := by
  unfold n_Mo_edge at h
  split at h
  · refine sv_run X d_Mo_edge (K := kk_Mo_edge) (sv_lk_all (P := fun pc (k : sv_Lo → List sv_V → sv_S → Option (Int32 × sv_S)) => ∀ lo st σ, k lo st σ = some res → sv_T Γ pc lo st σ) ?_) _ _ _ _ _ ((e_Mo_edge _ _).trans h)
    clear h
    exact fun _ h => absurd h List.not_mem_nil
  · cases h
theorem a_Mo_edge (as : List sv_V) (σ : sv_S) (x : Int32 × sv_S) (h : n_Mo_edge as σ = some x) : sv_args 4 ev_Mo_edge.2.2.2.1 as := by
  unfold n_Mo_edge at h
  split at h
  · exact ⟨Nat.le_of_ble_eq_true rfl, fun _ v hv => by
      simp only [List.mem_cons, List.not_mem_nil, or_false] at hv
      rcases hv with rfl | rfl <;> trivial⟩
  · cases h
theorem g_Mo_edge (as : List sv_V) (σ : sv_S) (x : Option sv_V × sv_S) (h : sv_gI n_Mo_edge as σ = some x) : ∃ r i as', as = sv_R r i :: as' ∧ sv_kd r i = .inl 12 := by
  obtain ⟨_, _, h, -⟩ := sv_b_some h
  unfold n_Mo_edge at h
  split at h
  · exact ⟨_, _, _, rfl, rfl⟩
  · cases h

set_option maxRecDepth 20000 in
theorem m_Mo_edge (l : Launch) : sv_M l yX12_edge cX12_edge 4 (some .int) (sv_gI n_Mo_edge) 2 := by
  refine sv_mI (E := ev_Mo_edge) (by decide +kernel) (ln_gen fk_12 kk_12 (sv_ns _ (fun _ => rfl) _)) ?_ a_Mo_edge b_Mo_edge
  intro p e R s m args below meth c cells slots Q base ad dC dI cA n0 S hkn hR hf pc n f h
  refine sv_lk_all (P := fun pc (x : Nat × sv_F) => sv_cok p l e R s m args below meth c cells slots Q base ad dC dI cA true 4 n0 pc x.1 x.2) ?_ pc (n, f) h
  exact List.forall_mem_cons.mpr ⟨(sv_cV S hkn (m_Mo_isDrummer l) ⟨Nat.le_trans (by decide) hR.1, Nat.le_trans (by decide) hR.2⟩ (by decide) hf rfl g_Mo_isDrummer (sv_w5 tw_1116 tw_1118 tw_9 tw_65 tw_1119) (by decide +kernel) (sv_dc3 d_Mo_edge (pc := 2) rfl rfl)).I,
      List.forall_mem_cons.mpr ⟨(sv_cV S hkn (m_Mo_farOf l) ⟨Nat.le_trans (by decide) hR.1, Nat.le_trans (by decide) hR.2⟩ (by decide) hf rfl g_Mo_farOf (sv_w5 tw_1293 tw_1295 tw_31 tw_65 tw_1296) (by decide +kernel) (sv_dc3 d_Mo_edge (pc := 14) rfl rfl)).I,
      List.forall_mem_cons.mpr ⟨(sv_cV S hkn (m_Mo_farOf l) ⟨Nat.le_trans (by decide) hR.1, Nat.le_trans (by decide) hR.2⟩ (by decide) hf rfl g_Mo_farOf (sv_w5 tw_1293 tw_1295 tw_31 tw_65 tw_1296) (by decide +kernel) (sv_dc3 d_Mo_edge (pc := 28) rfl rfl)).I,
      fun _ h => absurd h List.not_mem_nil⟩⟩⟩
noncomputable def f_Mo_strokesOfAll_4 : Nat → Int32 → Int32 → sv_S → Option (Int32 × sv_S)
  | 0, _, _, _ => none
  | n + 1, x1, x2, σ =>
    sv_g (sv_in (0 : Int32) 3086) (sv_if ((σ 31 0 ((0 : Int32).toNatClampNeg)) ≤ x2)
      (some (x1, σ))
      (sv_b (f_Mo_of x2 (5 : Int32) σ) (fun v1 σ2 =>
        f_Mo_strokesOfAll_4 n (x1 + v1) (x2 + (1 : Int32)) σ2)))
noncomputable def f_Mo_strokesOfAll (σ : sv_S) : Option (Int32 × sv_S) :=
  f_Mo_strokesOfAll_4 sv_fu (0 : Int32) (0 : Int32) σ
noncomputable def n_Mo_strokesOfAll : List sv_V → sv_S → Option (Int32 × sv_S)
  | [.inr (.inr (some (30, 0)))], σ => f_Mo_strokesOfAll σ
  | _, _ => none
def cd_Mo_strokesOfAll : sv_C := [(0, (.iconst 0, (.inl (0 : Int32), (1, (0, []))))), (1, (.istore_n 1, (sv_N, (2, (0, []))))), (2, (.iconst 0, (.inl (0 : Int32), (3, (0, []))))), (3, (.istore_n 2, (sv_N, (4, (0, []))))), (4, (.iload_n 2, (sv_N, (5, (0, []))))), (5, (.aload_n 0, (sv_N, (6, (0, []))))), (6, (.getfield 7, (sv_N, (9, (0, []))))), (9, (.iconst 0, (.inl (0 : Int32), (10, (0, []))))), (10, (.iaload, (sv_N, (11, (0, []))))), (11, (.if_icmp .ge 18, (sv_N, (14, (29, []))))), (14, (.iload_n 1, (sv_N, (15, (0, []))))), (15, (.aload_n 0, (sv_N, (16, (0, []))))), (16, (.iload_n 2, (sv_N, (17, (0, []))))), (17, (.iconst 5, (.inl (5 : Int32), (18, (0, []))))), (18, (.invokevirtual 90, (sv_N, (21, (0, []))))), (21, (.iadd, (sv_N, (22, (0, []))))), (22, (.istore_n 1, (sv_N, (23, (0, []))))), (23, (.iinc 2 1, (.inl (1 : Int32), (26, (0, []))))), (26, (.goto (-22), (sv_N, (29, (4, []))))), (29, (.iload_n 1, (sv_N, (30, (0, []))))), (30, (.ireturn, (sv_N, (31, (0, [])))))]
noncomputable def ev_Mo_strokesOfAll : sv_E := (fun i => sv_lk i fl_12, (fun i => sv_lk i kc_12, (fun _ => false, (true, fun pc => sv_lk pc [(18, (3, .inl n_Mo_of))]))))
noncomputable def kk_Mo_strokesOfAll_4 (n : Nat) : sv_K (Int32 × sv_S) := fun pc => sv_lk pc [(4, fun lo st σ => match lo, st with
    | [some (.inr (.inr (some (30, 0)))), some (.inl x1), some (.inl x2)], [] => f_Mo_strokesOfAll_4 n x1 x2 σ
    | _, _ => none)]
set_option maxRecDepth 20000 in
theorem e_Mo_strokesOfAll_4 (n : Nat) (x1 : Int32) (x2 : Int32) (σ : sv_S) : sv_ex ev_Mo_strokesOfAll sv_rI (kk_Mo_strokesOfAll_4 n) cd_Mo_strokesOfAll 23 4 [some (.inr (.inr (some (30, 0)))), some (.inl x1), some (.inl x2)] [] σ = f_Mo_strokesOfAll_4 (n + 1) x1 x2 σ := by
  rw [f_Mo_strokesOfAll_4.eq_2]
  delta ev_Mo_strokesOfAll kk_Mo_strokesOfAll_4 n_Mo_of
  generalize f_Mo_of = c0
  generalize f_Mo_strokesOfAll_4 = c1
  rfl
noncomputable def kk_Mo_strokesOfAll : sv_K (Int32 × sv_S) := fun pc => sv_lk pc [(4, fun lo st σ => match lo, st with
    | [some (.inr (.inr (some (30, 0)))), some (.inl x1), some (.inl x2)], [] => f_Mo_strokesOfAll_4 sv_fu x1 x2 σ
    | _, _ => none)]
set_option maxRecDepth 20000 in
theorem e_Mo_strokesOfAll (σ : sv_S) : sv_ex ev_Mo_strokesOfAll sv_rI kk_Mo_strokesOfAll cd_Mo_strokesOfAll 23 0 [some (.inr (.inr (some (30, 0)))), none, none] [] σ = f_Mo_strokesOfAll σ := by
  unfold f_Mo_strokesOfAll
  delta ev_Mo_strokesOfAll kk_Mo_strokesOfAll n_Mo_of
  generalize f_Mo_of = c0
  generalize f_Mo_strokesOfAll_4 = c1
  rfl
theorem d_Mo_strokesOfAll : cd_Mo_strokesOfAll.all (sv_dk cX12_strokesOfAll) = true := by decide +kernel
set_option maxRecDepth 20000 in
theorem w_Mo_strokesOfAll_4 {Γ : sv_Ga} {res : Int32 × sv_S} (X : sv_Ok Γ ev_Mo_strokesOfAll cX12_strokesOfAll sv_rI res) : ∀ (n : Nat) (x1 : Int32) (x2 : Int32) (σ : sv_S), f_Mo_strokesOfAll_4 n x1 x2 σ = some res → sv_T Γ 4 [some (.inr (.inr (some (30, 0)))), some (.inl x1), some (.inl x2)] [] σ := by
  intro n
  induction n with
  | zero =>
    intro x1 x2 σ h
    rw [f_Mo_strokesOfAll_4.eq_1] at h
    cases h
  | succ n ih =>
    intro x1 x2 σ h
    refine sv_run X d_Mo_strokesOfAll (K := kk_Mo_strokesOfAll_4 n) (sv_lk_all (P := fun pc (k : sv_Lo → List sv_V → sv_S → Option (Int32 × sv_S)) => ∀ lo st σ, k lo st σ = some res → sv_T Γ pc lo st σ) ?_) _ _ _ _ _ ((e_Mo_strokesOfAll_4 n x1 x2 σ).trans h)
    clear h
    refine List.forall_mem_cons.mpr ⟨fun lo st σ h => ?_, fun _ h => absurd h List.not_mem_nil⟩
    · dsimp only at h
      split at h
      · exact ih _ _ _ h
      · cases h

set_option maxRecDepth 20000 in
theorem b_Mo_strokesOfAll (Γ : sv_Ga) (res : Int32 × sv_S) (X : sv_Ok Γ ev_Mo_strokesOfAll cX12_strokesOfAll sv_rI res) (as : List sv_V) (σ : sv_S) (h : n_Mo_strokesOfAll as σ = some res) : sv_T Γ 0 (sv_e0 3 as) [] σ := by
  unfold n_Mo_strokesOfAll at h
  split at h
  · refine sv_run X d_Mo_strokesOfAll (K := kk_Mo_strokesOfAll) (sv_lk_all (P := fun pc (k : sv_Lo → List sv_V → sv_S → Option (Int32 × sv_S)) => ∀ lo st σ, k lo st σ = some res → sv_T Γ pc lo st σ) ?_) _ _ _ _ _ ((e_Mo_strokesOfAll _).trans h)
    clear h
    refine List.forall_mem_cons.mpr ⟨fun lo st σ h => ?_, fun _ h => absurd h List.not_mem_nil⟩
    · dsimp only at h
      split at h
      · exact w_Mo_strokesOfAll_4 X _ _ _ _ h
      · cases h
  · cases h
theorem a_Mo_strokesOfAll (as : List sv_V) (σ : sv_S) (x : Int32 × sv_S) (h : n_Mo_strokesOfAll as σ = some x) : sv_args 3 ev_Mo_strokesOfAll.2.2.2.1 as := by
  unfold n_Mo_strokesOfAll at h
  split at h
  · exact ⟨Nat.le_of_ble_eq_true rfl, fun _ v hv => by
      simp only [List.mem_cons, List.not_mem_nil, or_false] at hv
      rcases hv with rfl <;> trivial⟩
  · cases h
theorem g_Mo_strokesOfAll (as : List sv_V) (σ : sv_S) (x : Option sv_V × sv_S) (h : sv_gI n_Mo_strokesOfAll as σ = some x) : ∃ r i as', as = sv_R r i :: as' ∧ sv_kd r i = .inl 12 := by
  obtain ⟨_, _, h, -⟩ := sv_b_some h
  unfold n_Mo_strokesOfAll at h
  split at h
  · exact ⟨_, _, _, rfl, rfl⟩
  · cases h

set_option maxRecDepth 20000 in
theorem m_Mo_strokesOfAll (l : Launch) : sv_M l yX12_strokesOfAll cX12_strokesOfAll 3 (some .int) (sv_gI n_Mo_strokesOfAll) 1 := by
  refine sv_mI (E := ev_Mo_strokesOfAll) (by decide +kernel) (ln_gen fk_12 kk_12 (sv_ns _ (fun _ => rfl) _)) ?_ a_Mo_strokesOfAll b_Mo_strokesOfAll
  intro p e R s m args below meth c cells slots Q base ad dC dI cA n0 S hkn hR hf pc n f h
  refine sv_lk_all (P := fun pc (x : Nat × sv_F) => sv_cok p l e R s m args below meth c cells slots Q base ad dC dI cA true 3 n0 pc x.1 x.2) ?_ pc (n, f) h
  exact List.forall_mem_cons.mpr ⟨(sv_cV S hkn (m_Mo_of l) ⟨Nat.le_trans (by decide) hR.1, Nat.le_trans (by decide) hR.2⟩ (by decide) hf rfl g_Mo_of (sv_w5 tw_1120 tw_1122 tw_10 tw_65 tw_1123) (by decide +kernel) (sv_dc3 d_Mo_strokesOfAll (pc := 18) rfl rfl)).I,
      fun _ h => absurd h List.not_mem_nil⟩
noncomputable def f_Mo_fine (σ : sv_S) : Option (Int32 × sv_S) :=
  sv_b (f_Mo_counts (2 : Int32) σ) (fun v1 σ2 =>
    sv_if (0 ≤ v1)
      (sv_b (f_Mo_strokesOfAll σ2) (fun v3 σ4 =>
        sv_g (sv_in (109 : Int32) 128) (sv_g (sv_in (3 : Int32) 3086) (sv_g (sv_in (98 : Int32) 128) (sv_b (f_Mo_worked v1 (sv_up (sv_up σ4 31 28 ((109 : Int32).toNatClampNeg) v3) 31 28 ((98 : Int32).toNatClampNeg) ((sv_up σ4 31 28 ((109 : Int32).toNatClampNeg) v3) 31 0 ((3 : Int32).toNatClampNeg)))) (fun v5 σ6 =>
          some (v5, σ6)))))))
      (sv_b (f_Mo_strokesOfAll σ2) (fun v7 σ8 =>
        some (v7, σ8))))
noncomputable def n_Mo_fine : List sv_V → sv_S → Option (Int32 × sv_S)
  | [.inr (.inr (some (30, 0)))], σ => f_Mo_fine σ
  | _, _ => none
def cd_Mo_fine : sv_C := [(0, (.aload_n 0, (sv_N, (1, (0, []))))), (1, (.iconst 2, (.inl (2 : Int32), (2, (0, []))))), (2, (.invokevirtual 101, (sv_N, (5, (0, []))))), (5, (.istore_n 1, (sv_N, (6, (0, []))))), (6, (.iload_n 1, (sv_N, (7, (0, []))))), (7, (.ifCond .ge 8, (sv_N, (10, (15, []))))), (10, (.aload_n 0, (sv_N, (11, (0, []))))), (11, (.invokevirtual 194, (sv_N, (14, (0, []))))), (14, (.ireturn, (sv_N, (15, (0, []))))), (15, (.aload_n 0, (sv_N, (16, (0, []))))), (16, (.getfield 55, (sv_N, (19, (0, []))))), (19, (.bipush 109, (.inl (109 : Int32), (21, (0, []))))), (21, (.aload_n 0, (sv_N, (22, (0, []))))), (22, (.invokevirtual 194, (sv_N, (25, (0, []))))), (25, (.iastore, (sv_N, (26, (0, []))))), (26, (.aload_n 0, (sv_N, (27, (0, []))))), (27, (.getfield 55, (sv_N, (30, (0, []))))), (30, (.bipush 98, (.inl (98 : Int32), (32, (0, []))))), (32, (.aload_n 0, (sv_N, (33, (0, []))))), (33, (.getfield 7, (sv_N, (36, (0, []))))), (36, (.iconst 3, (.inl (3 : Int32), (37, (0, []))))), (37, (.iaload, (sv_N, (38, (0, []))))), (38, (.iastore, (sv_N, (39, (0, []))))), (39, (.aload_n 0, (sv_N, (40, (0, []))))), (40, (.iload_n 1, (sv_N, (41, (0, []))))), (41, (.invokevirtual 107, (sv_N, (44, (0, []))))), (44, (.ireturn, (sv_N, (45, (0, [])))))]
noncomputable def ev_Mo_fine : sv_E := (fun i => sv_lk i fl_12, (fun i => sv_lk i kc_12, (fun _ => false, (true, fun pc => sv_lk pc [(2, (2, .inl n_Mo_counts)), (11, (1, .inl n_Mo_strokesOfAll)), (22, (1, .inl n_Mo_strokesOfAll)), (41, (2, .inl n_Mo_worked))]))))
noncomputable def kk_Mo_fine : sv_K (Int32 × sv_S) := fun pc => sv_lk pc []
set_option maxRecDepth 20000 in
theorem e_Mo_fine (σ : sv_S) : sv_ex ev_Mo_fine sv_rI kk_Mo_fine cd_Mo_fine 29 0 [some (.inr (.inr (some (30, 0)))), none] [] σ = f_Mo_fine σ := by
  unfold f_Mo_fine
  delta ev_Mo_fine kk_Mo_fine n_Mo_counts n_Mo_strokesOfAll n_Mo_worked
  generalize f_Mo_counts = c0
  generalize f_Mo_strokesOfAll = c1
  generalize f_Mo_worked = c2
  rfl
theorem d_Mo_fine : cd_Mo_fine.all (sv_dk cX12_fine) = true := by decide +kernel
set_option maxRecDepth 20000 in
theorem b_Mo_fine (Γ : sv_Ga) (res : Int32 × sv_S) (X : sv_Ok Γ ev_Mo_fine cX12_fine sv_rI res) (as : List sv_V) (σ : sv_S) (h : n_Mo_fine as σ = some res) : sv_T Γ 0 (sv_e0 2 as) [] σ := by
  unfold n_Mo_fine at h
  split at h
  · refine sv_run X d_Mo_fine (K := kk_Mo_fine) (sv_lk_all (P := fun pc (k : sv_Lo → List sv_V → sv_S → Option (Int32 × sv_S)) => ∀ lo st σ, k lo st σ = some res → sv_T Γ pc lo st σ) ?_) _ _ _ _ _ ((e_Mo_fine _).trans h)
    clear h
    exact fun _ h => absurd h List.not_mem_nil
  · cases h
theorem a_Mo_fine (as : List sv_V) (σ : sv_S) (x : Int32 × sv_S) (h : n_Mo_fine as σ = some x) : sv_args 2 ev_Mo_fine.2.2.2.1 as := by
  unfold n_Mo_fine at h
  split at h
  · exact ⟨Nat.le_of_ble_eq_true rfl, fun _ v hv => by
      simp only [List.mem_cons, List.not_mem_nil, or_false] at hv
      rcases hv with rfl <;> trivial⟩
  · cases h
theorem g_Mo_fine (as : List sv_V) (σ : sv_S) (x : Option sv_V × sv_S) (h : sv_gI n_Mo_fine as σ = some x) : ∃ r i as', as = sv_R r i :: as' ∧ sv_kd r i = .inl 12 := by
  obtain ⟨_, _, h, -⟩ := sv_b_some h
  unfold n_Mo_fine at h
  split at h
  · exact ⟨_, _, _, rfl, rfl⟩
  · cases h
theorem tw_32 : Cond.selects RX12 yX12_strokesOfAll yX12_strokesOfAll ∈ gw_tbl := gw_at 32 (by decide +kernel) rfl
theorem tw_1310 : Cond.methodLink RX12 194 yX12_strokesOfAll ∈ gw_tbl := gw_at 1310 (by decide +kernel) rfl
theorem tw_1312 : Cond.instanceMethod yX12_strokesOfAll ∈ gw_tbl := gw_at 1312 (by decide +kernel) rfl
theorem tw_1313 : Cond.code yX12_strokesOfAll cX12_strokesOfAll 3 (some .int) ∈ gw_tbl := gw_at 1313 (by decide +kernel) rfl
set_option maxRecDepth 20000 in
theorem m_Mo_fine (l : Launch) : sv_M l yX12_fine cX12_fine 2 (some .int) (sv_gI n_Mo_fine) 2 := by
  refine sv_mI (E := ev_Mo_fine) (by decide +kernel) (ln_gen fk_12 kk_12 (sv_ns _ (fun _ => rfl) _)) ?_ a_Mo_fine b_Mo_fine
  intro p e R s m args below meth c cells slots Q base ad dC dI cA n0 S hkn hR hf pc n f h
  refine sv_lk_all (P := fun pc (x : Nat × sv_F) => sv_cok p l e R s m args below meth c cells slots Q base ad dC dI cA true 2 n0 pc x.1 x.2) ?_ pc (n, f) h
  exact List.forall_mem_cons.mpr ⟨(sv_cV S hkn (m_Mo_counts l) ⟨Nat.le_trans (by decide) hR.1, Nat.le_trans (by decide) hR.2⟩ (by decide) hf rfl g_Mo_counts (sv_w5 tw_1137 tw_1139 tw_14 tw_65 tw_1140) (by decide +kernel) (sv_dc3 d_Mo_fine (pc := 2) rfl rfl)).I,
      List.forall_mem_cons.mpr ⟨(sv_cV S hkn (m_Mo_strokesOfAll l) ⟨Nat.le_trans (by decide) hR.1, Nat.le_trans (by decide) hR.2⟩ (by decide) hf rfl g_Mo_strokesOfAll (sv_w5 tw_1310 tw_1312 tw_32 tw_65 tw_1313) (by decide +kernel) (sv_dc3 d_Mo_fine (pc := 11) rfl rfl)).I,
      List.forall_mem_cons.mpr ⟨(sv_cV S hkn (m_Mo_strokesOfAll l) ⟨Nat.le_trans (by decide) hR.1, Nat.le_trans (by decide) hR.2⟩ (by decide) hf rfl g_Mo_strokesOfAll (sv_w5 tw_1310 tw_1312 tw_32 tw_65 tw_1313) (by decide +kernel) (sv_dc3 d_Mo_fine (pc := 22) rfl rfl)).I,
      List.forall_mem_cons.mpr ⟨(sv_cV S hkn (m_Mo_worked l) ⟨Nat.le_trans (by decide) hR.1, Nat.le_trans (by decide) hR.2⟩ (by decide) hf rfl g_Mo_worked (sv_w5 tw_1149 tw_1151 tw_17 tw_65 tw_1152) (by decide +kernel) (sv_dc3 d_Mo_fine (pc := 41) rfl rfl)).I,
      fun _ h => absurd h List.not_mem_nil⟩⟩⟩⟩
noncomputable def f_Mo_feed_47 (k18 : Int32 → Int32 → Int32 → Int32 → sv_S → Option (Int32 × sv_S)) (x1 : Int32) (x2 : Int32) (x3 : Int32) (x4 : Int32) (y0 : Int32) (σ : sv_S) : Option (Int32 × sv_S) :=
    sv_g (¬ (4 : Int32) = 0) (sv_g (sv_in (σ 30 0 17) 96) (let σ1 := sv_up (sv_up σ 31 16 ((σ 30 0 17).toNatClampNeg) ((y0 >>> (((24 : Int32) - ((8 : Int32) * (x4 - x4 / (4 : Int32) * (4 : Int32)))) &&& 31)) &&& (255 : Int32))) 30 0 17 (((sv_up σ 31 16 ((σ 30 0 17).toNatClampNeg) ((y0 >>> (((24 : Int32) - ((8 : Int32) * (x4 - x4 / (4 : Int32) * (4 : Int32)))) &&& 31)) &&& (255 : Int32))) 30 0 17) + (1 : Int32))
    k18 x1 x2 x3 (x4 + (1 : Int32)) σ1))
noncomputable def f_Mo_feed_18 : Nat → Int32 → Int32 → Int32 → Int32 → sv_S → Option (Int32 × sv_S)
  | 0, _, _, _, _, _ => none
  | n + 1, x1, x2, x3, x4, σ =>
    sv_if ((12 : Int32) ≤ x4)
      (some (σ 30 0 17, σ))
      (sv_if ((4 : Int32) ≤ x4)
        (sv_if ((8 : Int32) ≤ x4)
          (f_Mo_feed_47 (f_Mo_feed_18 n) x1 x2 x3 x4 x3 σ)
          (f_Mo_feed_47 (f_Mo_feed_18 n) x1 x2 x3 x4 x2 σ))
        (f_Mo_feed_47 (f_Mo_feed_18 n) x1 x2 x3 x4 x1 σ))
noncomputable def f_Mo_feed (a1 : Int32) (a2 : Int32) (a3 : Int32) (σ : sv_S) : Option (Int32 × sv_S) :=
  sv_if (((σ 30 0 17) + (12 : Int32)) ≤ (96 : Int32))
    (f_Mo_feed_18 sv_fu a1 a2 a3 (0 : Int32) σ)
    (some ((-1000000003 : Int32), σ))
noncomputable def n_Mo_feed : List sv_V → sv_S → Option (Int32 × sv_S)
  | [.inr (.inr (some (30, 0))), .inl a1, .inl a2, .inl a3], σ => f_Mo_feed a1 a2 a3 σ
  | _, _ => none
def cd_Mo_feed : sv_C := [(0, (.aload_n 0, (sv_N, (1, (0, []))))), (1, (.getfield 197, (sv_N, (4, (0, []))))), (4, (.bipush 12, (.inl (12 : Int32), (6, (0, []))))), (6, (.iadd, (sv_N, (7, (0, []))))), (7, (.bipush 96, (.inl (96 : Int32), (9, (0, []))))), (9, (.if_icmp .le 6, (sv_N, (12, (15, []))))), (12, (.ldc 85, (sv_N, (14, (0, []))))), (14, (.ireturn, (sv_N, (15, (0, []))))), (15, (.iconst 0, (.inl (0 : Int32), (16, (0, []))))), (16, (.istore 4, (sv_N, (18, (0, []))))), (18, (.iload 4, (sv_N, (20, (0, []))))), (20, (.bipush 12, (.inl (12 : Int32), (22, (0, []))))), (22, (.if_icmp .ge 69, (sv_N, (25, (91, []))))), (25, (.iload 4, (sv_N, (27, (0, []))))), (27, (.iconst 4, (.inl (4 : Int32), (28, (0, []))))), (28, (.if_icmp .ge 7, (sv_N, (31, (35, []))))), (31, (.iload_n 1, (sv_N, (32, (0, []))))), (32, (.goto 15, (sv_N, (35, (47, []))))), (35, (.iload 4, (sv_N, (37, (0, []))))), (37, (.bipush 8, (.inl (8 : Int32), (39, (0, []))))), (39, (.if_icmp .ge 7, (sv_N, (42, (46, []))))), (42, (.iload_n 2, (sv_N, (43, (0, []))))), (43, (.goto 4, (sv_N, (46, (47, []))))), (46, (.iload_n 3, (sv_N, (47, (0, []))))), (47, (.istore 5, (sv_N, (49, (0, []))))), (49, (.aload_n 0, (sv_N, (50, (0, []))))), (50, (.getfield 52, (sv_N, (53, (0, []))))), (53, (.aload_n 0, (sv_N, (54, (0, []))))), (54, (.getfield 197, (sv_N, (57, (0, []))))), (57, (.iload 5, (sv_N, (59, (0, []))))), (59, (.bipush 24, (.inl (24 : Int32), (61, (0, []))))), (61, (.bipush 8, (.inl (8 : Int32), (63, (0, []))))), (63, (.iload 4, (sv_N, (65, (0, []))))), (65, (.iconst 4, (.inl (4 : Int32), (66, (0, []))))), (66, (.irem, (sv_N, (67, (0, []))))), (67, (.imul, (sv_N, (68, (0, []))))), (68, (.isub, (sv_N, (69, (0, []))))), (69, (.ishr, (sv_N, (70, (0, []))))), (70, (.sipush 255, (.inl (255 : Int32), (73, (0, []))))), (73, (.iand, (sv_N, (74, (0, []))))), (74, (.iastore, (sv_N, (75, (0, []))))), (75, (.aload_n 0, (sv_N, (76, (0, []))))), (76, (.dup, (sv_N, (77, (0, []))))), (77, (.getfield 197, (sv_N, (80, (0, []))))), (80, (.iconst 1, (.inl (1 : Int32), (81, (0, []))))), (81, (.iadd, (sv_N, (82, (0, []))))), (82, (.putfield 197, (sv_N, (85, (0, []))))), (85, (.iinc 4 1, (.inl (1 : Int32), (88, (0, []))))), (88, (.goto (-70), (sv_N, (91, (18, []))))), (91, (.aload_n 0, (sv_N, (92, (0, []))))), (92, (.getfield 197, (sv_N, (95, (0, []))))), (95, (.ireturn, (sv_N, (96, (0, [])))))]
noncomputable def ev_Mo_feed : sv_E := (fun i => sv_lk i fl_12, (fun i => sv_lk i kc_12, (fun _ => false, (true, fun pc => sv_lk pc []))))
noncomputable def kk_Mo_feed_47 (k18 : Int32 → Int32 → Int32 → Int32 → sv_S → Option (Int32 × sv_S)) : sv_K (Int32 × sv_S) := fun pc => sv_lk pc [(18, fun lo st σ => match lo, st with
    | [some (.inr (.inr (some (30, 0)))), some (.inl x1), some (.inl x2), some (.inl x3), some (.inl x4), _], [] => k18 x1 x2 x3 x4 σ
    | _, _ => none)]
set_option maxRecDepth 20000 in
theorem e_Mo_feed_47 (k18 : Int32 → Int32 → Int32 → Int32 → sv_S → Option (Int32 × sv_S)) (x1 : Int32) (x2 : Int32) (x3 : Int32) (x4 : Int32) (y0 : Int32) (z5 : Option sv_V) (σ : sv_S) : sv_ex ev_Mo_feed sv_rI (kk_Mo_feed_47 k18) cd_Mo_feed 54 47 [some (.inr (.inr (some (30, 0)))), some (.inl x1), some (.inl x2), some (.inl x3), some (.inl x4), z5] [.inl y0] σ = f_Mo_feed_47 k18 x1 x2 x3 x4 y0 σ := by
  unfold f_Mo_feed_47
  delta ev_Mo_feed kk_Mo_feed_47
  generalize f_Mo_feed_18 = c0
  rfl
noncomputable def kk_Mo_feed_18 (n : Nat) : sv_K (Int32 × sv_S) := fun pc => sv_lk pc [(47, fun lo st σ => match lo, st with
    | [some (.inr (.inr (some (30, 0)))), some (.inl x1), some (.inl x2), some (.inl x3), some (.inl x4), _], [.inl y0] => f_Mo_feed_47 (f_Mo_feed_18 n) x1 x2 x3 x4 y0 σ
    | _, _ => none)]
set_option maxRecDepth 20000 in
theorem e_Mo_feed_18 (n : Nat) (x1 : Int32) (x2 : Int32) (x3 : Int32) (x4 : Int32) (z5 : Option sv_V) (σ : sv_S) : sv_ex ev_Mo_feed sv_rI (kk_Mo_feed_18 n) cd_Mo_feed 54 18 [some (.inr (.inr (some (30, 0)))), some (.inl x1), some (.inl x2), some (.inl x3), some (.inl x4), z5] [] σ = f_Mo_feed_18 (n + 1) x1 x2 x3 x4 σ := by
  rw [f_Mo_feed_18.eq_2]
  delta ev_Mo_feed kk_Mo_feed_18
  generalize f_Mo_feed_47 = c0
  generalize f_Mo_feed_18 = c1
  rfl
noncomputable def kk_Mo_feed : sv_K (Int32 × sv_S) := fun pc => sv_lk pc [(18, fun lo st σ => match lo, st with
    | [some (.inr (.inr (some (30, 0)))), some (.inl x1), some (.inl x2), some (.inl x3), some (.inl x4), _], [] => f_Mo_feed_18 sv_fu x1 x2 x3 x4 σ
    | _, _ => none)]
set_option maxRecDepth 20000 in
theorem e_Mo_feed (a1 : Int32) (a2 : Int32) (a3 : Int32) (σ : sv_S) : sv_ex ev_Mo_feed sv_rI kk_Mo_feed cd_Mo_feed 54 0 [some (.inr (.inr (some (30, 0)))), some (.inl a1), some (.inl a2), some (.inl a3), none, none] [] σ = f_Mo_feed a1 a2 a3 σ := by
  unfold f_Mo_feed
  delta ev_Mo_feed kk_Mo_feed
  generalize f_Mo_feed_18 = c0
  rfl
theorem d_Mo_feed : cd_Mo_feed.all (sv_dk cX12_feed) = true := by decide +kernel
set_option maxRecDepth 20000 in
theorem w_Mo_feed_47 {Γ : sv_Ga} {res : Int32 × sv_S} (X : sv_Ok Γ ev_Mo_feed cX12_feed sv_rI res) (k18 : Int32 → Int32 → Int32 → Int32 → sv_S → Option (Int32 × sv_S)) (h18 : ∀ (x1 : Int32) (x2 : Int32) (x3 : Int32) (x4 : Int32) (z5 : Option sv_V) (σ : sv_S), k18 x1 x2 x3 x4 σ = some res → sv_T Γ 18 [some (.inr (.inr (some (30, 0)))), some (.inl x1), some (.inl x2), some (.inl x3), some (.inl x4), z5] [] σ) : ∀ (x1 : Int32) (x2 : Int32) (x3 : Int32) (x4 : Int32) (y0 : Int32) (z5 : Option sv_V) (σ : sv_S), f_Mo_feed_47 k18 x1 x2 x3 x4 y0 σ = some res → sv_T Γ 47 [some (.inr (.inr (some (30, 0)))), some (.inl x1), some (.inl x2), some (.inl x3), some (.inl x4), z5] [.inl y0] σ := by
  intro x1 x2 x3 x4 y0 z5 σ h
  refine sv_run X d_Mo_feed (K := kk_Mo_feed_47 k18) (sv_lk_all (P := fun pc (k : sv_Lo → List sv_V → sv_S → Option (Int32 × sv_S)) => ∀ lo st σ, k lo st σ = some res → sv_T Γ pc lo st σ) ?_) _ _ _ _ _ ((e_Mo_feed_47 k18 x1 x2 x3 x4 y0 z5 σ).trans h)
  clear h
  refine List.forall_mem_cons.mpr ⟨fun lo st σ h => ?_, fun _ h => absurd h List.not_mem_nil⟩
  · dsimp only at h
    split at h
    · exact h18 _ _ _ _ _ _ h
    · cases h

set_option maxRecDepth 20000 in
theorem w_Mo_feed_18 {Γ : sv_Ga} {res : Int32 × sv_S} (X : sv_Ok Γ ev_Mo_feed cX12_feed sv_rI res) : ∀ (n : Nat) (x1 : Int32) (x2 : Int32) (x3 : Int32) (x4 : Int32) (z5 : Option sv_V) (σ : sv_S), f_Mo_feed_18 n x1 x2 x3 x4 σ = some res → sv_T Γ 18 [some (.inr (.inr (some (30, 0)))), some (.inl x1), some (.inl x2), some (.inl x3), some (.inl x4), z5] [] σ := by
  intro n
  induction n with
  | zero =>
    intro x1 x2 x3 x4 z5 σ h
    rw [f_Mo_feed_18.eq_1] at h
    cases h
  | succ n ih =>
    intro x1 x2 x3 x4 z5 σ h
    refine sv_run X d_Mo_feed (K := kk_Mo_feed_18 n) (sv_lk_all (P := fun pc (k : sv_Lo → List sv_V → sv_S → Option (Int32 × sv_S)) => ∀ lo st σ, k lo st σ = some res → sv_T Γ pc lo st σ) ?_) _ _ _ _ _ ((e_Mo_feed_18 n x1 x2 x3 x4 z5 σ).trans h)
    clear h
    refine List.forall_mem_cons.mpr ⟨fun lo st σ h => ?_, fun _ h => absurd h List.not_mem_nil⟩
    · dsimp only at h
      split at h
      · exact w_Mo_feed_47 X _ ih _ _ _ _ _ _ _ h
      · cases h

set_option maxRecDepth 20000 in
theorem b_Mo_feed (Γ : sv_Ga) (res : Int32 × sv_S) (X : sv_Ok Γ ev_Mo_feed cX12_feed sv_rI res) (as : List sv_V) (σ : sv_S) (h : n_Mo_feed as σ = some res) : sv_T Γ 0 (sv_e0 6 as) [] σ := by
  unfold n_Mo_feed at h
  split at h
  · refine sv_run X d_Mo_feed (K := kk_Mo_feed) (sv_lk_all (P := fun pc (k : sv_Lo → List sv_V → sv_S → Option (Int32 × sv_S)) => ∀ lo st σ, k lo st σ = some res → sv_T Γ pc lo st σ) ?_) _ _ _ _ _ ((e_Mo_feed _ _ _ _).trans h)
    clear h
    refine List.forall_mem_cons.mpr ⟨fun lo st σ h => ?_, fun _ h => absurd h List.not_mem_nil⟩
    · dsimp only at h
      split at h
      · exact w_Mo_feed_18 X _ _ _ _ _ _ _ h
      · cases h
  · cases h
theorem a_Mo_feed (as : List sv_V) (σ : sv_S) (x : Int32 × sv_S) (h : n_Mo_feed as σ = some x) : sv_args 6 ev_Mo_feed.2.2.2.1 as := by
  unfold n_Mo_feed at h
  split at h
  · exact ⟨Nat.le_of_ble_eq_true rfl, fun _ v hv => by
      simp only [List.mem_cons, List.not_mem_nil, or_false] at hv
      rcases hv with rfl | rfl | rfl | rfl <;> trivial⟩
  · cases h
theorem g_Mo_feed (as : List sv_V) (σ : sv_S) (x : Option sv_V × sv_S) (h : sv_gI n_Mo_feed as σ = some x) : ∃ r i as', as = sv_R r i :: as' ∧ sv_kd r i = .inl 12 := by
  obtain ⟨_, _, h, -⟩ := sv_b_some h
  unfold n_Mo_feed at h
  split at h
  · exact ⟨_, _, _, rfl, rfl⟩
  · cases h

set_option maxRecDepth 20000 in
theorem m_Mo_feed (l : Launch) : sv_M l yX12_feed cX12_feed 6 (some .int) (sv_gI n_Mo_feed) 0 := by
  refine sv_mI (E := ev_Mo_feed) (by decide +kernel) (ln_gen fk_12 kk_12 (sv_ns _ (fun _ => rfl) _)) ?_ a_Mo_feed b_Mo_feed
  intro p e R s m args below meth c cells slots Q base ad dC dI cA n0 S hkn hR hf pc n f h
  refine sv_lk_all (P := fun pc (x : Nat × sv_F) => sv_cok p l e R s m args below meth c cells slots Q base ad dC dI cA true 6 n0 pc x.1 x.2) ?_ pc (n, f) h
  exact fun _ h => absurd h List.not_mem_nil
noncomputable def f_Mo_trim (a1 : Int32) (σ : sv_S) : Option (Int32 × sv_S) :=
  sv_b (f_Mo_isIn (a1.toInt64) (0 : Int64) ((σ 30 0 17).toInt64) σ) (fun v1 σ2 =>
    sv_if (v1 = 0)
      (some ((-1000000001 : Int32), σ2))
      (let σ3 := sv_up σ2 30 0 17 a1
      some (a1, σ3)))
noncomputable def n_Mo_trim : List sv_V → sv_S → Option (Int32 × sv_S)
  | [.inr (.inr (some (30, 0))), .inl a1], σ => f_Mo_trim a1 σ
  | _, _ => none
def cd_Mo_trim : sv_C := [(0, (.iload_n 1, (sv_N, (1, (0, []))))), (1, (.i2l, (sv_N, (2, (0, []))))), (2, (.lconst 0, (.inr (.inl (0 : Int64)), (3, (0, []))))), (3, (.aload_n 0, (sv_N, (4, (0, []))))), (4, (.getfield 197, (sv_N, (7, (0, []))))), (7, (.i2l, (sv_N, (8, (0, []))))), (8, (.invokestatic 71, (sv_N, (11, (0, []))))), (11, (.ifCond .ne 6, (sv_N, (14, (17, []))))), (14, (.ldc 84, (sv_N, (16, (0, []))))), (16, (.ireturn, (sv_N, (17, (0, []))))), (17, (.aload_n 0, (sv_N, (18, (0, []))))), (18, (.iload_n 1, (sv_N, (19, (0, []))))), (19, (.putfield 197, (sv_N, (22, (0, []))))), (22, (.iload_n 1, (sv_N, (23, (0, []))))), (23, (.ireturn, (sv_N, (24, (0, [])))))]
noncomputable def ev_Mo_trim : sv_E := (fun i => sv_lk i fl_12, (fun i => sv_lk i kc_12, (fun _ => false, (true, fun pc => sv_lk pc [(8, (3, .inl n_Mo_isIn))]))))
noncomputable def kk_Mo_trim : sv_K (Int32 × sv_S) := fun pc => sv_lk pc []
set_option maxRecDepth 20000 in
theorem e_Mo_trim (a1 : Int32) (σ : sv_S) : sv_ex ev_Mo_trim sv_rI kk_Mo_trim cd_Mo_trim 17 0 [some (.inr (.inr (some (30, 0)))), some (.inl a1)] [] σ = f_Mo_trim a1 σ := by
  unfold f_Mo_trim
  delta ev_Mo_trim kk_Mo_trim n_Mo_isIn
  generalize f_Mo_isIn = c0
  rfl
theorem d_Mo_trim : cd_Mo_trim.all (sv_dk cX12_trim) = true := by decide +kernel
set_option maxRecDepth 20000 in
theorem b_Mo_trim (Γ : sv_Ga) (res : Int32 × sv_S) (X : sv_Ok Γ ev_Mo_trim cX12_trim sv_rI res) (as : List sv_V) (σ : sv_S) (h : n_Mo_trim as σ = some res) : sv_T Γ 0 (sv_e0 2 as) [] σ := by
  unfold n_Mo_trim at h
  split at h
  · refine sv_run X d_Mo_trim (K := kk_Mo_trim) (sv_lk_all (P := fun pc (k : sv_Lo → List sv_V → sv_S → Option (Int32 × sv_S)) => ∀ lo st σ, k lo st σ = some res → sv_T Γ pc lo st σ) ?_) _ _ _ _ _ ((e_Mo_trim _ _).trans h)
    clear h
    exact fun _ h => absurd h List.not_mem_nil
  · cases h
theorem a_Mo_trim (as : List sv_V) (σ : sv_S) (x : Int32 × sv_S) (h : n_Mo_trim as σ = some x) : sv_args 2 ev_Mo_trim.2.2.2.1 as := by
  unfold n_Mo_trim at h
  split at h
  · exact ⟨Nat.le_of_ble_eq_true rfl, fun _ v hv => by
      simp only [List.mem_cons, List.not_mem_nil, or_false] at hv
      rcases hv with rfl | rfl <;> trivial⟩
  · cases h
theorem g_Mo_trim (as : List sv_V) (σ : sv_S) (x : Option sv_V × sv_S) (h : sv_gI n_Mo_trim as σ = some x) : ∃ r i as', as = sv_R r i :: as' ∧ sv_kd r i = .inl 12 := by
  obtain ⟨_, _, h, -⟩ := sv_b_some h
  unfold n_Mo_trim at h
  split at h
  · exact ⟨_, _, _, rfl, rfl⟩
  · cases h

set_option maxRecDepth 20000 in
theorem m_Mo_trim (l : Launch) : sv_M l yX12_trim cX12_trim 2 (some .int) (sv_gI n_Mo_trim) 1 := by
  refine sv_mI (E := ev_Mo_trim) (by decide +kernel) (ln_gen fk_12 kk_12 (sv_ns _ (fun _ => rfl) _)) ?_ a_Mo_trim b_Mo_trim
  intro p e R s m args below meth c cells slots Q base ad dC dI cA n0 S hkn hR hf pc n f h
  refine sv_lk_all (P := fun pc (x : Nat × sv_F) => sv_cok p l e R s m args below meth c cells slots Q base ad dC dI cA true 2 n0 pc x.1 x.2) ?_ pc (n, f) h
  exact List.forall_mem_cons.mpr ⟨(sv_cS S hkn (m_Mo_isIn l) ⟨Nat.le_trans (by decide) hR.1, Nat.le_trans (by decide) hR.2⟩ (by decide) hf (sv_w4 tw_1098 tw_1099 tw_65 tw_1100) (by decide +kernel) (sv_dc3 d_Mo_trim (pc := 8) rfl rfl)).I,
      fun _ h => absurd h List.not_mem_nil⟩
noncomputable def f_Mo_isLetter (a1 : Int32) (σ : sv_S) : Option (Int32 × sv_S) :=
  sv_if ((σ 30 0 17) ≤ a1)
    (sv_g ((0 : Int32) = 0 ∨ (0 : Int32) = 1) (some ((0 : Int32), σ)))
    (sv_g (sv_in a1 96) (sv_b (f_Mo_isIn ((σ 31 16 (a1.toNatClampNeg)).toInt64) (97 : Int64) (122 : Int64) σ) (fun v1 σ2 =>
      sv_if (v1 = 0)
        (sv_g ((0 : Int32) = 0 ∨ (0 : Int32) = 1) (some ((0 : Int32), σ2)))
        (sv_g ((1 : Int32) = 0 ∨ (1 : Int32) = 1) (some ((1 : Int32), σ2))))))
noncomputable def n_Mo_isLetter : List sv_V → sv_S → Option (Int32 × sv_S)
  | [.inr (.inr (some (30, 0))), .inl a1], σ => f_Mo_isLetter a1 σ
  | _, _ => none
def cd_Mo_isLetter : sv_C := [(0, (.iload_n 1, (sv_N, (1, (0, []))))), (1, (.aload_n 0, (sv_N, (2, (0, []))))), (2, (.getfield 197, (sv_N, (5, (0, []))))), (5, (.if_icmp .ge 26, (sv_N, (8, (31, []))))), (8, (.aload_n 0, (sv_N, (9, (0, []))))), (9, (.getfield 52, (sv_N, (12, (0, []))))), (12, (.iload_n 1, (sv_N, (13, (0, []))))), (13, (.iaload, (sv_N, (14, (0, []))))), (14, (.i2l, (sv_N, (15, (0, []))))), (15, (.ldc2_w 200, (sv_N, (18, (0, []))))), (18, (.ldc2_w 202, (sv_N, (21, (0, []))))), (21, (.invokestatic 71, (sv_N, (24, (0, []))))), (24, (.ifCond .eq 7, (sv_N, (27, (31, []))))), (27, (.iconst 1, (.inl (1 : Int32), (28, (0, []))))), (28, (.goto 4, (sv_N, (31, (32, []))))), (31, (.iconst 0, (.inl (0 : Int32), (32, (0, []))))), (32, (.ireturn, (sv_N, (33, (0, [])))))]
noncomputable def ev_Mo_isLetter : sv_E := (fun i => sv_lk i fl_12, (fun i => sv_lk i kc_12, (fun _ => false, (true, fun pc => sv_lk pc [(21, (3, .inl n_Mo_isIn))]))))
noncomputable def kk_Mo_isLetter : sv_K (Int32 × sv_S) := fun pc => sv_lk pc []
set_option maxRecDepth 20000 in
theorem e_Mo_isLetter (a1 : Int32) (σ : sv_S) : sv_ex ev_Mo_isLetter sv_rZ kk_Mo_isLetter cd_Mo_isLetter 19 0 [some (.inr (.inr (some (30, 0)))), some (.inl a1)] [] σ = f_Mo_isLetter a1 σ := by
  unfold f_Mo_isLetter
  delta ev_Mo_isLetter kk_Mo_isLetter n_Mo_isIn
  generalize f_Mo_isIn = c0
  rfl
theorem d_Mo_isLetter : cd_Mo_isLetter.all (sv_dk cX12_isLetter) = true := by decide +kernel
set_option maxRecDepth 20000 in
theorem b_Mo_isLetter (Γ : sv_Ga) (res : Int32 × sv_S) (X : sv_Ok Γ ev_Mo_isLetter cX12_isLetter sv_rZ res) (as : List sv_V) (σ : sv_S) (h : n_Mo_isLetter as σ = some res) : sv_T Γ 0 (sv_e0 2 as) [] σ := by
  unfold n_Mo_isLetter at h
  split at h
  · refine sv_run X d_Mo_isLetter (K := kk_Mo_isLetter) (sv_lk_all (P := fun pc (k : sv_Lo → List sv_V → sv_S → Option (Int32 × sv_S)) => ∀ lo st σ, k lo st σ = some res → sv_T Γ pc lo st σ) ?_) _ _ _ _ _ ((e_Mo_isLetter _ _).trans h)
    clear h
    exact fun _ h => absurd h List.not_mem_nil
  · cases h
theorem a_Mo_isLetter (as : List sv_V) (σ : sv_S) (x : Int32 × sv_S) (h : n_Mo_isLetter as σ = some x) : sv_args 2 ev_Mo_isLetter.2.2.2.1 as := by
  unfold n_Mo_isLetter at h
  split at h
  · exact ⟨Nat.le_of_ble_eq_true rfl, fun _ v hv => by
      simp only [List.mem_cons, List.not_mem_nil, or_false] at hv
      rcases hv with rfl | rfl <;> trivial⟩
  · cases h
theorem g_Mo_isLetter (as : List sv_V) (σ : sv_S) (x : Option sv_V × sv_S) (h : sv_gI n_Mo_isLetter as σ = some x) : ∃ r i as', as = sv_R r i :: as' ∧ sv_kd r i = .inl 12 := by
  obtain ⟨_, _, h, -⟩ := sv_b_some h
  unfold n_Mo_isLetter at h
  split at h
  · exact ⟨_, _, _, rfl, rfl⟩
  · cases h

set_option maxRecDepth 20000 in
theorem m_Mo_isLetter (l : Launch) : sv_M l yX12_isLetter cX12_isLetter 2 (some .boolean) (sv_gI n_Mo_isLetter) 1 := by
  refine sv_mZ (E := ev_Mo_isLetter) (by decide +kernel) (ln_gen fk_12 kk_12 (sv_ns _ (fun _ => rfl) _)) ?_ a_Mo_isLetter b_Mo_isLetter
  intro p e R s m args below meth c cells slots Q base ad dC dI cA n0 S hkn hR hf pc n f h
  refine sv_lk_all (P := fun pc (x : Nat × sv_F) => sv_cok p l e R s m args below meth c cells slots Q base ad dC dI cA true 2 n0 pc x.1 x.2) ?_ pc (n, f) h
  exact List.forall_mem_cons.mpr ⟨(sv_cS S hkn (m_Mo_isIn l) ⟨Nat.le_trans (by decide) hR.1, Nat.le_trans (by decide) hR.2⟩ (by decide) hf (sv_w4 tw_1098 tw_1099 tw_65 tw_1100) (by decide +kernel) (sv_dc3 d_Mo_isLetter (pc := 21) rfl rfl)).I,
      fun _ h => absurd h List.not_mem_nil⟩
noncomputable def f_Mo_isDigit (a1 : Int32) (σ : sv_S) : Option (Int32 × sv_S) :=
  sv_if ((σ 30 0 17) ≤ a1)
    (sv_g ((0 : Int32) = 0 ∨ (0 : Int32) = 1) (some ((0 : Int32), σ)))
    (sv_g (sv_in a1 96) (sv_b (f_Mo_isIn ((σ 31 16 (a1.toNatClampNeg)).toInt64) (48 : Int64) (57 : Int64) σ) (fun v1 σ2 =>
      sv_if (v1 = 0)
        (sv_g ((0 : Int32) = 0 ∨ (0 : Int32) = 1) (some ((0 : Int32), σ2)))
        (sv_g ((1 : Int32) = 0 ∨ (1 : Int32) = 1) (some ((1 : Int32), σ2))))))
noncomputable def n_Mo_isDigit : List sv_V → sv_S → Option (Int32 × sv_S)
  | [.inr (.inr (some (30, 0))), .inl a1], σ => f_Mo_isDigit a1 σ
  | _, _ => none
def cd_Mo_isDigit : sv_C := [(0, (.iload_n 1, (sv_N, (1, (0, []))))), (1, (.aload_n 0, (sv_N, (2, (0, []))))), (2, (.getfield 197, (sv_N, (5, (0, []))))), (5, (.if_icmp .ge 26, (sv_N, (8, (31, []))))), (8, (.aload_n 0, (sv_N, (9, (0, []))))), (9, (.getfield 52, (sv_N, (12, (0, []))))), (12, (.iload_n 1, (sv_N, (13, (0, []))))), (13, (.iaload, (sv_N, (14, (0, []))))), (14, (.i2l, (sv_N, (15, (0, []))))), (15, (.ldc2_w 204, (sv_N, (18, (0, []))))), (18, (.ldc2_w 206, (sv_N, (21, (0, []))))), (21, (.invokestatic 71, (sv_N, (24, (0, []))))), (24, (.ifCond .eq 7, (sv_N, (27, (31, []))))), (27, (.iconst 1, (.inl (1 : Int32), (28, (0, []))))), (28, (.goto 4, (sv_N, (31, (32, []))))), (31, (.iconst 0, (.inl (0 : Int32), (32, (0, []))))), (32, (.ireturn, (sv_N, (33, (0, [])))))]
noncomputable def ev_Mo_isDigit : sv_E := (fun i => sv_lk i fl_12, (fun i => sv_lk i kc_12, (fun _ => false, (true, fun pc => sv_lk pc [(21, (3, .inl n_Mo_isIn))]))))
noncomputable def kk_Mo_isDigit : sv_K (Int32 × sv_S) := fun pc => sv_lk pc []
set_option maxRecDepth 20000 in
theorem e_Mo_isDigit (a1 : Int32) (σ : sv_S) : sv_ex ev_Mo_isDigit sv_rZ kk_Mo_isDigit cd_Mo_isDigit 19 0 [some (.inr (.inr (some (30, 0)))), some (.inl a1)] [] σ = f_Mo_isDigit a1 σ := by
  unfold f_Mo_isDigit
  delta ev_Mo_isDigit kk_Mo_isDigit n_Mo_isIn
  generalize f_Mo_isIn = c0
  rfl
theorem d_Mo_isDigit : cd_Mo_isDigit.all (sv_dk cX12_isDigit) = true := by decide +kernel
set_option maxRecDepth 20000 in
theorem b_Mo_isDigit (Γ : sv_Ga) (res : Int32 × sv_S) (X : sv_Ok Γ ev_Mo_isDigit cX12_isDigit sv_rZ res) (as : List sv_V) (σ : sv_S) (h : n_Mo_isDigit as σ = some res) : sv_T Γ 0 (sv_e0 2 as) [] σ := by
  unfold n_Mo_isDigit at h
  split at h
  · refine sv_run X d_Mo_isDigit (K := kk_Mo_isDigit) (sv_lk_all (P := fun pc (k : sv_Lo → List sv_V → sv_S → Option (Int32 × sv_S)) => ∀ lo st σ, k lo st σ = some res → sv_T Γ pc lo st σ) ?_) _ _ _ _ _ ((e_Mo_isDigit _ _).trans h)
    clear h
    exact fun _ h => absurd h List.not_mem_nil
  · cases h
theorem a_Mo_isDigit (as : List sv_V) (σ : sv_S) (x : Int32 × sv_S) (h : n_Mo_isDigit as σ = some x) : sv_args 2 ev_Mo_isDigit.2.2.2.1 as := by
  unfold n_Mo_isDigit at h
  split at h
  · exact ⟨Nat.le_of_ble_eq_true rfl, fun _ v hv => by
      simp only [List.mem_cons, List.not_mem_nil, or_false] at hv
      rcases hv with rfl | rfl <;> trivial⟩
  · cases h
theorem g_Mo_isDigit (as : List sv_V) (σ : sv_S) (x : Option sv_V × sv_S) (h : sv_gI n_Mo_isDigit as σ = some x) : ∃ r i as', as = sv_R r i :: as' ∧ sv_kd r i = .inl 12 := by
  obtain ⟨_, _, h, -⟩ := sv_b_some h
  unfold n_Mo_isDigit at h
  split at h
  · exact ⟨_, _, _, rfl, rfl⟩
  · cases h

set_option maxRecDepth 20000 in
theorem m_Mo_isDigit (l : Launch) : sv_M l yX12_isDigit cX12_isDigit 2 (some .boolean) (sv_gI n_Mo_isDigit) 1 := by
  refine sv_mZ (E := ev_Mo_isDigit) (by decide +kernel) (ln_gen fk_12 kk_12 (sv_ns _ (fun _ => rfl) _)) ?_ a_Mo_isDigit b_Mo_isDigit
  intro p e R s m args below meth c cells slots Q base ad dC dI cA n0 S hkn hR hf pc n f h
  refine sv_lk_all (P := fun pc (x : Nat × sv_F) => sv_cok p l e R s m args below meth c cells slots Q base ad dC dI cA true 2 n0 pc x.1 x.2) ?_ pc (n, f) h
  exact List.forall_mem_cons.mpr ⟨(sv_cS S hkn (m_Mo_isIn l) ⟨Nat.le_trans (by decide) hR.1, Nat.le_trans (by decide) hR.2⟩ (by decide) hf (sv_w4 tw_1098 tw_1099 tw_65 tw_1100) (by decide +kernel) (sv_dc3 d_Mo_isDigit (pc := 21) rfl rfl)).I,
      fun _ h => absurd h List.not_mem_nil⟩
noncomputable def f_Mo_nextToken_300 (σ : sv_S) : Option (sv_S) :=
    let σ1 := sv_up σ 30 0 20 (4 : Int32)
    some σ1
noncomputable def f_Mo_nextToken_266 (k214 : Int32 → sv_S → Option (sv_S)) (x1 : Int32) (y0 : Int32) (σ : sv_S) : Option (sv_S) :=
    let σ1 := sv_up σ 30 0 21 y0
    let σ2 := sv_up σ1 30 0 19 ((σ1 30 0 19) + (1 : Int32))
    k214 x1 σ2
noncomputable def f_Mo_nextToken_214 : Nat → Int32 → sv_S → Option (sv_S)
  | 0, _, _ => none
  | n + 1, x1, σ =>
    sv_b (f_Mo_isDigit (σ 30 0 19) σ) (fun v1 σ2 =>
      sv_if (v1 = 0)
        (sv_if (x1 = 0)
          (sv_if (((σ2 30 0 19) - (σ2 30 0 18)) ≤ (4 : Int32))
            (let σ3 := sv_up σ2 30 0 20 (2 : Int32)
            some σ3)
            (f_Mo_nextToken_300 σ2))
          (f_Mo_nextToken_300 σ2))
        (sv_if ((4 : Int32) ≤ ((σ2 30 0 19) - (σ2 30 0 18)))
          (f_Mo_nextToken_266 (f_Mo_nextToken_214 n) x1 (σ2 30 0 21) σ2)
          (sv_g (sv_in (σ2 30 0 19) 96) (f_Mo_nextToken_266 (f_Mo_nextToken_214 n) x1 ((((10 : Int32) * (σ2 30 0 21)) + (σ2 31 16 ((σ2 30 0 19).toNatClampNeg))) - (48 : Int32)) σ2))))
noncomputable def f_Mo_nextToken_162 (y0 : Int32) (σ : sv_S) : Option (sv_S) :=
    let σ1 := sv_up σ 30 0 20 y0
    sv_if (((σ1 30 0 19) - (σ1 30 0 18)) = (1 : Int32))
      (sv_g (sv_in (σ1 30 0 18) 96) (let σ2 := sv_up σ1 30 0 22 (σ1 31 16 ((σ1 30 0 18).toNatClampNeg))
      some σ2))
      (let σ3 := sv_up σ1 30 0 22 (0 : Int32)
      some σ3)
noncomputable def f_Mo_nextToken_128 : Nat → Int32 → sv_S → Option (sv_S)
  | 0, _, _ => none
  | n + 1, x1, σ =>
    sv_b (f_Mo_isLetter (σ 30 0 19) σ) (fun v1 σ2 =>
      sv_if (v1 = 0)
        (sv_if (x1 = 0)
          (f_Mo_nextToken_162 (1 : Int32) σ2)
          (f_Mo_nextToken_162 (4 : Int32) σ2))
        (let σ3 := sv_up σ2 30 0 19 ((σ2 30 0 19) + (1 : Int32))
        f_Mo_nextToken_128 n x1 σ3))
noncomputable def f_Mo_nextToken_89 (y0 : Int32) (σ : sv_S) : Option (sv_S) :=
    let σ1 := sv_up σ 30 0 18 (σ 30 0 19)
    sv_if ((σ1 30 0 18) = (σ1 30 0 17))
      (let σ2 := sv_up σ1 30 0 20 (0 : Int32)
      some σ2)
      (sv_b (f_Mo_isLetter (σ1 30 0 18) σ1) (fun v3 σ4 =>
        sv_if (v3 = 0)
          (sv_b (f_Mo_isDigit (σ4 30 0 18) σ4) (fun v5 σ6 =>
            sv_if (v5 = 0)
              (let σ7 := sv_up σ6 30 0 20 (3 : Int32)
              sv_g (sv_in (σ7 30 0 18) 96) (let σ8 := sv_up σ7 30 0 22 (σ7 31 16 ((σ7 30 0 18).toNatClampNeg))
              let σ9 := sv_up σ8 30 0 19 ((σ8 30 0 19) + (1 : Int32))
              some σ9))
              (let σ10 := sv_up σ6 30 0 21 (0 : Int32)
              f_Mo_nextToken_214 sv_fu y0 σ10)))
          (f_Mo_nextToken_128 sv_fu y0 σ4)))
noncomputable def f_Mo_nextToken_72 (x1 : Int32) (x2 : Int32) (σ : sv_S) : Option (sv_S) :=
    sv_if (x1 = 0)
      (f_Mo_nextToken_89 (0 : Int32) σ)
      (sv_if (x2 = (σ 30 0 19))
        (f_Mo_nextToken_89 (1 : Int32) σ)
        (f_Mo_nextToken_89 (0 : Int32) σ))
noncomputable def f_Mo_nextToken_34 : Nat → Int32 → Int32 → sv_S → Option (sv_S)
  | 0, _, _, _ => none
  | n + 1, x1, x2, σ =>
    sv_if ((σ 30 0 17) ≤ (σ 30 0 19))
      (f_Mo_nextToken_72 x1 x2 σ)
      (sv_g (sv_in (σ 30 0 19) 96) (sv_if ((σ 31 16 ((σ 30 0 19).toNatClampNeg)) = (32 : Int32))
        (let σ1 := sv_up σ 30 0 19 ((σ 30 0 19) + (1 : Int32))
        f_Mo_nextToken_34 n x1 x2 σ1)
        (f_Mo_nextToken_72 x1 x2 σ)))
noncomputable def f_Mo_nextToken_27 (σ : sv_S) : Option (sv_S) :=
    f_Mo_nextToken_34 sv_fu (0 : Int32) (σ 30 0 19) σ
noncomputable def f_Mo_nextToken_23 (σ : sv_S) : Option (sv_S) :=
    f_Mo_nextToken_34 sv_fu (1 : Int32) (σ 30 0 19) σ
noncomputable def f_Mo_nextToken (σ : sv_S) : Option (sv_S) :=
  sv_if ((σ 30 0 19) ≤ 0)
    (f_Mo_nextToken_27 σ)
    (sv_if ((σ 30 0 20) = (1 : Int32))
      (f_Mo_nextToken_23 σ)
      (sv_if ((σ 30 0 20) = (2 : Int32))
        (f_Mo_nextToken_23 σ)
        (f_Mo_nextToken_27 σ)))
noncomputable def n_Mo_nextToken : List sv_V → sv_S → Option (sv_S)
  | [.inr (.inr (some (30, 0)))], σ => f_Mo_nextToken σ
  | _, _ => none
def cd_Mo_nextToken : sv_C := [(0, (.aload_n 0, (sv_N, (1, (0, []))))), (1, (.getfield 208, (sv_N, (4, (0, []))))), (4, (.ifCond .le 23, (sv_N, (7, (27, []))))), (7, (.aload_n 0, (sv_N, (8, (0, []))))), (8, (.getfield 211, (sv_N, (11, (0, []))))), (11, (.iconst 1, (.inl (1 : Int32), (12, (0, []))))), (12, (.if_icmp .eq 11, (sv_N, (15, (23, []))))), (15, (.aload_n 0, (sv_N, (16, (0, []))))), (16, (.getfield 211, (sv_N, (19, (0, []))))), (19, (.iconst 2, (.inl (2 : Int32), (20, (0, []))))), (20, (.if_icmp .ne 7, (sv_N, (23, (27, []))))), (23, (.iconst 1, (.inl (1 : Int32), (24, (0, []))))), (24, (.goto 4, (sv_N, (27, (28, []))))), (27, (.iconst 0, (.inl (0 : Int32), (28, (0, []))))), (28, (.istore_n 1, (sv_N, (29, (0, []))))), (29, (.aload_n 0, (sv_N, (30, (0, []))))), (30, (.getfield 208, (sv_N, (33, (0, []))))), (33, (.istore_n 2, (sv_N, (34, (0, []))))), (34, (.aload_n 0, (sv_N, (35, (0, []))))), (35, (.getfield 208, (sv_N, (38, (0, []))))), (38, (.aload_n 0, (sv_N, (39, (0, []))))), (39, (.getfield 197, (sv_N, (42, (0, []))))), (42, (.if_icmp .ge 30, (sv_N, (45, (72, []))))), (45, (.aload_n 0, (sv_N, (46, (0, []))))), (46, (.getfield 52, (sv_N, (49, (0, []))))), (49, (.aload_n 0, (sv_N, (50, (0, []))))), (50, (.getfield 208, (sv_N, (53, (0, []))))), (53, (.iaload, (sv_N, (54, (0, []))))), (54, (.bipush 32, (.inl (32 : Int32), (56, (0, []))))), (56, (.if_icmp .ne 16, (sv_N, (59, (72, []))))), (59, (.aload_n 0, (sv_N, (60, (0, []))))), (60, (.dup, (sv_N, (61, (0, []))))), (61, (.getfield 208, (sv_N, (64, (0, []))))), (64, (.iconst 1, (.inl (1 : Int32), (65, (0, []))))), (65, (.iadd, (sv_N, (66, (0, []))))), (66, (.putfield 208, (sv_N, (69, (0, []))))), (69, (.goto (-35), (sv_N, (72, (34, []))))), (72, (.iload_n 1, (sv_N, (73, (0, []))))), (73, (.ifCond .eq 15, (sv_N, (76, (88, []))))), (76, (.iload_n 2, (sv_N, (77, (0, []))))), (77, (.aload_n 0, (sv_N, (78, (0, []))))), (78, (.getfield 208, (sv_N, (81, (0, []))))), (81, (.if_icmp .ne 7, (sv_N, (84, (88, []))))), (84, (.iconst 1, (.inl (1 : Int32), (85, (0, []))))), (85, (.goto 4, (sv_N, (88, (89, []))))), (88, (.iconst 0, (.inl (0 : Int32), (89, (0, []))))), (89, (.istore_n 1, (sv_N, (90, (0, []))))), (90, (.aload_n 0, (sv_N, (91, (0, []))))), (91, (.aload_n 0, (sv_N, (92, (0, []))))), (92, (.getfield 208, (sv_N, (95, (0, []))))), (95, (.putfield 214, (sv_N, (98, (0, []))))), (98, (.aload_n 0, (sv_N, (99, (0, []))))), (99, (.getfield 214, (sv_N, (102, (0, []))))), (102, (.aload_n 0, (sv_N, (103, (0, []))))), (103, (.getfield 197, (sv_N, (106, (0, []))))), (106, (.if_icmp .ne 11, (sv_N, (109, (117, []))))), (109, (.aload_n 0, (sv_N, (110, (0, []))))), (110, (.iconst 0, (.inl (0 : Int32), (111, (0, []))))), (111, (.putfield 211, (sv_N, (114, (0, []))))), (114, (.goto 225, (sv_N, (117, (339, []))))), (117, (.aload_n 0, (sv_N, (118, (0, []))))), (118, (.aload_n 0, (sv_N, (119, (0, []))))), (119, (.getfield 214, (sv_N, (122, (0, []))))), (122, (.invokevirtual 217, (sv_N, (125, (0, []))))), (125, (.ifCond .eq 73, (sv_N, (128, (198, []))))), (128, (.aload_n 0, (sv_N, (129, (0, []))))), (129, (.aload_n 0, (sv_N, (130, (0, []))))), (130, (.getfield 208, (sv_N, (133, (0, []))))), (133, (.invokevirtual 217, (sv_N, (136, (0, []))))), (136, (.ifCond .eq 16, (sv_N, (139, (152, []))))), (139, (.aload_n 0, (sv_N, (140, (0, []))))), (140, (.dup, (sv_N, (141, (0, []))))), (141, (.getfield 208, (sv_N, (144, (0, []))))), (144, (.iconst 1, (.inl (1 : Int32), (145, (0, []))))), (145, (.iadd, (sv_N, (146, (0, []))))), (146, (.putfield 208, (sv_N, (149, (0, []))))), (149, (.goto (-21), (sv_N, (152, (128, []))))), (152, (.aload_n 0, (sv_N, (153, (0, []))))), (153, (.iload_n 1, (sv_N, (154, (0, []))))), (154, (.ifCond .eq 7, (sv_N, (157, (161, []))))), (157, (.iconst 4, (.inl (4 : Int32), (158, (0, []))))), (158, (.goto 4, (sv_N, (161, (162, []))))), (161, (.iconst 1, (.inl (1 : Int32), (162, (0, []))))), (162, (.putfield 211, (sv_N, (165, (0, []))))), (165, (.aload_n 0, (sv_N, (166, (0, []))))), (166, (.aload_n 0, (sv_N, (167, (0, []))))), (167, (.getfield 208, (sv_N, (170, (0, []))))), (170, (.aload_n 0, (sv_N, (171, (0, []))))), (171, (.getfield 214, (sv_N, (174, (0, []))))), (174, (.isub, (sv_N, (175, (0, []))))), (175, (.iconst 1, (.inl (1 : Int32), (176, (0, []))))), (176, (.if_icmp .ne 15, (sv_N, (179, (191, []))))), (179, (.aload_n 0, (sv_N, (180, (0, []))))), (180, (.getfield 52, (sv_N, (183, (0, []))))), (183, (.aload_n 0, (sv_N, (184, (0, []))))), (184, (.getfield 214, (sv_N, (187, (0, []))))), (187, (.iaload, (sv_N, (188, (0, []))))), (188, (.goto 4, (sv_N, (191, (192, []))))), (191, (.iconst 0, (.inl (0 : Int32), (192, (0, []))))), (192, (.putfield 220, (sv_N, (195, (0, []))))), (195, (.goto 144, (sv_N, (198, (339, []))))), (198, (.aload_n 0, (sv_N, (199, (0, []))))), (199, (.aload_n 0, (sv_N, (200, (0, []))))), (200, (.getfield 214, (sv_N, (203, (0, []))))), (203, (.invokevirtual 223, (sv_N, (206, (0, []))))), (206, (.ifCond .eq 105, (sv_N, (209, (311, []))))), (209, (.aload_n 0, (sv_N, (210, (0, []))))), (210, (.iconst 0, (.inl (0 : Int32), (211, (0, []))))), (211, (.putfield 226, (sv_N, (214, (0, []))))), (214, (.aload_n 0, (sv_N, (215, (0, []))))), (215, (.aload_n 0, (sv_N, (216, (0, []))))), (216, (.getfield 208, (sv_N, (219, (0, []))))), (219, (.invokevirtual 223, (sv_N, (222, (0, []))))), (222, (.ifCond .eq 60, (sv_N, (225, (282, []))))), (225, (.aload_n 0, (sv_N, (226, (0, []))))), (226, (.aload_n 0, (sv_N, (227, (0, []))))), (227, (.getfield 208, (sv_N, (230, (0, []))))), (230, (.aload_n 0, (sv_N, (231, (0, []))))), (231, (.getfield 214, (sv_N, (234, (0, []))))), (234, (.isub, (sv_N, (235, (0, []))))), (235, (.iconst 4, (.inl (4 : Int32), (236, (0, []))))), (236, (.if_icmp .ge 26, (sv_N, (239, (262, []))))), (239, (.bipush 10, (.inl (10 : Int32), (241, (0, []))))), (241, (.aload_n 0, (sv_N, (242, (0, []))))), (242, (.getfield 226, (sv_N, (245, (0, []))))), (245, (.imul, (sv_N, (246, (0, []))))), (246, (.aload_n 0, (sv_N, (247, (0, []))))), (247, (.getfield 52, (sv_N, (250, (0, []))))), (250, (.aload_n 0, (sv_N, (251, (0, []))))), (251, (.getfield 208, (sv_N, (254, (0, []))))), (254, (.iaload, (sv_N, (255, (0, []))))), (255, (.iadd, (sv_N, (256, (0, []))))), (256, (.bipush 48, (.inl (48 : Int32), (258, (0, []))))), (258, (.isub, (sv_N, (259, (0, []))))), (259, (.goto 7, (sv_N, (262, (266, []))))), (262, (.aload_n 0, (sv_N, (263, (0, []))))), (263, (.getfield 226, (sv_N, (266, (0, []))))), (266, (.putfield 226, (sv_N, (269, (0, []))))), (269, (.aload_n 0, (sv_N, (270, (0, []))))), (270, (.dup, (sv_N, (271, (0, []))))), (271, (.getfield 208, (sv_N, (274, (0, []))))), (274, (.iconst 1, (.inl (1 : Int32), (275, (0, []))))), (275, (.iadd, (sv_N, (276, (0, []))))), (276, (.putfield 208, (sv_N, (279, (0, []))))), (279, (.goto (-65), (sv_N, (282, (214, []))))), (282, (.aload_n 0, (sv_N, (283, (0, []))))), (283, (.iload_n 1, (sv_N, (284, (0, []))))), (284, (.ifCond .ne 16, (sv_N, (287, (300, []))))), (287, (.aload_n 0, (sv_N, (288, (0, []))))), (288, (.getfield 208, (sv_N, (291, (0, []))))), (291, (.aload_n 0, (sv_N, (292, (0, []))))), (292, (.getfield 214, (sv_N, (295, (0, []))))), (295, (.isub, (sv_N, (296, (0, []))))), (296, (.iconst 4, (.inl (4 : Int32), (297, (0, []))))), (297, (.if_icmp .le 7, (sv_N, (300, (304, []))))), (300, (.iconst 4, (.inl (4 : Int32), (301, (0, []))))), (301, (.goto 4, (sv_N, (304, (305, []))))), (304, (.iconst 2, (.inl (2 : Int32), (305, (0, []))))), (305, (.putfield 211, (sv_N, (308, (0, []))))), (308, (.goto 31, (sv_N, (311, (339, []))))), (311, (.aload_n 0, (sv_N, (312, (0, []))))), (312, (.iconst 3, (.inl (3 : Int32), (313, (0, []))))), (313, (.putfield 211, (sv_N, (316, (0, []))))), (316, (.aload_n 0, (sv_N, (317, (0, []))))), (317, (.aload_n 0, (sv_N, (318, (0, []))))), (318, (.getfield 52, (sv_N, (321, (0, []))))), (321, (.aload_n 0, (sv_N, (322, (0, []))))), (322, (.getfield 214, (sv_N, (325, (0, []))))), (325, (.iaload, (sv_N, (326, (0, []))))), (326, (.putfield 220, (sv_N, (329, (0, []))))), (329, (.aload_n 0, (sv_N, (330, (0, []))))), (330, (.dup, (sv_N, (331, (0, []))))), (331, (.getfield 208, (sv_N, (334, (0, []))))), (334, (.iconst 1, (.inl (1 : Int32), (335, (0, []))))), (335, (.iadd, (sv_N, (336, (0, []))))), (336, (.putfield 208, (sv_N, (339, (0, []))))), (339, (.return_, (sv_N, (340, (0, [])))))]
noncomputable def ev_Mo_nextToken : sv_E := (fun i => sv_lk i fl_12, (fun i => sv_lk i kc_12, (fun _ => false, (true, fun pc => sv_lk pc [(122, (2, .inl n_Mo_isLetter)), (133, (2, .inl n_Mo_isLetter)), (203, (2, .inl n_Mo_isDigit)), (219, (2, .inl n_Mo_isDigit))]))))
noncomputable def kk_Mo_nextToken_300 : sv_K (sv_S) := fun pc => sv_lk pc []
set_option maxRecDepth 20000 in
theorem e_Mo_nextToken_300 (z0 z1 z2 : Option sv_V) (σ : sv_S) : sv_ex ev_Mo_nextToken sv_rV (kk_Mo_nextToken_300) cd_Mo_nextToken 179 300 [z0, z1, z2] [.inr (.inr (some (30, 0)))] σ = f_Mo_nextToken_300 σ := by
  unfold f_Mo_nextToken_300
  delta ev_Mo_nextToken kk_Mo_nextToken_300 n_Mo_isLetter n_Mo_isDigit
  generalize f_Mo_isLetter = c0
  generalize f_Mo_isDigit = c1
  rfl
noncomputable def kk_Mo_nextToken_266 (k214 : Int32 → sv_S → Option (sv_S)) : sv_K (sv_S) := fun pc => sv_lk pc [(214, fun lo st σ => match lo, st with
    | [some (.inr (.inr (some (30, 0)))), some (.inl x1), _], [] => k214 x1 σ
    | _, _ => none)]
set_option maxRecDepth 20000 in
theorem e_Mo_nextToken_266 (k214 : Int32 → sv_S → Option (sv_S)) (x1 : Int32) (y0 : Int32) (z2 : Option sv_V) (σ : sv_S) : sv_ex ev_Mo_nextToken sv_rV (kk_Mo_nextToken_266 k214) cd_Mo_nextToken 179 266 [some (.inr (.inr (some (30, 0)))), some (.inl x1), z2] [.inl y0, .inr (.inr (some (30, 0)))] σ = f_Mo_nextToken_266 k214 x1 y0 σ := by
  unfold f_Mo_nextToken_266
  delta ev_Mo_nextToken kk_Mo_nextToken_266 n_Mo_isLetter n_Mo_isDigit
  generalize f_Mo_isLetter = c0
  generalize f_Mo_isDigit = c1
  generalize f_Mo_nextToken_214 = c2
  rfl
noncomputable def kk_Mo_nextToken_214 (n : Nat) : sv_K (sv_S) := fun pc => sv_lk pc [(266, fun lo st σ => match lo, st with
    | [some (.inr (.inr (some (30, 0)))), some (.inl x1), _], [.inl y0, .inr (.inr (some (30, 0)))] => f_Mo_nextToken_266 (f_Mo_nextToken_214 n) x1 y0 σ
    | _, _ => none),
  (300, fun lo st σ => match lo, st with
    | [_, _, _], [.inr (.inr (some (30, 0)))] => f_Mo_nextToken_300 σ
    | _, _ => none)]
set_option maxRecDepth 20000 in
theorem e_Mo_nextToken_214 (n : Nat) (x1 : Int32) (z2 : Option sv_V) (σ : sv_S) : sv_ex ev_Mo_nextToken sv_rV (kk_Mo_nextToken_214 n) cd_Mo_nextToken 179 214 [some (.inr (.inr (some (30, 0)))), some (.inl x1), z2] [] σ = f_Mo_nextToken_214 (n + 1) x1 σ := by
  rw [f_Mo_nextToken_214.eq_2]
  delta ev_Mo_nextToken kk_Mo_nextToken_214 n_Mo_isLetter n_Mo_isDigit
  generalize f_Mo_isLetter = c0
  generalize f_Mo_isDigit = c1
  generalize f_Mo_nextToken_266 = c2
  generalize f_Mo_nextToken_300 = c3
  generalize f_Mo_nextToken_214 = c4
  rfl
noncomputable def kk_Mo_nextToken_162 : sv_K (sv_S) := fun pc => sv_lk pc []
set_option maxRecDepth 20000 in
theorem e_Mo_nextToken_162 (y0 : Int32) (z1 z2 : Option sv_V) (σ : sv_S) : sv_ex ev_Mo_nextToken sv_rV (kk_Mo_nextToken_162) cd_Mo_nextToken 179 162 [some (.inr (.inr (some (30, 0)))), z1, z2] [.inl y0, .inr (.inr (some (30, 0)))] σ = f_Mo_nextToken_162 y0 σ := by
  unfold f_Mo_nextToken_162
  delta ev_Mo_nextToken kk_Mo_nextToken_162 n_Mo_isLetter n_Mo_isDigit
  generalize f_Mo_isLetter = c0
  generalize f_Mo_isDigit = c1
  rfl
noncomputable def kk_Mo_nextToken_128 (n : Nat) : sv_K (sv_S) := fun pc => sv_lk pc [(128, fun lo st σ => match lo, st with
    | [some (.inr (.inr (some (30, 0)))), some (.inl x1), _], [] => f_Mo_nextToken_128 n x1 σ
    | _, _ => none),
  (162, fun lo st σ => match lo, st with
    | [some (.inr (.inr (some (30, 0)))), _, _], [.inl y0, .inr (.inr (some (30, 0)))] => f_Mo_nextToken_162 y0 σ
    | _, _ => none)]
set_option maxRecDepth 20000 in
theorem e_Mo_nextToken_128 (n : Nat) (x1 : Int32) (z2 : Option sv_V) (σ : sv_S) : sv_ex ev_Mo_nextToken sv_rV (kk_Mo_nextToken_128 n) cd_Mo_nextToken 179 128 [some (.inr (.inr (some (30, 0)))), some (.inl x1), z2] [] σ = f_Mo_nextToken_128 (n + 1) x1 σ := by
  rw [f_Mo_nextToken_128.eq_2]
  delta ev_Mo_nextToken kk_Mo_nextToken_128 n_Mo_isLetter n_Mo_isDigit
  generalize f_Mo_isLetter = c0
  generalize f_Mo_isDigit = c1
  generalize f_Mo_nextToken_128 = c2
  generalize f_Mo_nextToken_162 = c3
  rfl
noncomputable def kk_Mo_nextToken_89 : sv_K (sv_S) := fun pc => sv_lk pc [(128, fun lo st σ => match lo, st with
    | [some (.inr (.inr (some (30, 0)))), some (.inl x1), _], [] => f_Mo_nextToken_128 sv_fu x1 σ
    | _, _ => none),
  (214, fun lo st σ => match lo, st with
    | [some (.inr (.inr (some (30, 0)))), some (.inl x1), _], [] => f_Mo_nextToken_214 sv_fu x1 σ
    | _, _ => none)]
set_option maxRecDepth 20000 in
theorem e_Mo_nextToken_89 (y0 : Int32) (z1 z2 : Option sv_V) (σ : sv_S) : sv_ex ev_Mo_nextToken sv_rV (kk_Mo_nextToken_89) cd_Mo_nextToken 179 89 [some (.inr (.inr (some (30, 0)))), z1, z2] [.inl y0] σ = f_Mo_nextToken_89 y0 σ := by
  unfold f_Mo_nextToken_89
  delta ev_Mo_nextToken kk_Mo_nextToken_89 n_Mo_isLetter n_Mo_isDigit
  generalize f_Mo_isLetter = c0
  generalize f_Mo_isDigit = c1
  generalize f_Mo_nextToken_128 = c2
  generalize f_Mo_nextToken_214 = c3
  rfl
noncomputable def kk_Mo_nextToken_72 : sv_K (sv_S) := fun pc => sv_lk pc [(89, fun lo st σ => match lo, st with
    | [some (.inr (.inr (some (30, 0)))), _, _], [.inl y0] => f_Mo_nextToken_89 y0 σ
    | _, _ => none)]
set_option maxRecDepth 20000 in
theorem e_Mo_nextToken_72 (x1 : Int32) (x2 : Int32) (σ : sv_S) : sv_ex ev_Mo_nextToken sv_rV (kk_Mo_nextToken_72) cd_Mo_nextToken 179 72 [some (.inr (.inr (some (30, 0)))), some (.inl x1), some (.inl x2)] [] σ = f_Mo_nextToken_72 x1 x2 σ := by
  unfold f_Mo_nextToken_72
  delta ev_Mo_nextToken kk_Mo_nextToken_72 n_Mo_isLetter n_Mo_isDigit
  generalize f_Mo_isLetter = c0
  generalize f_Mo_isDigit = c1
  generalize f_Mo_nextToken_89 = c2
  rfl
noncomputable def kk_Mo_nextToken_34 (n : Nat) : sv_K (sv_S) := fun pc => sv_lk pc [(34, fun lo st σ => match lo, st with
    | [some (.inr (.inr (some (30, 0)))), some (.inl x1), some (.inl x2)], [] => f_Mo_nextToken_34 n x1 x2 σ
    | _, _ => none),
  (72, fun lo st σ => match lo, st with
    | [some (.inr (.inr (some (30, 0)))), some (.inl x1), some (.inl x2)], [] => f_Mo_nextToken_72 x1 x2 σ
    | _, _ => none)]
set_option maxRecDepth 20000 in
theorem e_Mo_nextToken_34 (n : Nat) (x1 : Int32) (x2 : Int32) (σ : sv_S) : sv_ex ev_Mo_nextToken sv_rV (kk_Mo_nextToken_34 n) cd_Mo_nextToken 179 34 [some (.inr (.inr (some (30, 0)))), some (.inl x1), some (.inl x2)] [] σ = f_Mo_nextToken_34 (n + 1) x1 x2 σ := by
  rw [f_Mo_nextToken_34.eq_2]
  delta ev_Mo_nextToken kk_Mo_nextToken_34 n_Mo_isLetter n_Mo_isDigit
  generalize f_Mo_isLetter = c0
  generalize f_Mo_isDigit = c1
  generalize f_Mo_nextToken_34 = c2
  generalize f_Mo_nextToken_72 = c3
  rfl
noncomputable def kk_Mo_nextToken_27 : sv_K (sv_S) := fun pc => sv_lk pc [(34, fun lo st σ => match lo, st with
    | [some (.inr (.inr (some (30, 0)))), some (.inl x1), some (.inl x2)], [] => f_Mo_nextToken_34 sv_fu x1 x2 σ
    | _, _ => none)]
set_option maxRecDepth 20000 in
theorem e_Mo_nextToken_27 (z1 z2 : Option sv_V) (σ : sv_S) : sv_ex ev_Mo_nextToken sv_rV (kk_Mo_nextToken_27) cd_Mo_nextToken 179 27 [some (.inr (.inr (some (30, 0)))), z1, z2] [] σ = f_Mo_nextToken_27 σ := by
  unfold f_Mo_nextToken_27
  delta ev_Mo_nextToken kk_Mo_nextToken_27 n_Mo_isLetter n_Mo_isDigit
  generalize f_Mo_isLetter = c0
  generalize f_Mo_isDigit = c1
  generalize f_Mo_nextToken_34 = c2
  rfl
noncomputable def kk_Mo_nextToken_23 : sv_K (sv_S) := fun pc => sv_lk pc [(34, fun lo st σ => match lo, st with
    | [some (.inr (.inr (some (30, 0)))), some (.inl x1), some (.inl x2)], [] => f_Mo_nextToken_34 sv_fu x1 x2 σ
    | _, _ => none)]
set_option maxRecDepth 20000 in
theorem e_Mo_nextToken_23 (z1 z2 : Option sv_V) (σ : sv_S) : sv_ex ev_Mo_nextToken sv_rV (kk_Mo_nextToken_23) cd_Mo_nextToken 179 23 [some (.inr (.inr (some (30, 0)))), z1, z2] [] σ = f_Mo_nextToken_23 σ := by
  unfold f_Mo_nextToken_23
  delta ev_Mo_nextToken kk_Mo_nextToken_23 n_Mo_isLetter n_Mo_isDigit
  generalize f_Mo_isLetter = c0
  generalize f_Mo_isDigit = c1
  generalize f_Mo_nextToken_34 = c2
  rfl
noncomputable def kk_Mo_nextToken : sv_K (sv_S) := fun pc => sv_lk pc [(23, fun lo st σ => match lo, st with
    | [some (.inr (.inr (some (30, 0)))), _, _], [] => f_Mo_nextToken_23 σ
    | _, _ => none),
  (27, fun lo st σ => match lo, st with
    | [some (.inr (.inr (some (30, 0)))), _, _], [] => f_Mo_nextToken_27 σ
    | _, _ => none)]
set_option maxRecDepth 20000 in
theorem e_Mo_nextToken (σ : sv_S) : sv_ex ev_Mo_nextToken sv_rV kk_Mo_nextToken cd_Mo_nextToken 179 0 [some (.inr (.inr (some (30, 0)))), none, none] [] σ = f_Mo_nextToken σ := by
  unfold f_Mo_nextToken
  delta ev_Mo_nextToken kk_Mo_nextToken n_Mo_isLetter n_Mo_isDigit
  generalize f_Mo_isLetter = c0
  generalize f_Mo_isDigit = c1
  generalize f_Mo_nextToken_23 = c2
  generalize f_Mo_nextToken_27 = c3
  rfl
theorem d_Mo_nextToken : cd_Mo_nextToken.all (sv_dk cX12_nextToken) = true := by decide +kernel
set_option maxRecDepth 20000 in
theorem w_Mo_nextToken_300 {Γ : sv_Ga} {res : sv_S} (X : sv_Ok Γ ev_Mo_nextToken cX12_nextToken sv_rV res) : ∀ (z0 z1 z2 : Option sv_V) (σ : sv_S), f_Mo_nextToken_300 σ = some res → sv_T Γ 300 [z0, z1, z2] [.inr (.inr (some (30, 0)))] σ := by
  intro z0 z1 z2 σ h
  refine sv_run X d_Mo_nextToken (K := kk_Mo_nextToken_300) (sv_lk_all (P := fun pc (k : sv_Lo → List sv_V → sv_S → Option (sv_S)) => ∀ lo st σ, k lo st σ = some res → sv_T Γ pc lo st σ) ?_) _ _ _ _ _ ((e_Mo_nextToken_300 z0 z1 z2 σ).trans h)
  clear h
  exact fun _ h => absurd h List.not_mem_nil

set_option maxRecDepth 20000 in
theorem w_Mo_nextToken_266 {Γ : sv_Ga} {res : sv_S} (X : sv_Ok Γ ev_Mo_nextToken cX12_nextToken sv_rV res) (k214 : Int32 → sv_S → Option (sv_S)) (h214 : ∀ (x1 : Int32) (z2 : Option sv_V) (σ : sv_S), k214 x1 σ = some res → sv_T Γ 214 [some (.inr (.inr (some (30, 0)))), some (.inl x1), z2] [] σ) : ∀ (x1 : Int32) (y0 : Int32) (z2 : Option sv_V) (σ : sv_S), f_Mo_nextToken_266 k214 x1 y0 σ = some res → sv_T Γ 266 [some (.inr (.inr (some (30, 0)))), some (.inl x1), z2] [.inl y0, .inr (.inr (some (30, 0)))] σ := by
  intro x1 y0 z2 σ h
  refine sv_run X d_Mo_nextToken (K := kk_Mo_nextToken_266 k214) (sv_lk_all (P := fun pc (k : sv_Lo → List sv_V → sv_S → Option (sv_S)) => ∀ lo st σ, k lo st σ = some res → sv_T Γ pc lo st σ) ?_) _ _ _ _ _ ((e_Mo_nextToken_266 k214 x1 y0 z2 σ).trans h)
  clear h
  refine List.forall_mem_cons.mpr ⟨fun lo st σ h => ?_, fun _ h => absurd h List.not_mem_nil⟩
  · dsimp only at h
    split at h
    · exact h214 _ _ _ h
    · cases h

set_option maxRecDepth 20000 in
theorem w_Mo_nextToken_214 {Γ : sv_Ga} {res : sv_S} (X : sv_Ok Γ ev_Mo_nextToken cX12_nextToken sv_rV res) : ∀ (n : Nat) (x1 : Int32) (z2 : Option sv_V) (σ : sv_S), f_Mo_nextToken_214 n x1 σ = some res → sv_T Γ 214 [some (.inr (.inr (some (30, 0)))), some (.inl x1), z2] [] σ := by
  intro n
  induction n with
  | zero =>
    intro x1 z2 σ h
    rw [f_Mo_nextToken_214.eq_1] at h
    cases h
  | succ n ih =>
    intro x1 z2 σ h
    refine sv_run X d_Mo_nextToken (K := kk_Mo_nextToken_214 n) (sv_lk_all (P := fun pc (k : sv_Lo → List sv_V → sv_S → Option (sv_S)) => ∀ lo st σ, k lo st σ = some res → sv_T Γ pc lo st σ) ?_) _ _ _ _ _ ((e_Mo_nextToken_214 n x1 z2 σ).trans h)
    clear h
    refine List.forall_mem_cons.mpr ⟨fun lo st σ h => ?_, List.forall_mem_cons.mpr ⟨fun lo st σ h => ?_, fun _ h => absurd h List.not_mem_nil⟩⟩
    · dsimp only at h
      split at h
      · exact w_Mo_nextToken_266 X _ ih _ _ _ _ h
      · cases h
    · dsimp only at h
      split at h
      · exact w_Mo_nextToken_300 X _ _ _ _ h
      · cases h

set_option maxRecDepth 20000 in
theorem w_Mo_nextToken_162 {Γ : sv_Ga} {res : sv_S} (X : sv_Ok Γ ev_Mo_nextToken cX12_nextToken sv_rV res) : ∀ (y0 : Int32) (z1 z2 : Option sv_V) (σ : sv_S), f_Mo_nextToken_162 y0 σ = some res → sv_T Γ 162 [some (.inr (.inr (some (30, 0)))), z1, z2] [.inl y0, .inr (.inr (some (30, 0)))] σ := by
  intro y0 z1 z2 σ h
  refine sv_run X d_Mo_nextToken (K := kk_Mo_nextToken_162) (sv_lk_all (P := fun pc (k : sv_Lo → List sv_V → sv_S → Option (sv_S)) => ∀ lo st σ, k lo st σ = some res → sv_T Γ pc lo st σ) ?_) _ _ _ _ _ ((e_Mo_nextToken_162 y0 z1 z2 σ).trans h)
  clear h
  exact fun _ h => absurd h List.not_mem_nil

set_option maxRecDepth 20000 in
theorem w_Mo_nextToken_128 {Γ : sv_Ga} {res : sv_S} (X : sv_Ok Γ ev_Mo_nextToken cX12_nextToken sv_rV res) : ∀ (n : Nat) (x1 : Int32) (z2 : Option sv_V) (σ : sv_S), f_Mo_nextToken_128 n x1 σ = some res → sv_T Γ 128 [some (.inr (.inr (some (30, 0)))), some (.inl x1), z2] [] σ := by
  intro n
  induction n with
  | zero =>
    intro x1 z2 σ h
    rw [f_Mo_nextToken_128.eq_1] at h
    cases h
  | succ n ih =>
    intro x1 z2 σ h
    refine sv_run X d_Mo_nextToken (K := kk_Mo_nextToken_128 n) (sv_lk_all (P := fun pc (k : sv_Lo → List sv_V → sv_S → Option (sv_S)) => ∀ lo st σ, k lo st σ = some res → sv_T Γ pc lo st σ) ?_) _ _ _ _ _ ((e_Mo_nextToken_128 n x1 z2 σ).trans h)
    clear h
    refine List.forall_mem_cons.mpr ⟨fun lo st σ h => ?_, List.forall_mem_cons.mpr ⟨fun lo st σ h => ?_, fun _ h => absurd h List.not_mem_nil⟩⟩
    · dsimp only at h
      split at h
      · exact ih _ _ _ h
      · cases h
    · dsimp only at h
      split at h
      · exact w_Mo_nextToken_162 X _ _ _ _ h
      · cases h

set_option maxRecDepth 20000 in
theorem w_Mo_nextToken_89 {Γ : sv_Ga} {res : sv_S} (X : sv_Ok Γ ev_Mo_nextToken cX12_nextToken sv_rV res) : ∀ (y0 : Int32) (z1 z2 : Option sv_V) (σ : sv_S), f_Mo_nextToken_89 y0 σ = some res → sv_T Γ 89 [some (.inr (.inr (some (30, 0)))), z1, z2] [.inl y0] σ := by
  intro y0 z1 z2 σ h
  refine sv_run X d_Mo_nextToken (K := kk_Mo_nextToken_89) (sv_lk_all (P := fun pc (k : sv_Lo → List sv_V → sv_S → Option (sv_S)) => ∀ lo st σ, k lo st σ = some res → sv_T Γ pc lo st σ) ?_) _ _ _ _ _ ((e_Mo_nextToken_89 y0 z1 z2 σ).trans h)
  clear h
  refine List.forall_mem_cons.mpr ⟨fun lo st σ h => ?_, List.forall_mem_cons.mpr ⟨fun lo st σ h => ?_, fun _ h => absurd h List.not_mem_nil⟩⟩
  · dsimp only at h
    split at h
    · exact w_Mo_nextToken_128 X _ _ _ _ h
    · cases h
  · dsimp only at h
    split at h
    · exact w_Mo_nextToken_214 X _ _ _ _ h
    · cases h

set_option maxRecDepth 20000 in
theorem w_Mo_nextToken_72 {Γ : sv_Ga} {res : sv_S} (X : sv_Ok Γ ev_Mo_nextToken cX12_nextToken sv_rV res) : ∀ (x1 : Int32) (x2 : Int32) (σ : sv_S), f_Mo_nextToken_72 x1 x2 σ = some res → sv_T Γ 72 [some (.inr (.inr (some (30, 0)))), some (.inl x1), some (.inl x2)] [] σ := by
  intro x1 x2 σ h
  refine sv_run X d_Mo_nextToken (K := kk_Mo_nextToken_72) (sv_lk_all (P := fun pc (k : sv_Lo → List sv_V → sv_S → Option (sv_S)) => ∀ lo st σ, k lo st σ = some res → sv_T Γ pc lo st σ) ?_) _ _ _ _ _ ((e_Mo_nextToken_72 x1 x2 σ).trans h)
  clear h
  refine List.forall_mem_cons.mpr ⟨fun lo st σ h => ?_, fun _ h => absurd h List.not_mem_nil⟩
  · dsimp only at h
    split at h
    · exact w_Mo_nextToken_89 X _ _ _ _ h
    · cases h

set_option maxRecDepth 20000 in
theorem w_Mo_nextToken_34 {Γ : sv_Ga} {res : sv_S} (X : sv_Ok Γ ev_Mo_nextToken cX12_nextToken sv_rV res) : ∀ (n : Nat) (x1 : Int32) (x2 : Int32) (σ : sv_S), f_Mo_nextToken_34 n x1 x2 σ = some res → sv_T Γ 34 [some (.inr (.inr (some (30, 0)))), some (.inl x1), some (.inl x2)] [] σ := by
  intro n
  induction n with
  | zero =>
    intro x1 x2 σ h
    rw [f_Mo_nextToken_34.eq_1] at h
    cases h
  | succ n ih =>
    intro x1 x2 σ h
    refine sv_run X d_Mo_nextToken (K := kk_Mo_nextToken_34 n) (sv_lk_all (P := fun pc (k : sv_Lo → List sv_V → sv_S → Option (sv_S)) => ∀ lo st σ, k lo st σ = some res → sv_T Γ pc lo st σ) ?_) _ _ _ _ _ ((e_Mo_nextToken_34 n x1 x2 σ).trans h)
    clear h
    refine List.forall_mem_cons.mpr ⟨fun lo st σ h => ?_, List.forall_mem_cons.mpr ⟨fun lo st σ h => ?_, fun _ h => absurd h List.not_mem_nil⟩⟩
    · dsimp only at h
      split at h
      · exact ih _ _ _ h
      · cases h
    · dsimp only at h
      split at h
      · exact w_Mo_nextToken_72 X _ _ _ h
      · cases h

set_option maxRecDepth 20000 in
theorem w_Mo_nextToken_27 {Γ : sv_Ga} {res : sv_S} (X : sv_Ok Γ ev_Mo_nextToken cX12_nextToken sv_rV res) : ∀ (z1 z2 : Option sv_V) (σ : sv_S), f_Mo_nextToken_27 σ = some res → sv_T Γ 27 [some (.inr (.inr (some (30, 0)))), z1, z2] [] σ := by
  intro z1 z2 σ h
  refine sv_run X d_Mo_nextToken (K := kk_Mo_nextToken_27) (sv_lk_all (P := fun pc (k : sv_Lo → List sv_V → sv_S → Option (sv_S)) => ∀ lo st σ, k lo st σ = some res → sv_T Γ pc lo st σ) ?_) _ _ _ _ _ ((e_Mo_nextToken_27 z1 z2 σ).trans h)
  clear h
  refine List.forall_mem_cons.mpr ⟨fun lo st σ h => ?_, fun _ h => absurd h List.not_mem_nil⟩
  · dsimp only at h
    split at h
    · exact w_Mo_nextToken_34 X _ _ _ _ h
    · cases h

set_option maxRecDepth 20000 in
theorem w_Mo_nextToken_23 {Γ : sv_Ga} {res : sv_S} (X : sv_Ok Γ ev_Mo_nextToken cX12_nextToken sv_rV res) : ∀ (z1 z2 : Option sv_V) (σ : sv_S), f_Mo_nextToken_23 σ = some res → sv_T Γ 23 [some (.inr (.inr (some (30, 0)))), z1, z2] [] σ := by
  intro z1 z2 σ h
  refine sv_run X d_Mo_nextToken (K := kk_Mo_nextToken_23) (sv_lk_all (P := fun pc (k : sv_Lo → List sv_V → sv_S → Option (sv_S)) => ∀ lo st σ, k lo st σ = some res → sv_T Γ pc lo st σ) ?_) _ _ _ _ _ ((e_Mo_nextToken_23 z1 z2 σ).trans h)
  clear h
  refine List.forall_mem_cons.mpr ⟨fun lo st σ h => ?_, fun _ h => absurd h List.not_mem_nil⟩
  · dsimp only at h
    split at h
    · exact w_Mo_nextToken_34 X _ _ _ _ h
    · cases h

set_option maxRecDepth 20000 in
theorem b_Mo_nextToken (Γ : sv_Ga) (res : sv_S) (X : sv_Ok Γ ev_Mo_nextToken cX12_nextToken sv_rV res) (as : List sv_V) (σ : sv_S) (h : n_Mo_nextToken as σ = some res) : sv_T Γ 0 (sv_e0 3 as) [] σ := by
  unfold n_Mo_nextToken at h
  split at h
  · refine sv_run X d_Mo_nextToken (K := kk_Mo_nextToken) (sv_lk_all (P := fun pc (k : sv_Lo → List sv_V → sv_S → Option (sv_S)) => ∀ lo st σ, k lo st σ = some res → sv_T Γ pc lo st σ) ?_) _ _ _ _ _ ((e_Mo_nextToken _).trans h)
    clear h
    refine List.forall_mem_cons.mpr ⟨fun lo st σ h => ?_, List.forall_mem_cons.mpr ⟨fun lo st σ h => ?_, fun _ h => absurd h List.not_mem_nil⟩⟩
    · dsimp only at h
      split at h
      · exact w_Mo_nextToken_23 X _ _ _ h
      · cases h
    · dsimp only at h
      split at h
      · exact w_Mo_nextToken_27 X _ _ _ h
      · cases h
  · cases h
theorem a_Mo_nextToken (as : List sv_V) (σ : sv_S) (x : sv_S) (h : n_Mo_nextToken as σ = some x) : sv_args 3 ev_Mo_nextToken.2.2.2.1 as := by
  unfold n_Mo_nextToken at h
  split at h
  · exact ⟨Nat.le_of_ble_eq_true rfl, fun _ v hv => by
      simp only [List.mem_cons, List.not_mem_nil, or_false] at hv
      rcases hv with rfl <;> trivial⟩
  · cases h
theorem g_Mo_nextToken (as : List sv_V) (σ : sv_S) (x : Option sv_V × sv_S) (h : sv_gV n_Mo_nextToken as σ = some x) : ∃ r i as', as = sv_R r i :: as' ∧ sv_kd r i = .inl 12 := by
  obtain ⟨_, h, -⟩ := sv_b0_some h
  unfold n_Mo_nextToken at h
  split at h
  · exact ⟨_, _, _, rfl, rfl⟩
  · cases h
theorem tw_35 : Cond.selects RX12 yX12_isLetter yX12_isLetter ∈ gw_tbl := gw_at 35 (by decide +kernel) rfl
theorem tw_36 : Cond.selects RX12 yX12_isDigit yX12_isDigit ∈ gw_tbl := gw_at 36 (by decide +kernel) rfl
theorem tw_1334 : Cond.methodLink RX12 217 yX12_isLetter ∈ gw_tbl := gw_at 1334 (by decide +kernel) rfl
theorem tw_1336 : Cond.instanceMethod yX12_isLetter ∈ gw_tbl := gw_at 1336 (by decide +kernel) rfl
theorem tw_1337 : Cond.code yX12_isLetter cX12_isLetter 2 (some .boolean) ∈ gw_tbl := gw_at 1337 (by decide +kernel) rfl
theorem tw_1340 : Cond.methodLink RX12 223 yX12_isDigit ∈ gw_tbl := gw_at 1340 (by decide +kernel) rfl
theorem tw_1342 : Cond.instanceMethod yX12_isDigit ∈ gw_tbl := gw_at 1342 (by decide +kernel) rfl
theorem tw_1343 : Cond.code yX12_isDigit cX12_isDigit 2 (some .boolean) ∈ gw_tbl := gw_at 1343 (by decide +kernel) rfl
set_option maxRecDepth 20000 in
theorem m_Mo_nextToken (l : Launch) : sv_M l yX12_nextToken cX12_nextToken 3 none (sv_gV n_Mo_nextToken) 2 := by
  refine sv_mV (E := ev_Mo_nextToken) (by decide +kernel) (ln_gen fk_12 kk_12 (sv_ns _ (fun _ => rfl) _)) ?_ a_Mo_nextToken b_Mo_nextToken
  intro p e R s m args below meth c cells slots Q base ad dC dI cA n0 S hkn hR hf pc n f h
  refine sv_lk_all (P := fun pc (x : Nat × sv_F) => sv_cok p l e R s m args below meth c cells slots Q base ad dC dI cA true 3 n0 pc x.1 x.2) ?_ pc (n, f) h
  exact List.forall_mem_cons.mpr ⟨(sv_cV S hkn (m_Mo_isLetter l) ⟨Nat.le_trans (by decide) hR.1, Nat.le_trans (by decide) hR.2⟩ (by decide) hf rfl g_Mo_isLetter (sv_w5 tw_1334 tw_1336 tw_35 tw_65 tw_1337) (by decide +kernel) (sv_dc3 d_Mo_nextToken (pc := 122) rfl rfl)).I,
      List.forall_mem_cons.mpr ⟨(sv_cV S hkn (m_Mo_isLetter l) ⟨Nat.le_trans (by decide) hR.1, Nat.le_trans (by decide) hR.2⟩ (by decide) hf rfl g_Mo_isLetter (sv_w5 tw_1334 tw_1336 tw_35 tw_65 tw_1337) (by decide +kernel) (sv_dc3 d_Mo_nextToken (pc := 133) rfl rfl)).I,
      List.forall_mem_cons.mpr ⟨(sv_cV S hkn (m_Mo_isDigit l) ⟨Nat.le_trans (by decide) hR.1, Nat.le_trans (by decide) hR.2⟩ (by decide) hf rfl g_Mo_isDigit (sv_w5 tw_1340 tw_1342 tw_36 tw_65 tw_1343) (by decide +kernel) (sv_dc3 d_Mo_nextToken (pc := 203) rfl rfl)).I,
      List.forall_mem_cons.mpr ⟨(sv_cV S hkn (m_Mo_isDigit l) ⟨Nat.le_trans (by decide) hR.1, Nat.le_trans (by decide) hR.2⟩ (by decide) hf rfl g_Mo_isDigit (sv_w5 tw_1340 tw_1342 tw_36 tw_65 tw_1343) (by decide +kernel) (sv_dc3 d_Mo_nextToken (pc := 219) rfl rfl)).I,
      fun _ h => absurd h List.not_mem_nil⟩⟩⟩⟩
noncomputable def f_Mo_isSign (a1 : Int32) (σ : sv_S) : Option (Int32 × sv_S) :=
  sv_if ((σ 30 0 20) = (3 : Int32))
    (sv_if ((σ 30 0 22) = a1)
      (sv_g ((1 : Int32) = 0 ∨ (1 : Int32) = 1) (some ((1 : Int32), σ)))
      (sv_g ((0 : Int32) = 0 ∨ (0 : Int32) = 1) (some ((0 : Int32), σ))))
    (sv_g ((0 : Int32) = 0 ∨ (0 : Int32) = 1) (some ((0 : Int32), σ)))
noncomputable def n_Mo_isSign : List sv_V → sv_S → Option (Int32 × sv_S)
  | [.inr (.inr (some (30, 0))), .inl a1], σ => f_Mo_isSign a1 σ
  | _, _ => none
def cd_Mo_isSign : sv_C := [(0, (.aload_n 0, (sv_N, (1, (0, []))))), (1, (.getfield 211, (sv_N, (4, (0, []))))), (4, (.iconst 3, (.inl (3 : Int32), (5, (0, []))))), (5, (.if_icmp .ne 15, (sv_N, (8, (20, []))))), (8, (.aload_n 0, (sv_N, (9, (0, []))))), (9, (.getfield 220, (sv_N, (12, (0, []))))), (12, (.iload_n 1, (sv_N, (13, (0, []))))), (13, (.if_icmp .ne 7, (sv_N, (16, (20, []))))), (16, (.iconst 1, (.inl (1 : Int32), (17, (0, []))))), (17, (.goto 4, (sv_N, (20, (21, []))))), (20, (.iconst 0, (.inl (0 : Int32), (21, (0, []))))), (21, (.ireturn, (sv_N, (22, (0, [])))))]
noncomputable def ev_Mo_isSign : sv_E := (fun i => sv_lk i fl_12, (fun i => sv_lk i kc_12, (fun _ => false, (true, fun pc => sv_lk pc []))))
noncomputable def kk_Mo_isSign : sv_K (Int32 × sv_S) := fun pc => sv_lk pc []
set_option maxRecDepth 20000 in
theorem e_Mo_isSign (a1 : Int32) (σ : sv_S) : sv_ex ev_Mo_isSign sv_rZ kk_Mo_isSign cd_Mo_isSign 14 0 [some (.inr (.inr (some (30, 0)))), some (.inl a1)] [] σ = f_Mo_isSign a1 σ := by
  unfold f_Mo_isSign
  delta ev_Mo_isSign kk_Mo_isSign
  rfl
theorem d_Mo_isSign : cd_Mo_isSign.all (sv_dk cX12_isSign) = true := by decide +kernel
set_option maxRecDepth 20000 in
theorem b_Mo_isSign (Γ : sv_Ga) (res : Int32 × sv_S) (X : sv_Ok Γ ev_Mo_isSign cX12_isSign sv_rZ res) (as : List sv_V) (σ : sv_S) (h : n_Mo_isSign as σ = some res) : sv_T Γ 0 (sv_e0 2 as) [] σ := by
  unfold n_Mo_isSign at h
  split at h
  · refine sv_run X d_Mo_isSign (K := kk_Mo_isSign) (sv_lk_all (P := fun pc (k : sv_Lo → List sv_V → sv_S → Option (Int32 × sv_S)) => ∀ lo st σ, k lo st σ = some res → sv_T Γ pc lo st σ) ?_) _ _ _ _ _ ((e_Mo_isSign _ _).trans h)
    clear h
    exact fun _ h => absurd h List.not_mem_nil
  · cases h
theorem a_Mo_isSign (as : List sv_V) (σ : sv_S) (x : Int32 × sv_S) (h : n_Mo_isSign as σ = some x) : sv_args 2 ev_Mo_isSign.2.2.2.1 as := by
  unfold n_Mo_isSign at h
  split at h
  · exact ⟨Nat.le_of_ble_eq_true rfl, fun _ v hv => by
      simp only [List.mem_cons, List.not_mem_nil, or_false] at hv
      rcases hv with rfl | rfl <;> trivial⟩
  · cases h
theorem g_Mo_isSign (as : List sv_V) (σ : sv_S) (x : Option sv_V × sv_S) (h : sv_gI n_Mo_isSign as σ = some x) : ∃ r i as', as = sv_R r i :: as' ∧ sv_kd r i = .inl 12 := by
  obtain ⟨_, _, h, -⟩ := sv_b_some h
  unfold n_Mo_isSign at h
  split at h
  · exact ⟨_, _, _, rfl, rfl⟩
  · cases h

set_option maxRecDepth 20000 in
theorem m_Mo_isSign (l : Launch) : sv_M l yX12_isSign cX12_isSign 2 (some .boolean) (sv_gI n_Mo_isSign) 0 := by
  refine sv_mZ (E := ev_Mo_isSign) (by decide +kernel) (ln_gen fk_12 kk_12 (sv_ns _ (fun _ => rfl) _)) ?_ a_Mo_isSign b_Mo_isSign
  intro p e R s m args below meth c cells slots Q base ad dC dI cA n0 S hkn hR hf pc n f h
  refine sv_lk_all (P := fun pc (x : Nat × sv_F) => sv_cok p l e R s m args below meth c cells slots Q base ad dC dI cA true 2 n0 pc x.1 x.2) ?_ pc (n, f) h
  exact fun _ h => absurd h List.not_mem_nil
noncomputable def f_Mo_isWordAt_10 (x1 : Int32) (x2 : Int32) (x3 : Int32) (x4 : Int32) (y0 : Int32) (σ : sv_S) : Option (Int32 × sv_S) :=
    sv_if ((σ 30 0 20) = (1 : Int32))
      (sv_if (((σ 30 0 19) - (σ 30 0 18)) = y0)
        (sv_g (sv_in (σ 30 0 18) 96) (sv_if ((σ 31 16 ((σ 30 0 18).toNatClampNeg)) = x1)
          (sv_g (sv_in ((σ 30 0 18) + (1 : Int32)) 96) (sv_if ((σ 31 16 (((σ 30 0 18) + (1 : Int32)).toNatClampNeg)) = x2)
            (sv_g (sv_in ((σ 30 0 18) + (2 : Int32)) 96) (sv_if ((σ 31 16 (((σ 30 0 18) + (2 : Int32)).toNatClampNeg)) = x3)
              (sv_if (x4 = 0)
                (sv_g ((1 : Int32) = 0 ∨ (1 : Int32) = 1) (some ((1 : Int32), σ)))
                (sv_g (sv_in ((σ 30 0 18) + (3 : Int32)) 96) (sv_if ((σ 31 16 (((σ 30 0 18) + (3 : Int32)).toNatClampNeg)) = x4)
                  (sv_g ((1 : Int32) = 0 ∨ (1 : Int32) = 1) (some ((1 : Int32), σ)))
                  (sv_g ((0 : Int32) = 0 ∨ (0 : Int32) = 1) (some ((0 : Int32), σ))))))
              (sv_g ((0 : Int32) = 0 ∨ (0 : Int32) = 1) (some ((0 : Int32), σ)))))
            (sv_g ((0 : Int32) = 0 ∨ (0 : Int32) = 1) (some ((0 : Int32), σ)))))
          (sv_g ((0 : Int32) = 0 ∨ (0 : Int32) = 1) (some ((0 : Int32), σ)))))
        (sv_g ((0 : Int32) = 0 ∨ (0 : Int32) = 1) (some ((0 : Int32), σ))))
      (sv_g ((0 : Int32) = 0 ∨ (0 : Int32) = 1) (some ((0 : Int32), σ)))
noncomputable def f_Mo_isWordAt (a1 : Int32) (a2 : Int32) (a3 : Int32) (a4 : Int32) (σ : sv_S) : Option (Int32 × sv_S) :=
  sv_if (a4 = 0)
    (f_Mo_isWordAt_10 a1 a2 a3 a4 (3 : Int32) σ)
    (f_Mo_isWordAt_10 a1 a2 a3 a4 (4 : Int32) σ)
noncomputable def n_Mo_isWordAt : List sv_V → sv_S → Option (Int32 × sv_S)
  | [.inr (.inr (some (30, 0))), .inl a1, .inl a2, .inl a3, .inl a4], σ => f_Mo_isWordAt a1 a2 a3 a4 σ
  | _, _ => none
def cd_Mo_isWordAt : sv_C := [(0, (.iload 4, (sv_N, (2, (0, []))))), (2, (.ifCond .ne 7, (sv_N, (5, (9, []))))), (5, (.iconst 3, (.inl (3 : Int32), (6, (0, []))))), (6, (.goto 4, (sv_N, (9, (10, []))))), (9, (.iconst 4, (.inl (4 : Int32), (10, (0, []))))), (10, (.istore 5, (sv_N, (12, (0, []))))), (12, (.aload_n 0, (sv_N, (13, (0, []))))), (13, (.getfield 211, (sv_N, (16, (0, []))))), (16, (.iconst 1, (.inl (1 : Int32), (17, (0, []))))), (17, (.if_icmp .ne 85, (sv_N, (20, (102, []))))), (20, (.aload_n 0, (sv_N, (21, (0, []))))), (21, (.getfield 208, (sv_N, (24, (0, []))))), (24, (.aload_n 0, (sv_N, (25, (0, []))))), (25, (.getfield 214, (sv_N, (28, (0, []))))), (28, (.isub, (sv_N, (29, (0, []))))), (29, (.iload 5, (sv_N, (31, (0, []))))), (31, (.if_icmp .ne 71, (sv_N, (34, (102, []))))), (34, (.aload_n 0, (sv_N, (35, (0, []))))), (35, (.getfield 52, (sv_N, (38, (0, []))))), (38, (.aload_n 0, (sv_N, (39, (0, []))))), (39, (.getfield 214, (sv_N, (42, (0, []))))), (42, (.iaload, (sv_N, (43, (0, []))))), (43, (.iload_n 1, (sv_N, (44, (0, []))))), (44, (.if_icmp .ne 58, (sv_N, (47, (102, []))))), (47, (.aload_n 0, (sv_N, (48, (0, []))))), (48, (.getfield 52, (sv_N, (51, (0, []))))), (51, (.aload_n 0, (sv_N, (52, (0, []))))), (52, (.getfield 214, (sv_N, (55, (0, []))))), (55, (.iconst 1, (.inl (1 : Int32), (56, (0, []))))), (56, (.iadd, (sv_N, (57, (0, []))))), (57, (.iaload, (sv_N, (58, (0, []))))), (58, (.iload_n 2, (sv_N, (59, (0, []))))), (59, (.if_icmp .ne 43, (sv_N, (62, (102, []))))), (62, (.aload_n 0, (sv_N, (63, (0, []))))), (63, (.getfield 52, (sv_N, (66, (0, []))))), (66, (.aload_n 0, (sv_N, (67, (0, []))))), (67, (.getfield 214, (sv_N, (70, (0, []))))), (70, (.iconst 2, (.inl (2 : Int32), (71, (0, []))))), (71, (.iadd, (sv_N, (72, (0, []))))), (72, (.iaload, (sv_N, (73, (0, []))))), (73, (.iload_n 3, (sv_N, (74, (0, []))))), (74, (.if_icmp .ne 28, (sv_N, (77, (102, []))))), (77, (.iload 4, (sv_N, (79, (0, []))))), (79, (.ifCond .eq 19, (sv_N, (82, (98, []))))), (82, (.aload_n 0, (sv_N, (83, (0, []))))), (83, (.getfield 52, (sv_N, (86, (0, []))))), (86, (.aload_n 0, (sv_N, (87, (0, []))))), (87, (.getfield 214, (sv_N, (90, (0, []))))), (90, (.iconst 3, (.inl (3 : Int32), (91, (0, []))))), (91, (.iadd, (sv_N, (92, (0, []))))), (92, (.iaload, (sv_N, (93, (0, []))))), (93, (.iload 4, (sv_N, (95, (0, []))))), (95, (.if_icmp .ne 7, (sv_N, (98, (102, []))))), (98, (.iconst 1, (.inl (1 : Int32), (99, (0, []))))), (99, (.goto 4, (sv_N, (102, (103, []))))), (102, (.iconst 0, (.inl (0 : Int32), (103, (0, []))))), (103, (.ireturn, (sv_N, (104, (0, [])))))]
noncomputable def ev_Mo_isWordAt : sv_E := (fun i => sv_lk i fl_12, (fun i => sv_lk i kc_12, (fun _ => false, (true, fun pc => sv_lk pc []))))
noncomputable def kk_Mo_isWordAt_10 : sv_K (Int32 × sv_S) := fun pc => sv_lk pc []
set_option maxRecDepth 20000 in
theorem e_Mo_isWordAt_10 (x1 : Int32) (x2 : Int32) (x3 : Int32) (x4 : Int32) (y0 : Int32) (z5 : Option sv_V) (σ : sv_S) : sv_ex ev_Mo_isWordAt sv_rZ (kk_Mo_isWordAt_10) cd_Mo_isWordAt 59 10 [some (.inr (.inr (some (30, 0)))), some (.inl x1), some (.inl x2), some (.inl x3), some (.inl x4), z5] [.inl y0] σ = f_Mo_isWordAt_10 x1 x2 x3 x4 y0 σ := by
  unfold f_Mo_isWordAt_10
  delta ev_Mo_isWordAt kk_Mo_isWordAt_10
  rfl
noncomputable def kk_Mo_isWordAt : sv_K (Int32 × sv_S) := fun pc => sv_lk pc [(10, fun lo st σ => match lo, st with
    | [some (.inr (.inr (some (30, 0)))), some (.inl x1), some (.inl x2), some (.inl x3), some (.inl x4), _], [.inl y0] => f_Mo_isWordAt_10 x1 x2 x3 x4 y0 σ
    | _, _ => none)]
set_option maxRecDepth 20000 in
theorem e_Mo_isWordAt (a1 : Int32) (a2 : Int32) (a3 : Int32) (a4 : Int32) (σ : sv_S) : sv_ex ev_Mo_isWordAt sv_rZ kk_Mo_isWordAt cd_Mo_isWordAt 59 0 [some (.inr (.inr (some (30, 0)))), some (.inl a1), some (.inl a2), some (.inl a3), some (.inl a4), none] [] σ = f_Mo_isWordAt a1 a2 a3 a4 σ := by
  unfold f_Mo_isWordAt
  delta ev_Mo_isWordAt kk_Mo_isWordAt
  generalize f_Mo_isWordAt_10 = c0
  rfl
theorem d_Mo_isWordAt : cd_Mo_isWordAt.all (sv_dk cX12_isWordAt) = true := by decide +kernel
set_option maxRecDepth 20000 in
theorem w_Mo_isWordAt_10 {Γ : sv_Ga} {res : Int32 × sv_S} (X : sv_Ok Γ ev_Mo_isWordAt cX12_isWordAt sv_rZ res) : ∀ (x1 : Int32) (x2 : Int32) (x3 : Int32) (x4 : Int32) (y0 : Int32) (z5 : Option sv_V) (σ : sv_S), f_Mo_isWordAt_10 x1 x2 x3 x4 y0 σ = some res → sv_T Γ 10 [some (.inr (.inr (some (30, 0)))), some (.inl x1), some (.inl x2), some (.inl x3), some (.inl x4), z5] [.inl y0] σ := by
  intro x1 x2 x3 x4 y0 z5 σ h
  refine sv_run X d_Mo_isWordAt (K := kk_Mo_isWordAt_10) (sv_lk_all (P := fun pc (k : sv_Lo → List sv_V → sv_S → Option (Int32 × sv_S)) => ∀ lo st σ, k lo st σ = some res → sv_T Γ pc lo st σ) ?_) _ _ _ _ _ ((e_Mo_isWordAt_10 x1 x2 x3 x4 y0 z5 σ).trans h)
  clear h
  exact fun _ h => absurd h List.not_mem_nil

set_option maxRecDepth 20000 in
theorem b_Mo_isWordAt (Γ : sv_Ga) (res : Int32 × sv_S) (X : sv_Ok Γ ev_Mo_isWordAt cX12_isWordAt sv_rZ res) (as : List sv_V) (σ : sv_S) (h : n_Mo_isWordAt as σ = some res) : sv_T Γ 0 (sv_e0 6 as) [] σ := by
  unfold n_Mo_isWordAt at h
  split at h
  · refine sv_run X d_Mo_isWordAt (K := kk_Mo_isWordAt) (sv_lk_all (P := fun pc (k : sv_Lo → List sv_V → sv_S → Option (Int32 × sv_S)) => ∀ lo st σ, k lo st σ = some res → sv_T Γ pc lo st σ) ?_) _ _ _ _ _ ((e_Mo_isWordAt _ _ _ _ _).trans h)
    clear h
    refine List.forall_mem_cons.mpr ⟨fun lo st σ h => ?_, fun _ h => absurd h List.not_mem_nil⟩
    · dsimp only at h
      split at h
      · exact w_Mo_isWordAt_10 X _ _ _ _ _ _ _ h
      · cases h
  · cases h
theorem a_Mo_isWordAt (as : List sv_V) (σ : sv_S) (x : Int32 × sv_S) (h : n_Mo_isWordAt as σ = some x) : sv_args 6 ev_Mo_isWordAt.2.2.2.1 as := by
  unfold n_Mo_isWordAt at h
  split at h
  · exact ⟨Nat.le_of_ble_eq_true rfl, fun _ v hv => by
      simp only [List.mem_cons, List.not_mem_nil, or_false] at hv
      rcases hv with rfl | rfl | rfl | rfl | rfl <;> trivial⟩
  · cases h
theorem g_Mo_isWordAt (as : List sv_V) (σ : sv_S) (x : Option sv_V × sv_S) (h : sv_gI n_Mo_isWordAt as σ = some x) : ∃ r i as', as = sv_R r i :: as' ∧ sv_kd r i = .inl 12 := by
  obtain ⟨_, _, h, -⟩ := sv_b_some h
  unfold n_Mo_isWordAt at h
  split at h
  · exact ⟨_, _, _, rfl, rfl⟩
  · cases h

set_option maxRecDepth 20000 in
theorem m_Mo_isWordAt (l : Launch) : sv_M l yX12_isWordAt cX12_isWordAt 6 (some .boolean) (sv_gI n_Mo_isWordAt) 0 := by
  refine sv_mZ (E := ev_Mo_isWordAt) (by decide +kernel) (ln_gen fk_12 kk_12 (sv_ns _ (fun _ => rfl) _)) ?_ a_Mo_isWordAt b_Mo_isWordAt
  intro p e R s m args below meth c cells slots Q base ad dC dI cA n0 S hkn hR hf pc n f h
  refine sv_lk_all (P := fun pc (x : Nat × sv_F) => sv_cok p l e R s m args below meth c cells slots Q base ad dC dI cA true 6 n0 pc x.1 x.2) ?_ pc (n, f) h
  exact fun _ h => absurd h List.not_mem_nil
noncomputable def f_Mo_isLong_11 (x1 : Int32) (x2 : Int32) (x3 : Int32) (x4 : Int32) (x5 : Int32) (x6 : Int32) (y0 : Int32) (σ : sv_S) : Option (Int32 × sv_S) :=
    sv_if ((σ 30 0 20) = (1 : Int32))
      (sv_if (((σ 30 0 19) - (σ 30 0 18)) = y0)
        (sv_g (sv_in (σ 30 0 18) 96) (sv_if ((σ 31 16 ((σ 30 0 18).toNatClampNeg)) = x1)
          (sv_g (sv_in ((σ 30 0 18) + (1 : Int32)) 96) (sv_if ((σ 31 16 (((σ 30 0 18) + (1 : Int32)).toNatClampNeg)) = x2)
            (sv_g (sv_in ((σ 30 0 18) + (2 : Int32)) 96) (sv_if ((σ 31 16 (((σ 30 0 18) + (2 : Int32)).toNatClampNeg)) = x3)
              (sv_g (sv_in ((σ 30 0 18) + (3 : Int32)) 96) (sv_if ((σ 31 16 (((σ 30 0 18) + (3 : Int32)).toNatClampNeg)) = x4)
                (sv_g (sv_in ((σ 30 0 18) + (4 : Int32)) 96) (sv_if ((σ 31 16 (((σ 30 0 18) + (4 : Int32)).toNatClampNeg)) = x5)
                  (sv_if (x6 = 0)
                    (sv_g ((1 : Int32) = 0 ∨ (1 : Int32) = 1) (some ((1 : Int32), σ)))
                    (sv_g (sv_in ((σ 30 0 18) + (5 : Int32)) 96) (sv_if ((σ 31 16 (((σ 30 0 18) + (5 : Int32)).toNatClampNeg)) = x6)
                      (sv_g ((1 : Int32) = 0 ∨ (1 : Int32) = 1) (some ((1 : Int32), σ)))
                      (sv_g ((0 : Int32) = 0 ∨ (0 : Int32) = 1) (some ((0 : Int32), σ))))))
                  (sv_g ((0 : Int32) = 0 ∨ (0 : Int32) = 1) (some ((0 : Int32), σ)))))
                (sv_g ((0 : Int32) = 0 ∨ (0 : Int32) = 1) (some ((0 : Int32), σ)))))
              (sv_g ((0 : Int32) = 0 ∨ (0 : Int32) = 1) (some ((0 : Int32), σ)))))
            (sv_g ((0 : Int32) = 0 ∨ (0 : Int32) = 1) (some ((0 : Int32), σ)))))
          (sv_g ((0 : Int32) = 0 ∨ (0 : Int32) = 1) (some ((0 : Int32), σ)))))
        (sv_g ((0 : Int32) = 0 ∨ (0 : Int32) = 1) (some ((0 : Int32), σ))))
      (sv_g ((0 : Int32) = 0 ∨ (0 : Int32) = 1) (some ((0 : Int32), σ)))
noncomputable def f_Mo_isLong (a1 : Int32) (a2 : Int32) (a3 : Int32) (a4 : Int32) (a5 : Int32) (a6 : Int32) (σ : sv_S) : Option (Int32 × sv_S) :=
  sv_if (a6 = 0)
    (f_Mo_isLong_11 a1 a2 a3 a4 a5 a6 (5 : Int32) σ)
    (f_Mo_isLong_11 a1 a2 a3 a4 a5 a6 (6 : Int32) σ)
noncomputable def n_Mo_isLong : List sv_V → sv_S → Option (Int32 × sv_S)
  | [.inr (.inr (some (30, 0))), .inl a1, .inl a2, .inl a3, .inl a4, .inl a5, .inl a6], σ => f_Mo_isLong a1 a2 a3 a4 a5 a6 σ
  | _, _ => none
def cd_Mo_isLong : sv_C := [(0, (.iload 6, (sv_N, (2, (0, []))))), (2, (.ifCond .ne 7, (sv_N, (5, (9, []))))), (5, (.iconst 5, (.inl (5 : Int32), (6, (0, []))))), (6, (.goto 5, (sv_N, (9, (11, []))))), (9, (.bipush 6, (.inl (6 : Int32), (11, (0, []))))), (11, (.istore 7, (sv_N, (13, (0, []))))), (13, (.aload_n 0, (sv_N, (14, (0, []))))), (14, (.getfield 211, (sv_N, (17, (0, []))))), (17, (.iconst 1, (.inl (1 : Int32), (18, (0, []))))), (18, (.if_icmp .ne 117, (sv_N, (21, (135, []))))), (21, (.aload_n 0, (sv_N, (22, (0, []))))), (22, (.getfield 208, (sv_N, (25, (0, []))))), (25, (.aload_n 0, (sv_N, (26, (0, []))))), (26, (.getfield 214, (sv_N, (29, (0, []))))), (29, (.isub, (sv_N, (30, (0, []))))), (30, (.iload 7, (sv_N, (32, (0, []))))), (32, (.if_icmp .ne 103, (sv_N, (35, (135, []))))), (35, (.aload_n 0, (sv_N, (36, (0, []))))), (36, (.getfield 52, (sv_N, (39, (0, []))))), (39, (.aload_n 0, (sv_N, (40, (0, []))))), (40, (.getfield 214, (sv_N, (43, (0, []))))), (43, (.iaload, (sv_N, (44, (0, []))))), (44, (.iload_n 1, (sv_N, (45, (0, []))))), (45, (.if_icmp .ne 90, (sv_N, (48, (135, []))))), (48, (.aload_n 0, (sv_N, (49, (0, []))))), (49, (.getfield 52, (sv_N, (52, (0, []))))), (52, (.aload_n 0, (sv_N, (53, (0, []))))), (53, (.getfield 214, (sv_N, (56, (0, []))))), (56, (.iconst 1, (.inl (1 : Int32), (57, (0, []))))), (57, (.iadd, (sv_N, (58, (0, []))))), (58, (.iaload, (sv_N, (59, (0, []))))), (59, (.iload_n 2, (sv_N, (60, (0, []))))), (60, (.if_icmp .ne 75, (sv_N, (63, (135, []))))), (63, (.aload_n 0, (sv_N, (64, (0, []))))), (64, (.getfield 52, (sv_N, (67, (0, []))))), (67, (.aload_n 0, (sv_N, (68, (0, []))))), (68, (.getfield 214, (sv_N, (71, (0, []))))), (71, (.iconst 2, (.inl (2 : Int32), (72, (0, []))))), (72, (.iadd, (sv_N, (73, (0, []))))), (73, (.iaload, (sv_N, (74, (0, []))))), (74, (.iload_n 3, (sv_N, (75, (0, []))))), (75, (.if_icmp .ne 60, (sv_N, (78, (135, []))))), (78, (.aload_n 0, (sv_N, (79, (0, []))))), (79, (.getfield 52, (sv_N, (82, (0, []))))), (82, (.aload_n 0, (sv_N, (83, (0, []))))), (83, (.getfield 214, (sv_N, (86, (0, []))))), (86, (.iconst 3, (.inl (3 : Int32), (87, (0, []))))), (87, (.iadd, (sv_N, (88, (0, []))))), (88, (.iaload, (sv_N, (89, (0, []))))), (89, (.iload 4, (sv_N, (91, (0, []))))), (91, (.if_icmp .ne 44, (sv_N, (94, (135, []))))), (94, (.aload_n 0, (sv_N, (95, (0, []))))), (95, (.getfield 52, (sv_N, (98, (0, []))))), (98, (.aload_n 0, (sv_N, (99, (0, []))))), (99, (.getfield 214, (sv_N, (102, (0, []))))), (102, (.iconst 4, (.inl (4 : Int32), (103, (0, []))))), (103, (.iadd, (sv_N, (104, (0, []))))), (104, (.iaload, (sv_N, (105, (0, []))))), (105, (.iload 5, (sv_N, (107, (0, []))))), (107, (.if_icmp .ne 28, (sv_N, (110, (135, []))))), (110, (.iload 6, (sv_N, (112, (0, []))))), (112, (.ifCond .eq 19, (sv_N, (115, (131, []))))), (115, (.aload_n 0, (sv_N, (116, (0, []))))), (116, (.getfield 52, (sv_N, (119, (0, []))))), (119, (.aload_n 0, (sv_N, (120, (0, []))))), (120, (.getfield 214, (sv_N, (123, (0, []))))), (123, (.iconst 5, (.inl (5 : Int32), (124, (0, []))))), (124, (.iadd, (sv_N, (125, (0, []))))), (125, (.iaload, (sv_N, (126, (0, []))))), (126, (.iload 6, (sv_N, (128, (0, []))))), (128, (.if_icmp .ne 7, (sv_N, (131, (135, []))))), (131, (.iconst 1, (.inl (1 : Int32), (132, (0, []))))), (132, (.goto 4, (sv_N, (135, (136, []))))), (135, (.iconst 0, (.inl (0 : Int32), (136, (0, []))))), (136, (.ireturn, (sv_N, (137, (0, [])))))]
noncomputable def ev_Mo_isLong : sv_E := (fun i => sv_lk i fl_12, (fun i => sv_lk i kc_12, (fun _ => false, (true, fun pc => sv_lk pc []))))
noncomputable def kk_Mo_isLong_11 : sv_K (Int32 × sv_S) := fun pc => sv_lk pc []
set_option maxRecDepth 20000 in
theorem e_Mo_isLong_11 (x1 : Int32) (x2 : Int32) (x3 : Int32) (x4 : Int32) (x5 : Int32) (x6 : Int32) (y0 : Int32) (z7 : Option sv_V) (σ : sv_S) : sv_ex ev_Mo_isLong sv_rZ (kk_Mo_isLong_11) cd_Mo_isLong 77 11 [some (.inr (.inr (some (30, 0)))), some (.inl x1), some (.inl x2), some (.inl x3), some (.inl x4), some (.inl x5), some (.inl x6), z7] [.inl y0] σ = f_Mo_isLong_11 x1 x2 x3 x4 x5 x6 y0 σ := by
  unfold f_Mo_isLong_11
  delta ev_Mo_isLong kk_Mo_isLong_11
  rfl
noncomputable def kk_Mo_isLong : sv_K (Int32 × sv_S) := fun pc => sv_lk pc [(11, fun lo st σ => match lo, st with
    | [some (.inr (.inr (some (30, 0)))), some (.inl x1), some (.inl x2), some (.inl x3), some (.inl x4), some (.inl x5), some (.inl x6), _], [.inl y0] => f_Mo_isLong_11 x1 x2 x3 x4 x5 x6 y0 σ
    | _, _ => none)]
set_option maxRecDepth 20000 in
theorem e_Mo_isLong (a1 : Int32) (a2 : Int32) (a3 : Int32) (a4 : Int32) (a5 : Int32) (a6 : Int32) (σ : sv_S) : sv_ex ev_Mo_isLong sv_rZ kk_Mo_isLong cd_Mo_isLong 77 0 [some (.inr (.inr (some (30, 0)))), some (.inl a1), some (.inl a2), some (.inl a3), some (.inl a4), some (.inl a5), some (.inl a6), none] [] σ = f_Mo_isLong a1 a2 a3 a4 a5 a6 σ := by
  unfold f_Mo_isLong
  delta ev_Mo_isLong kk_Mo_isLong
  generalize f_Mo_isLong_11 = c0
  rfl
theorem d_Mo_isLong : cd_Mo_isLong.all (sv_dk cX12_isLong) = true := by decide +kernel
set_option maxRecDepth 20000 in
theorem w_Mo_isLong_11 {Γ : sv_Ga} {res : Int32 × sv_S} (X : sv_Ok Γ ev_Mo_isLong cX12_isLong sv_rZ res) : ∀ (x1 : Int32) (x2 : Int32) (x3 : Int32) (x4 : Int32) (x5 : Int32) (x6 : Int32) (y0 : Int32) (z7 : Option sv_V) (σ : sv_S), f_Mo_isLong_11 x1 x2 x3 x4 x5 x6 y0 σ = some res → sv_T Γ 11 [some (.inr (.inr (some (30, 0)))), some (.inl x1), some (.inl x2), some (.inl x3), some (.inl x4), some (.inl x5), some (.inl x6), z7] [.inl y0] σ := by
  intro x1 x2 x3 x4 x5 x6 y0 z7 σ h
  refine sv_run X d_Mo_isLong (K := kk_Mo_isLong_11) (sv_lk_all (P := fun pc (k : sv_Lo → List sv_V → sv_S → Option (Int32 × sv_S)) => ∀ lo st σ, k lo st σ = some res → sv_T Γ pc lo st σ) ?_) _ _ _ _ _ ((e_Mo_isLong_11 x1 x2 x3 x4 x5 x6 y0 z7 σ).trans h)
  clear h
  exact fun _ h => absurd h List.not_mem_nil

set_option maxRecDepth 20000 in
theorem b_Mo_isLong (Γ : sv_Ga) (res : Int32 × sv_S) (X : sv_Ok Γ ev_Mo_isLong cX12_isLong sv_rZ res) (as : List sv_V) (σ : sv_S) (h : n_Mo_isLong as σ = some res) : sv_T Γ 0 (sv_e0 8 as) [] σ := by
  unfold n_Mo_isLong at h
  split at h
  · refine sv_run X d_Mo_isLong (K := kk_Mo_isLong) (sv_lk_all (P := fun pc (k : sv_Lo → List sv_V → sv_S → Option (Int32 × sv_S)) => ∀ lo st σ, k lo st σ = some res → sv_T Γ pc lo st σ) ?_) _ _ _ _ _ ((e_Mo_isLong _ _ _ _ _ _ _).trans h)
    clear h
    refine List.forall_mem_cons.mpr ⟨fun lo st σ h => ?_, fun _ h => absurd h List.not_mem_nil⟩
    · dsimp only at h
      split at h
      · exact w_Mo_isLong_11 X _ _ _ _ _ _ _ _ _ h
      · cases h
  · cases h
theorem a_Mo_isLong (as : List sv_V) (σ : sv_S) (x : Int32 × sv_S) (h : n_Mo_isLong as σ = some x) : sv_args 8 ev_Mo_isLong.2.2.2.1 as := by
  unfold n_Mo_isLong at h
  split at h
  · exact ⟨Nat.le_of_ble_eq_true rfl, fun _ v hv => by
      simp only [List.mem_cons, List.not_mem_nil, or_false] at hv
      rcases hv with rfl | rfl | rfl | rfl | rfl | rfl | rfl <;> trivial⟩
  · cases h
theorem g_Mo_isLong (as : List sv_V) (σ : sv_S) (x : Option sv_V × sv_S) (h : sv_gI n_Mo_isLong as σ = some x) : ∃ r i as', as = sv_R r i :: as' ∧ sv_kd r i = .inl 12 := by
  obtain ⟨_, _, h, -⟩ := sv_b_some h
  unfold n_Mo_isLong at h
  split at h
  · exact ⟨_, _, _, rfl, rfl⟩
  · cases h

set_option maxRecDepth 20000 in
theorem m_Mo_isLong (l : Launch) : sv_M l yX12_isLong cX12_isLong 8 (some .boolean) (sv_gI n_Mo_isLong) 0 := by
  refine sv_mZ (E := ev_Mo_isLong) (by decide +kernel) (ln_gen fk_12 kk_12 (sv_ns _ (fun _ => rfl) _)) ?_ a_Mo_isLong b_Mo_isLong
  intro p e R s m args below meth c cells slots Q base ad dC dI cA n0 S hkn hR hf pc n f h
  refine sv_lk_all (P := fun pc (x : Nat × sv_F) => sv_cok p l e R s m args below meth c cells slots Q base ad dC dI cA true 8 n0 pc x.1 x.2) ?_ pc (n, f) h
  exact fun _ h => absurd h List.not_mem_nil
noncomputable def f_Mo_key (σ : sv_S) : Option (Int32 × sv_S) :=
  sv_b (f_Mo_isWordAt (104 : Int32) (101 : Int32) (97 : Int32) (114 : Int32) σ) (fun v1 σ2 =>
    sv_if (v1 = 0)
      (sv_b (f_Mo_isLong (115 : Int32) (116 : Int32) (97 : Int32) (114 : Int32) (116 : Int32) (0 : Int32) σ2) (fun v3 σ4 =>
        sv_if (v3 = 0)
          (sv_b (f_Mo_isWordAt (102 : Int32) (105 : Int32) (110 : Int32) (101 : Int32) σ4) (fun v5 σ6 =>
            sv_if (v5 = 0)
              (some ((-1 : Int32), σ6))
              (some ((2 : Int32), σ6))))
          (some ((1 : Int32), σ4))))
      (some ((0 : Int32), σ2)))
noncomputable def n_Mo_key : List sv_V → sv_S → Option (Int32 × sv_S)
  | [.inr (.inr (some (30, 0)))], σ => f_Mo_key σ
  | _, _ => none
def cd_Mo_key : sv_C := [(0, (.aload_n 0, (sv_N, (1, (0, []))))), (1, (.bipush 104, (.inl (104 : Int32), (3, (0, []))))), (3, (.bipush 101, (.inl (101 : Int32), (5, (0, []))))), (5, (.bipush 97, (.inl (97 : Int32), (7, (0, []))))), (7, (.bipush 114, (.inl (114 : Int32), (9, (0, []))))), (9, (.invokevirtual 229, (sv_N, (12, (0, []))))), (12, (.ifCond .eq 5, (sv_N, (15, (17, []))))), (15, (.iconst 0, (.inl (0 : Int32), (16, (0, []))))), (16, (.ireturn, (sv_N, (17, (0, []))))), (17, (.aload_n 0, (sv_N, (18, (0, []))))), (18, (.bipush 115, (.inl (115 : Int32), (20, (0, []))))), (20, (.bipush 116, (.inl (116 : Int32), (22, (0, []))))), (22, (.bipush 97, (.inl (97 : Int32), (24, (0, []))))), (24, (.bipush 114, (.inl (114 : Int32), (26, (0, []))))), (26, (.bipush 116, (.inl (116 : Int32), (28, (0, []))))), (28, (.iconst 0, (.inl (0 : Int32), (29, (0, []))))), (29, (.invokevirtual 233, (sv_N, (32, (0, []))))), (32, (.ifCond .eq 5, (sv_N, (35, (37, []))))), (35, (.iconst 1, (.inl (1 : Int32), (36, (0, []))))), (36, (.ireturn, (sv_N, (37, (0, []))))), (37, (.aload_n 0, (sv_N, (38, (0, []))))), (38, (.bipush 102, (.inl (102 : Int32), (40, (0, []))))), (40, (.bipush 105, (.inl (105 : Int32), (42, (0, []))))), (42, (.bipush 110, (.inl (110 : Int32), (44, (0, []))))), (44, (.bipush 101, (.inl (101 : Int32), (46, (0, []))))), (46, (.invokevirtual 229, (sv_N, (49, (0, []))))), (49, (.ifCond .eq 7, (sv_N, (52, (56, []))))), (52, (.iconst 2, (.inl (2 : Int32), (53, (0, []))))), (53, (.goto 4, (sv_N, (56, (57, []))))), (56, (.iconst (-1), (.inl (-1 : Int32), (57, (0, []))))), (57, (.ireturn, (sv_N, (58, (0, [])))))]
noncomputable def ev_Mo_key : sv_E := (fun i => sv_lk i fl_12, (fun i => sv_lk i kc_12, (fun _ => false, (true, fun pc => sv_lk pc [(9, (5, .inl n_Mo_isWordAt)), (29, (7, .inl n_Mo_isLong)), (46, (5, .inl n_Mo_isWordAt))]))))
noncomputable def kk_Mo_key : sv_K (Int32 × sv_S) := fun pc => sv_lk pc []
set_option maxRecDepth 20000 in
theorem e_Mo_key (σ : sv_S) : sv_ex ev_Mo_key sv_rI kk_Mo_key cd_Mo_key 33 0 [some (.inr (.inr (some (30, 0))))] [] σ = f_Mo_key σ := by
  unfold f_Mo_key
  delta ev_Mo_key kk_Mo_key n_Mo_isWordAt n_Mo_isLong
  generalize f_Mo_isWordAt = c0
  generalize f_Mo_isLong = c1
  rfl
theorem d_Mo_key : cd_Mo_key.all (sv_dk cX12_key) = true := by decide +kernel
set_option maxRecDepth 20000 in
theorem b_Mo_key (Γ : sv_Ga) (res : Int32 × sv_S) (X : sv_Ok Γ ev_Mo_key cX12_key sv_rI res) (as : List sv_V) (σ : sv_S) (h : n_Mo_key as σ = some res) : sv_T Γ 0 (sv_e0 1 as) [] σ := by
  unfold n_Mo_key at h
  split at h
  · refine sv_run X d_Mo_key (K := kk_Mo_key) (sv_lk_all (P := fun pc (k : sv_Lo → List sv_V → sv_S → Option (Int32 × sv_S)) => ∀ lo st σ, k lo st σ = some res → sv_T Γ pc lo st σ) ?_) _ _ _ _ _ ((e_Mo_key _).trans h)
    clear h
    exact fun _ h => absurd h List.not_mem_nil
  · cases h
theorem a_Mo_key (as : List sv_V) (σ : sv_S) (x : Int32 × sv_S) (h : n_Mo_key as σ = some x) : sv_args 1 ev_Mo_key.2.2.2.1 as := by
  unfold n_Mo_key at h
  split at h
  · exact ⟨Nat.le_of_ble_eq_true rfl, fun _ v hv => by
      simp only [List.mem_cons, List.not_mem_nil, or_false] at hv
      rcases hv with rfl <;> trivial⟩
  · cases h
theorem g_Mo_key (as : List sv_V) (σ : sv_S) (x : Option sv_V × sv_S) (h : sv_gI n_Mo_key as σ = some x) : ∃ r i as', as = sv_R r i :: as' ∧ sv_kd r i = .inl 12 := by
  obtain ⟨_, _, h, -⟩ := sv_b_some h
  unfold n_Mo_key at h
  split at h
  · exact ⟨_, _, _, rfl, rfl⟩
  · cases h
theorem tw_38 : Cond.selects RX12 yX12_isWordAt yX12_isWordAt ∈ gw_tbl := gw_at 38 (by decide +kernel) rfl
theorem tw_39 : Cond.selects RX12 yX12_isLong yX12_isLong ∈ gw_tbl := gw_at 39 (by decide +kernel) rfl
theorem tw_1350 : Cond.methodLink RX12 229 yX12_isWordAt ∈ gw_tbl := gw_at 1350 (by decide +kernel) rfl
theorem tw_1352 : Cond.instanceMethod yX12_isWordAt ∈ gw_tbl := gw_at 1352 (by decide +kernel) rfl
theorem tw_1353 : Cond.code yX12_isWordAt cX12_isWordAt 6 (some .boolean) ∈ gw_tbl := gw_at 1353 (by decide +kernel) rfl
theorem tw_1354 : Cond.methodLink RX12 233 yX12_isLong ∈ gw_tbl := gw_at 1354 (by decide +kernel) rfl
theorem tw_1356 : Cond.instanceMethod yX12_isLong ∈ gw_tbl := gw_at 1356 (by decide +kernel) rfl
theorem tw_1357 : Cond.code yX12_isLong cX12_isLong 8 (some .boolean) ∈ gw_tbl := gw_at 1357 (by decide +kernel) rfl
set_option maxRecDepth 20000 in
theorem m_Mo_key (l : Launch) : sv_M l yX12_key cX12_key 1 (some .int) (sv_gI n_Mo_key) 1 := by
  refine sv_mI (E := ev_Mo_key) (by decide +kernel) (ln_gen fk_12 kk_12 (sv_ns _ (fun _ => rfl) _)) ?_ a_Mo_key b_Mo_key
  intro p e R s m args below meth c cells slots Q base ad dC dI cA n0 S hkn hR hf pc n f h
  refine sv_lk_all (P := fun pc (x : Nat × sv_F) => sv_cok p l e R s m args below meth c cells slots Q base ad dC dI cA true 1 n0 pc x.1 x.2) ?_ pc (n, f) h
  exact List.forall_mem_cons.mpr ⟨(sv_cV S hkn (m_Mo_isWordAt l) ⟨Nat.le_trans (by decide) hR.1, Nat.le_trans (by decide) hR.2⟩ (by decide) hf rfl g_Mo_isWordAt (sv_w5 tw_1350 tw_1352 tw_38 tw_65 tw_1353) (by decide +kernel) (sv_dc3 d_Mo_key (pc := 9) rfl rfl)).I,
      List.forall_mem_cons.mpr ⟨(sv_cV S hkn (m_Mo_isLong l) ⟨Nat.le_trans (by decide) hR.1, Nat.le_trans (by decide) hR.2⟩ (by decide) hf rfl g_Mo_isLong (sv_w5 tw_1354 tw_1356 tw_39 tw_65 tw_1357) (by decide +kernel) (sv_dc3 d_Mo_key (pc := 29) rfl rfl)).I,
      List.forall_mem_cons.mpr ⟨(sv_cV S hkn (m_Mo_isWordAt l) ⟨Nat.le_trans (by decide) hR.1, Nat.le_trans (by decide) hR.2⟩ (by decide) hf rfl g_Mo_isWordAt (sv_w5 tw_1350 tw_1352 tw_38 tw_65 tw_1353) (by decide +kernel) (sv_dc3 d_Mo_key (pc := 46) rfl rfl)).I,
      fun _ h => absurd h List.not_mem_nil⟩⟩⟩
noncomputable def f_Mo_isName (a0 : Int32) (a1 : Int32) (σ : sv_S) : Option (Int32 × sv_S) :=
  sv_if (a0.toInt = 0)
    (sv_if (a1 = (108 : Int32))
      (sv_g ((1 : Int32) = 0 ∨ (1 : Int32) = 1) (some ((1 : Int32), σ)))
      (sv_if (a1 = (114 : Int32))
        (sv_g ((1 : Int32) = 0 ∨ (1 : Int32) = 1) (some ((1 : Int32), σ)))
        (sv_if (a1 = (110 : Int32))
          (sv_g ((1 : Int32) = 0 ∨ (1 : Int32) = 1) (some ((1 : Int32), σ)))
          (sv_g ((0 : Int32) = 0 ∨ (0 : Int32) = 1) (some ((0 : Int32), σ))))))
    (sv_if (a0.toInt = 1)
    (sv_if (a1 = (115 : Int32))
      (sv_g ((1 : Int32) = 0 ∨ (1 : Int32) = 1) (some ((1 : Int32), σ)))
      (sv_if (a1 = (110 : Int32))
        (sv_g ((1 : Int32) = 0 ∨ (1 : Int32) = 1) (some ((1 : Int32), σ)))
        (sv_if (a1 = (98 : Int32))
          (sv_g ((1 : Int32) = 0 ∨ (1 : Int32) = 1) (some ((1 : Int32), σ)))
          (sv_g ((0 : Int32) = 0 ∨ (0 : Int32) = 1) (some ((0 : Int32), σ))))))
    (sv_if (a1 = (109 : Int32))
      (sv_g ((1 : Int32) = 0 ∨ (1 : Int32) = 1) (some ((1 : Int32), σ)))
      (sv_if (a1 = (98 : Int32))
        (sv_g ((1 : Int32) = 0 ∨ (1 : Int32) = 1) (some ((1 : Int32), σ)))
        (sv_g ((0 : Int32) = 0 ∨ (0 : Int32) = 1) (some ((0 : Int32), σ))))))
noncomputable def n_Mo_isName : List sv_V → sv_S → Option (Int32 × sv_S)
  | [.inl a0, .inl a1], σ => f_Mo_isName a0 a1 σ
  | _, _ => none
def cd_Mo_isName : sv_C := [(0, (.iload_n 0, (sv_N, (1, (0, []))))), (1, (.lookupswitch 75 #[(0, 27), (1, 51)], (sv_N, (1, (76, [(0, 28), (1, 52)]))))), (28, (.iload_n 1, (sv_N, (29, (0, []))))), (29, (.bipush 108, (.inl (108 : Int32), (31, (0, []))))), (31, (.if_icmp .eq 15, (sv_N, (34, (46, []))))), (34, (.iload_n 1, (sv_N, (35, (0, []))))), (35, (.bipush 114, (.inl (114 : Int32), (37, (0, []))))), (37, (.if_icmp .eq 9, (sv_N, (40, (46, []))))), (40, (.iload_n 1, (sv_N, (41, (0, []))))), (41, (.bipush 110, (.inl (110 : Int32), (43, (0, []))))), (43, (.if_icmp .ne 7, (sv_N, (46, (50, []))))), (46, (.iconst 1, (.inl (1 : Int32), (47, (0, []))))), (47, (.goto 4, (sv_N, (50, (51, []))))), (50, (.iconst 0, (.inl (0 : Int32), (51, (0, []))))), (51, (.ireturn, (sv_N, (52, (0, []))))), (52, (.iload_n 1, (sv_N, (53, (0, []))))), (53, (.bipush 115, (.inl (115 : Int32), (55, (0, []))))), (55, (.if_icmp .eq 15, (sv_N, (58, (70, []))))), (58, (.iload_n 1, (sv_N, (59, (0, []))))), (59, (.bipush 110, (.inl (110 : Int32), (61, (0, []))))), (61, (.if_icmp .eq 9, (sv_N, (64, (70, []))))), (64, (.iload_n 1, (sv_N, (65, (0, []))))), (65, (.bipush 98, (.inl (98 : Int32), (67, (0, []))))), (67, (.if_icmp .ne 7, (sv_N, (70, (74, []))))), (70, (.iconst 1, (.inl (1 : Int32), (71, (0, []))))), (71, (.goto 4, (sv_N, (74, (75, []))))), (74, (.iconst 0, (.inl (0 : Int32), (75, (0, []))))), (75, (.ireturn, (sv_N, (76, (0, []))))), (76, (.iload_n 1, (sv_N, (77, (0, []))))), (77, (.bipush 109, (.inl (109 : Int32), (79, (0, []))))), (79, (.if_icmp .eq 9, (sv_N, (82, (88, []))))), (82, (.iload_n 1, (sv_N, (83, (0, []))))), (83, (.bipush 98, (.inl (98 : Int32), (85, (0, []))))), (85, (.if_icmp .ne 7, (sv_N, (88, (92, []))))), (88, (.iconst 1, (.inl (1 : Int32), (89, (0, []))))), (89, (.goto 4, (sv_N, (92, (93, []))))), (92, (.iconst 0, (.inl (0 : Int32), (93, (0, []))))), (93, (.ireturn, (sv_N, (94, (0, [])))))]
noncomputable def ev_Mo_isName : sv_E := (fun i => sv_lk i fl_12, (fun i => sv_lk i kc_12, (fun _ => false, (true, fun pc => sv_lk pc []))))
noncomputable def kk_Mo_isName : sv_K (Int32 × sv_S) := fun pc => sv_lk pc []
set_option maxRecDepth 20000 in
theorem e_Mo_isName (a0 : Int32) (a1 : Int32) (σ : sv_S) : sv_ex ev_Mo_isName sv_rZ kk_Mo_isName cd_Mo_isName 40 0 [some (.inl a0), some (.inl a1)] [] σ = f_Mo_isName a0 a1 σ := by
  unfold f_Mo_isName
  delta ev_Mo_isName kk_Mo_isName
  rfl
theorem d_Mo_isName : cd_Mo_isName.all (sv_dk cX12_isName) = true := by decide +kernel
set_option maxRecDepth 20000 in
theorem b_Mo_isName (Γ : sv_Ga) (res : Int32 × sv_S) (X : sv_Ok Γ ev_Mo_isName cX12_isName sv_rZ res) (as : List sv_V) (σ : sv_S) (h : n_Mo_isName as σ = some res) : sv_T Γ 0 (sv_e0 2 as) [] σ := by
  unfold n_Mo_isName at h
  split at h
  · refine sv_run X d_Mo_isName (K := kk_Mo_isName) (sv_lk_all (P := fun pc (k : sv_Lo → List sv_V → sv_S → Option (Int32 × sv_S)) => ∀ lo st σ, k lo st σ = some res → sv_T Γ pc lo st σ) ?_) _ _ _ _ _ ((e_Mo_isName _ _ _).trans h)
    clear h
    exact fun _ h => absurd h List.not_mem_nil
  · cases h
theorem a_Mo_isName (as : List sv_V) (σ : sv_S) (x : Int32 × sv_S) (h : n_Mo_isName as σ = some x) : sv_args 2 ev_Mo_isName.2.2.2.1 as := by
  unfold n_Mo_isName at h
  split at h
  · exact ⟨Nat.le_of_ble_eq_true rfl, fun _ v hv => by
      simp only [List.mem_cons, List.not_mem_nil, or_false] at hv
      rcases hv with rfl | rfl <;> trivial⟩
  · cases h

set_option maxRecDepth 20000 in
theorem m_Mo_isName (l : Launch) : sv_M l yX12_isName cX12_isName 2 (some .boolean) (sv_gI n_Mo_isName) 0 := by
  refine sv_mZ (E := ev_Mo_isName) (by decide +kernel) (ln_gen fk_12 kk_12 (sv_ns _ (fun _ => rfl) _)) ?_ a_Mo_isName b_Mo_isName
  intro p e R s m args below meth c cells slots Q base ad dC dI cA n0 S hkn hR hf pc n f h
  refine sv_lk_all (P := fun pc (x : Nat × sv_F) => sv_cok p l e R s m args below meth c cells slots Q base ad dC dI cA true 2 n0 pc x.1 x.2) ?_ pc (n, f) h
  exact fun _ h => absurd h List.not_mem_nil
noncomputable def f_Mo_step (a1 : Int32) (a2 : Int32) (σ : sv_S) : Option (sv_S) :=
  sv_g (sv_in ((σ 30 0 26) + ((2 : Int32) * (σ 30 0 25))) 3086) (sv_g (sv_in ((((sv_up σ 31 0 (((σ 30 0 26) + ((2 : Int32) * (σ 30 0 25))).toNatClampNeg) a1) 30 0 26) + ((2 : Int32) * ((sv_up σ 31 0 (((σ 30 0 26) + ((2 : Int32) * (σ 30 0 25))).toNatClampNeg) a1) 30 0 25))) + (1 : Int32)) 3086) (let σ1 := sv_up (sv_up (sv_up σ 31 0 (((σ 30 0 26) + ((2 : Int32) * (σ 30 0 25))).toNatClampNeg) a1) 31 0 (((((sv_up σ 31 0 (((σ 30 0 26) + ((2 : Int32) * (σ 30 0 25))).toNatClampNeg) a1) 30 0 26) + ((2 : Int32) * ((sv_up σ 31 0 (((σ 30 0 26) + ((2 : Int32) * (σ 30 0 25))).toNatClampNeg) a1) 30 0 25))) + (1 : Int32)).toNatClampNeg) a2) 30 0 25 (((sv_up (sv_up σ 31 0 (((σ 30 0 26) + ((2 : Int32) * (σ 30 0 25))).toNatClampNeg) a1) 31 0 (((((sv_up σ 31 0 (((σ 30 0 26) + ((2 : Int32) * (σ 30 0 25))).toNatClampNeg) a1) 30 0 26) + ((2 : Int32) * ((sv_up σ 31 0 (((σ 30 0 26) + ((2 : Int32) * (σ 30 0 25))).toNatClampNeg) a1) 30 0 25))) + (1 : Int32)).toNatClampNeg) a2) 30 0 25) + (1 : Int32))
  some σ1))
noncomputable def n_Mo_step : List sv_V → sv_S → Option (sv_S)
  | [.inr (.inr (some (30, 0))), .inl a1, .inl a2], σ => f_Mo_step a1 a2 σ
  | _, _ => none
def cd_Mo_step : sv_C := [(0, (.aload_n 0, (sv_N, (1, (0, []))))), (1, (.getfield 7, (sv_N, (4, (0, []))))), (4, (.aload_n 0, (sv_N, (5, (0, []))))), (5, (.getfield 237, (sv_N, (8, (0, []))))), (8, (.iconst 2, (.inl (2 : Int32), (9, (0, []))))), (9, (.aload_n 0, (sv_N, (10, (0, []))))), (10, (.getfield 240, (sv_N, (13, (0, []))))), (13, (.imul, (sv_N, (14, (0, []))))), (14, (.iadd, (sv_N, (15, (0, []))))), (15, (.iload_n 1, (sv_N, (16, (0, []))))), (16, (.iastore, (sv_N, (17, (0, []))))), (17, (.aload_n 0, (sv_N, (18, (0, []))))), (18, (.getfield 7, (sv_N, (21, (0, []))))), (21, (.aload_n 0, (sv_N, (22, (0, []))))), (22, (.getfield 237, (sv_N, (25, (0, []))))), (25, (.iconst 2, (.inl (2 : Int32), (26, (0, []))))), (26, (.aload_n 0, (sv_N, (27, (0, []))))), (27, (.getfield 240, (sv_N, (30, (0, []))))), (30, (.imul, (sv_N, (31, (0, []))))), (31, (.iadd, (sv_N, (32, (0, []))))), (32, (.iconst 1, (.inl (1 : Int32), (33, (0, []))))), (33, (.iadd, (sv_N, (34, (0, []))))), (34, (.iload_n 2, (sv_N, (35, (0, []))))), (35, (.iastore, (sv_N, (36, (0, []))))), (36, (.aload_n 0, (sv_N, (37, (0, []))))), (37, (.dup, (sv_N, (38, (0, []))))), (38, (.getfield 240, (sv_N, (41, (0, []))))), (41, (.iconst 1, (.inl (1 : Int32), (42, (0, []))))), (42, (.iadd, (sv_N, (43, (0, []))))), (43, (.putfield 240, (sv_N, (46, (0, []))))), (46, (.return_, (sv_N, (47, (0, [])))))]
noncomputable def ev_Mo_step : sv_E := (fun i => sv_lk i fl_12, (fun i => sv_lk i kc_12, (fun _ => false, (true, fun pc => sv_lk pc []))))
noncomputable def kk_Mo_step : sv_K (sv_S) := fun pc => sv_lk pc []
set_option maxRecDepth 20000 in
theorem e_Mo_step (a1 : Int32) (a2 : Int32) (σ : sv_S) : sv_ex ev_Mo_step sv_rV kk_Mo_step cd_Mo_step 33 0 [some (.inr (.inr (some (30, 0)))), some (.inl a1), some (.inl a2)] [] σ = f_Mo_step a1 a2 σ := by
  unfold f_Mo_step
  delta ev_Mo_step kk_Mo_step
  rfl
theorem d_Mo_step : cd_Mo_step.all (sv_dk cX12_step) = true := by decide +kernel
set_option maxRecDepth 20000 in
theorem b_Mo_step (Γ : sv_Ga) (res : sv_S) (X : sv_Ok Γ ev_Mo_step cX12_step sv_rV res) (as : List sv_V) (σ : sv_S) (h : n_Mo_step as σ = some res) : sv_T Γ 0 (sv_e0 3 as) [] σ := by
  unfold n_Mo_step at h
  split at h
  · refine sv_run X d_Mo_step (K := kk_Mo_step) (sv_lk_all (P := fun pc (k : sv_Lo → List sv_V → sv_S → Option (sv_S)) => ∀ lo st σ, k lo st σ = some res → sv_T Γ pc lo st σ) ?_) _ _ _ _ _ ((e_Mo_step _ _ _).trans h)
    clear h
    exact fun _ h => absurd h List.not_mem_nil
  · cases h
theorem a_Mo_step (as : List sv_V) (σ : sv_S) (x : sv_S) (h : n_Mo_step as σ = some x) : sv_args 3 ev_Mo_step.2.2.2.1 as := by
  unfold n_Mo_step at h
  split at h
  · exact ⟨Nat.le_of_ble_eq_true rfl, fun _ v hv => by
      simp only [List.mem_cons, List.not_mem_nil, or_false] at hv
      rcases hv with rfl | rfl | rfl <;> trivial⟩
  · cases h
theorem g_Mo_step (as : List sv_V) (σ : sv_S) (x : Option sv_V × sv_S) (h : sv_gV n_Mo_step as σ = some x) : ∃ r i as', as = sv_R r i :: as' ∧ sv_kd r i = .inl 12 := by
  obtain ⟨_, h, -⟩ := sv_b0_some h
  unfold n_Mo_step at h
  split at h
  · exact ⟨_, _, _, rfl, rfl⟩
  · cases h

set_option maxRecDepth 20000 in
theorem m_Mo_step (l : Launch) : sv_M l yX12_step cX12_step 3 none (sv_gV n_Mo_step) 0 := by
  refine sv_mV (E := ev_Mo_step) (by decide +kernel) (ln_gen fk_12 kk_12 (sv_ns _ (fun _ => rfl) _)) ?_ a_Mo_step b_Mo_step
  intro p e R s m args below meth c cells slots Q base ad dC dI cA n0 S hkn hR hf pc n f h
  refine sv_lk_all (P := fun pc (x : Nat × sv_F) => sv_cok p l e R s m args below meth c cells slots Q base ad dC dI cA true 3 n0 pc x.1 x.2) ?_ pc (n, f) h
  exact fun _ h => absurd h List.not_mem_nil
noncomputable def f_Mo_textTold (a1 : Int32) (a2 : Int32) (σ : sv_S) : Option (Int32 × sv_S) :=
  sv_b (f_Mo_isText a1 σ) (fun v1 σ2 =>
    sv_if (v1 = 0)
      (some ((-1000000001 : Int32), σ2))
      (sv_b (f_Mo_isIn (a2.toInt64) (0 : Int64) (1 : Int64) σ2) (fun v3 σ4 =>
        sv_if (v3 = 0)
          (some ((-1000000001 : Int32), σ4))
          (sv_b (f_Mo_textAt a1 σ4) (fun v5 σ6 =>
            sv_g (sv_in (v5 + a2) 3086) (some (σ6 31 0 ((v5 + a2).toNatClampNeg), σ6)))))))
noncomputable def n_Mo_textTold : List sv_V → sv_S → Option (Int32 × sv_S)
  | [.inr (.inr (some (30, 0))), .inl a1, .inl a2], σ => f_Mo_textTold a1 a2 σ
  | _, _ => none
def cd_Mo_textTold : sv_C := [(0, (.aload_n 0, (sv_N, (1, (0, []))))), (1, (.iload_n 1, (sv_N, (2, (0, []))))), (2, (.invokevirtual 291, (sv_N, (5, (0, []))))), (5, (.ifCond .eq 13, (sv_N, (8, (18, []))))), (8, (.iload_n 2, (sv_N, (9, (0, []))))), (9, (.i2l, (sv_N, (10, (0, []))))), (10, (.lconst 0, (.inr (.inl (0 : Int64)), (11, (0, []))))), (11, (.lconst 1, (.inr (.inl (1 : Int64)), (12, (0, []))))), (12, (.invokestatic 71, (sv_N, (15, (0, []))))), (15, (.ifCond .ne 6, (sv_N, (18, (21, []))))), (18, (.ldc 84, (sv_N, (20, (0, []))))), (20, (.ireturn, (sv_N, (21, (0, []))))), (21, (.aload_n 0, (sv_N, (22, (0, []))))), (22, (.getfield 7, (sv_N, (25, (0, []))))), (25, (.aload_n 0, (sv_N, (26, (0, []))))), (26, (.iload_n 1, (sv_N, (27, (0, []))))), (27, (.invokevirtual 282, (sv_N, (30, (0, []))))), (30, (.iload_n 2, (sv_N, (31, (0, []))))), (31, (.iadd, (sv_N, (32, (0, []))))), (32, (.iaload, (sv_N, (33, (0, []))))), (33, (.ireturn, (sv_N, (34, (0, [])))))]
noncomputable def ev_Mo_textTold : sv_E := (fun i => sv_lk i fl_12, (fun i => sv_lk i kc_12, (fun _ => false, (true, fun pc => sv_lk pc [(2, (2, .inl n_Mo_isText)), (12, (3, .inl n_Mo_isIn)), (27, (2, .inl n_Mo_textAt))]))))
noncomputable def kk_Mo_textTold : sv_K (Int32 × sv_S) := fun pc => sv_lk pc []
set_option maxRecDepth 20000 in
theorem e_Mo_textTold (a1 : Int32) (a2 : Int32) (σ : sv_S) : sv_ex ev_Mo_textTold sv_rI kk_Mo_textTold cd_Mo_textTold 23 0 [some (.inr (.inr (some (30, 0)))), some (.inl a1), some (.inl a2)] [] σ = f_Mo_textTold a1 a2 σ := by
  unfold f_Mo_textTold
  delta ev_Mo_textTold kk_Mo_textTold n_Mo_isText n_Mo_isIn n_Mo_textAt
  generalize f_Mo_isText = c0
  generalize f_Mo_isIn = c1
  generalize f_Mo_textAt = c2
  rfl
theorem d_Mo_textTold : cd_Mo_textTold.all (sv_dk cX12_textTold) = true := by decide +kernel
set_option maxRecDepth 20000 in
theorem b_Mo_textTold (Γ : sv_Ga) (res : Int32 × sv_S) (X : sv_Ok Γ ev_Mo_textTold cX12_textTold sv_rI res) (as : List sv_V) (σ : sv_S) (h : n_Mo_textTold as σ = some res) : sv_T Γ 0 (sv_e0 3 as) [] σ := by
  unfold n_Mo_textTold at h
  split at h
  · refine sv_run X d_Mo_textTold (K := kk_Mo_textTold) (sv_lk_all (P := fun pc (k : sv_Lo → List sv_V → sv_S → Option (Int32 × sv_S)) => ∀ lo st σ, k lo st σ = some res → sv_T Γ pc lo st σ) ?_) _ _ _ _ _ ((e_Mo_textTold _ _ _).trans h)
    clear h
    exact fun _ h => absurd h List.not_mem_nil
  · cases h
theorem a_Mo_textTold (as : List sv_V) (σ : sv_S) (x : Int32 × sv_S) (h : n_Mo_textTold as σ = some x) : sv_args 3 ev_Mo_textTold.2.2.2.1 as := by
  unfold n_Mo_textTold at h
  split at h
  · exact ⟨Nat.le_of_ble_eq_true rfl, fun _ v hv => by
      simp only [List.mem_cons, List.not_mem_nil, or_false] at hv
      rcases hv with rfl | rfl | rfl <;> trivial⟩
  · cases h
theorem g_Mo_textTold (as : List sv_V) (σ : sv_S) (x : Option sv_V × sv_S) (h : sv_gI n_Mo_textTold as σ = some x) : ∃ r i as', as = sv_R r i :: as' ∧ sv_kd r i = .inl 12 := by
  obtain ⟨_, _, h, -⟩ := sv_b_some h
  unfold n_Mo_textTold at h
  split at h
  · exact ⟨_, _, _, rfl, rfl⟩
  · cases h
theorem tw_48 : Cond.selects RX12 yX12_isText yX12_isText ∈ gw_tbl := gw_at 48 (by decide +kernel) rfl
theorem tw_1397 : Cond.methodLink RX12 291 yX12_isText ∈ gw_tbl := gw_at 1397 (by decide +kernel) rfl
theorem tw_1399 : Cond.instanceMethod yX12_isText ∈ gw_tbl := gw_at 1399 (by decide +kernel) rfl
theorem tw_1400 : Cond.code yX12_isText cX12_isText 2 (some .boolean) ∈ gw_tbl := gw_at 1400 (by decide +kernel) rfl
set_option maxRecDepth 20000 in
theorem m_Mo_textTold (l : Launch) : sv_M l yX12_textTold cX12_textTold 3 (some .int) (sv_gI n_Mo_textTold) 2 := by
  refine sv_mI (E := ev_Mo_textTold) (by decide +kernel) (ln_gen fk_12 kk_12 (sv_ns _ (fun _ => rfl) _)) ?_ a_Mo_textTold b_Mo_textTold
  intro p e R s m args below meth c cells slots Q base ad dC dI cA n0 S hkn hR hf pc n f h
  refine sv_lk_all (P := fun pc (x : Nat × sv_F) => sv_cok p l e R s m args below meth c cells slots Q base ad dC dI cA true 3 n0 pc x.1 x.2) ?_ pc (n, f) h
  exact List.forall_mem_cons.mpr ⟨(sv_cV S hkn (m_Mo_isText l) ⟨Nat.le_trans (by decide) hR.1, Nat.le_trans (by decide) hR.2⟩ (by decide) hf rfl g_Mo_isText (sv_w5 tw_1397 tw_1399 tw_48 tw_65 tw_1400) (by decide +kernel) (sv_dc3 d_Mo_textTold (pc := 2) rfl rfl)).I,
      List.forall_mem_cons.mpr ⟨(sv_cS S hkn (m_Mo_isIn l) ⟨Nat.le_trans (by decide) hR.1, Nat.le_trans (by decide) hR.2⟩ (by decide) hf (sv_w4 tw_1098 tw_1099 tw_65 tw_1100) (by decide +kernel) (sv_dc3 d_Mo_textTold (pc := 12) rfl rfl)).I,
      List.forall_mem_cons.mpr ⟨(sv_cV S hkn (m_Mo_textAt l) ⟨Nat.le_trans (by decide) hR.1, Nat.le_trans (by decide) hR.2⟩ (by decide) hf rfl g_Mo_textAt (sv_w5 tw_1141 tw_1143 tw_15 tw_65 tw_1144) (by decide +kernel) (sv_dc3 d_Mo_textTold (pc := 27) rfl rfl)).I,
      fun _ h => absurd h List.not_mem_nil⟩⟩⟩
noncomputable def f_Mo_why (a1 : Int32) (σ : sv_S) : Option (Int32 × sv_S) :=
  sv_b (f_Mo_isIn (a1.toInt64) (0 : Int64) (2 : Int64) σ) (fun v1 σ2 =>
    sv_if (v1 = 0)
      (some ((-1000000001 : Int32), σ2))
      (sv_b (f_Mo_counts a1 σ2) (fun v3 σ4 =>
        sv_b (f_Mo_orNone v3 σ4) (fun v5 σ6 =>
          some (v5, σ6)))))
noncomputable def n_Mo_why : List sv_V → sv_S → Option (Int32 × sv_S)
  | [.inr (.inr (some (30, 0))), .inl a1], σ => f_Mo_why a1 σ
  | _, _ => none
def cd_Mo_why : sv_C := [(0, (.iload_n 1, (sv_N, (1, (0, []))))), (1, (.i2l, (sv_N, (2, (0, []))))), (2, (.lconst 0, (.inr (.inl (0 : Int64)), (3, (0, []))))), (3, (.ldc2_w 160, (sv_N, (6, (0, []))))), (6, (.invokestatic 71, (sv_N, (9, (0, []))))), (9, (.ifCond .eq 14, (sv_N, (12, (23, []))))), (12, (.aload_n 0, (sv_N, (13, (0, []))))), (13, (.iload_n 1, (sv_N, (14, (0, []))))), (14, (.invokevirtual 101, (sv_N, (17, (0, []))))), (17, (.invokestatic 171, (sv_N, (20, (0, []))))), (20, (.goto 5, (sv_N, (23, (25, []))))), (23, (.ldc 84, (sv_N, (25, (0, []))))), (25, (.ireturn, (sv_N, (26, (0, [])))))]
noncomputable def ev_Mo_why : sv_E := (fun i => sv_lk i fl_12, (fun i => sv_lk i kc_12, (fun _ => false, (true, fun pc => sv_lk pc [(6, (3, .inl n_Mo_isIn)), (14, (2, .inl n_Mo_counts)), (17, (1, .inl n_Mo_orNone))]))))
noncomputable def kk_Mo_why : sv_K (Int32 × sv_S) := fun pc => sv_lk pc []
set_option maxRecDepth 20000 in
theorem e_Mo_why (a1 : Int32) (σ : sv_S) : sv_ex ev_Mo_why sv_rI kk_Mo_why cd_Mo_why 15 0 [some (.inr (.inr (some (30, 0)))), some (.inl a1)] [] σ = f_Mo_why a1 σ := by
  unfold f_Mo_why
  delta ev_Mo_why kk_Mo_why n_Mo_isIn n_Mo_counts n_Mo_orNone
  generalize f_Mo_isIn = c0
  generalize f_Mo_counts = c1
  generalize f_Mo_orNone = c2
  rfl
theorem d_Mo_why : cd_Mo_why.all (sv_dk cX12_why) = true := by decide +kernel
set_option maxRecDepth 20000 in
theorem b_Mo_why (Γ : sv_Ga) (res : Int32 × sv_S) (X : sv_Ok Γ ev_Mo_why cX12_why sv_rI res) (as : List sv_V) (σ : sv_S) (h : n_Mo_why as σ = some res) : sv_T Γ 0 (sv_e0 2 as) [] σ := by
  unfold n_Mo_why at h
  split at h
  · refine sv_run X d_Mo_why (K := kk_Mo_why) (sv_lk_all (P := fun pc (k : sv_Lo → List sv_V → sv_S → Option (Int32 × sv_S)) => ∀ lo st σ, k lo st σ = some res → sv_T Γ pc lo st σ) ?_) _ _ _ _ _ ((e_Mo_why _ _).trans h)
    clear h
    exact fun _ h => absurd h List.not_mem_nil
  · cases h
theorem a_Mo_why (as : List sv_V) (σ : sv_S) (x : Int32 × sv_S) (h : n_Mo_why as σ = some x) : sv_args 2 ev_Mo_why.2.2.2.1 as := by
  unfold n_Mo_why at h
  split at h
  · exact ⟨Nat.le_of_ble_eq_true rfl, fun _ v hv => by
      simp only [List.mem_cons, List.not_mem_nil, or_false] at hv
      rcases hv with rfl | rfl <;> trivial⟩
  · cases h
theorem g_Mo_why (as : List sv_V) (σ : sv_S) (x : Option sv_V × sv_S) (h : sv_gI n_Mo_why as σ = some x) : ∃ r i as', as = sv_R r i :: as' ∧ sv_kd r i = .inl 12 := by
  obtain ⟨_, _, h, -⟩ := sv_b_some h
  unfold n_Mo_why at h
  split at h
  · exact ⟨_, _, _, rfl, rfl⟩
  · cases h

set_option maxRecDepth 20000 in
theorem m_Mo_why (l : Launch) : sv_M l yX12_why cX12_why 2 (some .int) (sv_gI n_Mo_why) 2 := by
  refine sv_mI (E := ev_Mo_why) (by decide +kernel) (ln_gen fk_12 kk_12 (sv_ns _ (fun _ => rfl) _)) ?_ a_Mo_why b_Mo_why
  intro p e R s m args below meth c cells slots Q base ad dC dI cA n0 S hkn hR hf pc n f h
  refine sv_lk_all (P := fun pc (x : Nat × sv_F) => sv_cok p l e R s m args below meth c cells slots Q base ad dC dI cA true 2 n0 pc x.1 x.2) ?_ pc (n, f) h
  exact List.forall_mem_cons.mpr ⟨(sv_cS S hkn (m_Mo_isIn l) ⟨Nat.le_trans (by decide) hR.1, Nat.le_trans (by decide) hR.2⟩ (by decide) hf (sv_w4 tw_1098 tw_1099 tw_65 tw_1100) (by decide +kernel) (sv_dc3 d_Mo_why (pc := 6) rfl rfl)).I,
      List.forall_mem_cons.mpr ⟨(sv_cV S hkn (m_Mo_counts l) ⟨Nat.le_trans (by decide) hR.1, Nat.le_trans (by decide) hR.2⟩ (by decide) hf rfl g_Mo_counts (sv_w5 tw_1137 tw_1139 tw_14 tw_65 tw_1140) (by decide +kernel) (sv_dc3 d_Mo_why (pc := 14) rfl rfl)).I,
      List.forall_mem_cons.mpr ⟨(sv_cS S hkn (m_Mo_orNone l) ⟨Nat.le_trans (by decide) hR.1, Nat.le_trans (by decide) hR.2⟩ (by decide) hf (sv_w4 tw_1260 tw_1261 tw_65 tw_1262) (by decide +kernel) (sv_dc3 d_Mo_why (pc := 17) rfl rfl)).I,
      fun _ h => absurd h List.not_mem_nil⟩⟩⟩
noncomputable def f_Mo_isSheet (a0 : Int32) (σ : sv_S) : Option (Int32 × sv_S) :=
  sv_b (f_Mo_isIn (a0.toInt64) (0 : Int64) (3 : Int64) σ) (fun v1 σ2 =>
    sv_g (v1 = 0 ∨ v1 = 1) (some (v1, σ2)))
noncomputable def n_Mo_isSheet : List sv_V → sv_S → Option (Int32 × sv_S)
  | [.inl a0], σ => f_Mo_isSheet a0 σ
  | _, _ => none
def cd_Mo_isSheet : sv_C := [(0, (.iload_n 0, (sv_N, (1, (0, []))))), (1, (.i2l, (sv_N, (2, (0, []))))), (2, (.lconst 0, (.inr (.inl (0 : Int64)), (3, (0, []))))), (3, (.ldc2_w 137, (sv_N, (6, (0, []))))), (6, (.invokestatic 71, (sv_N, (9, (0, []))))), (9, (.ireturn, (sv_N, (10, (0, [])))))]
noncomputable def ev_Mo_isSheet : sv_E := (fun i => sv_lk i fl_12, (fun i => sv_lk i kc_12, (fun _ => false, (true, fun pc => sv_lk pc [(6, (3, .inl n_Mo_isIn))]))))
noncomputable def kk_Mo_isSheet : sv_K (Int32 × sv_S) := fun pc => sv_lk pc []
set_option maxRecDepth 20000 in
theorem e_Mo_isSheet (a0 : Int32) (σ : sv_S) : sv_ex ev_Mo_isSheet sv_rZ kk_Mo_isSheet cd_Mo_isSheet 8 0 [some (.inl a0)] [] σ = f_Mo_isSheet a0 σ := by
  unfold f_Mo_isSheet
  delta ev_Mo_isSheet kk_Mo_isSheet n_Mo_isIn
  generalize f_Mo_isIn = c0
  rfl
theorem d_Mo_isSheet : cd_Mo_isSheet.all (sv_dk cX12_isSheet) = true := by decide +kernel
set_option maxRecDepth 20000 in
theorem b_Mo_isSheet (Γ : sv_Ga) (res : Int32 × sv_S) (X : sv_Ok Γ ev_Mo_isSheet cX12_isSheet sv_rZ res) (as : List sv_V) (σ : sv_S) (h : n_Mo_isSheet as σ = some res) : sv_T Γ 0 (sv_e0 1 as) [] σ := by
  unfold n_Mo_isSheet at h
  split at h
  · refine sv_run X d_Mo_isSheet (K := kk_Mo_isSheet) (sv_lk_all (P := fun pc (k : sv_Lo → List sv_V → sv_S → Option (Int32 × sv_S)) => ∀ lo st σ, k lo st σ = some res → sv_T Γ pc lo st σ) ?_) _ _ _ _ _ ((e_Mo_isSheet _ _).trans h)
    clear h
    exact fun _ h => absurd h List.not_mem_nil
  · cases h
theorem a_Mo_isSheet (as : List sv_V) (σ : sv_S) (x : Int32 × sv_S) (h : n_Mo_isSheet as σ = some x) : sv_args 1 ev_Mo_isSheet.2.2.2.1 as := by
  unfold n_Mo_isSheet at h
  split at h
  · exact ⟨Nat.le_of_ble_eq_true rfl, fun _ v hv => by
      simp only [List.mem_cons, List.not_mem_nil, or_false] at hv
      rcases hv with rfl <;> trivial⟩
  · cases h

set_option maxRecDepth 20000 in
theorem m_Mo_isSheet (l : Launch) : sv_M l yX12_isSheet cX12_isSheet 1 (some .boolean) (sv_gI n_Mo_isSheet) 1 := by
  refine sv_mZ (E := ev_Mo_isSheet) (by decide +kernel) (ln_gen fk_12 kk_12 (sv_ns _ (fun _ => rfl) _)) ?_ a_Mo_isSheet b_Mo_isSheet
  intro p e R s m args below meth c cells slots Q base ad dC dI cA n0 S hkn hR hf pc n f h
  refine sv_lk_all (P := fun pc (x : Nat × sv_F) => sv_cok p l e R s m args below meth c cells slots Q base ad dC dI cA true 1 n0 pc x.1 x.2) ?_ pc (n, f) h
  exact List.forall_mem_cons.mpr ⟨(sv_cS S hkn (m_Mo_isIn l) ⟨Nat.le_trans (by decide) hR.1, Nat.le_trans (by decide) hR.2⟩ (by decide) hf (sv_w4 tw_1098 tw_1099 tw_65 tw_1100) (by decide +kernel) (sv_dc3 d_Mo_isSheet (pc := 6) rfl rfl)).I,
      fun _ h => absurd h List.not_mem_nil⟩
noncomputable def f_Mo_sheet_69 : Nat → Int32 → Int32 → sv_S → Option (Int32 × sv_S)
  | 0, _, _, _ => none
  | n + 1, x1, x4, σ =>
    sv_if ((24 : Int32) ≤ x4)
      (sv_g (sv_in x1 4) (some (σ 31 5 (x1.toNatClampNeg), σ)))
      (sv_g (sv_in (((24 : Int32) * x1) + x4) 96) (f_Mo_sheet_69 n x1 (x4 + (1 : Int32)) (sv_up σ 31 6 ((((24 : Int32) * x1) + x4).toNatClampNeg) (0 : Int32))))
noncomputable def f_Mo_sheet_44 (x1 : Int32) (x2 : Int32) (x3 : Int32) (σ : sv_S) : Option (Int32 × sv_S) :=
    sv_g (sv_in x1 4) (sv_if (0 ≤ x2)
      (sv_g (sv_in x1 4) (f_Mo_sheet_69 sv_fu x1 (0 : Int32) (sv_up (sv_up σ 31 4 (x1.toNatClampNeg) x2) 31 5 (x1.toNatClampNeg) x3)))
      (sv_g (sv_in x1 4) (f_Mo_sheet_69 sv_fu x1 (0 : Int32) (sv_up (sv_up σ 31 4 (x1.toNatClampNeg) x2) 31 5 (x1.toNatClampNeg) (0 : Int32)))))
noncomputable def f_Mo_sheet_32 (x1 : Int32) (x2 : Int32) (x3 : Int32) (σ : sv_S) : Option (Int32 × sv_S) :=
    sv_if (x2 < 0)
      (f_Mo_sheet_44 x1 x2 x3 σ)
      (sv_if (0 ≤ x3)
        (f_Mo_sheet_44 x1 x2 x3 σ)
        (some ((-1000000014 : Int32), σ)))
noncomputable def f_Mo_sheet (a1 : Int32) (a2 : Int32) (a3 : Int32) (σ : sv_S) : Option (Int32 × sv_S) :=
  sv_b (f_Mo_isSheet a1 σ) (fun v1 σ2 =>
    sv_if (v1 = 0)
      (some ((-1000000001 : Int32), σ2))
      (sv_b (f_Mo_isIn (a2.toInt64) (-1 : Int64) (1 : Int64) σ2) (fun v3 σ4 =>
        sv_if (v3 = 0)
          (some ((-1000000001 : Int32), σ4))
          (sv_if (a2 < 0)
            (f_Mo_sheet_32 a1 a2 a3 σ4)
            (sv_if (a3 ≤ (24 : Int32))
              (f_Mo_sheet_32 a1 a2 a3 σ4)
              (some ((-1000000001 : Int32), σ4)))))))
noncomputable def n_Mo_sheet : List sv_V → sv_S → Option (Int32 × sv_S)
  | [.inr (.inr (some (30, 0))), .inl a1, .inl a2, .inl a3], σ => f_Mo_sheet a1 a2 a3 σ
  | _, _ => none
def cd_Mo_sheet : sv_C := [(0, (.iload_n 1, (sv_N, (1, (0, []))))), (1, (.invokestatic 297, (sv_N, (4, (0, []))))), (4, (.ifCond .eq 25, (sv_N, (7, (29, []))))), (7, (.iload_n 2, (sv_N, (8, (0, []))))), (8, (.i2l, (sv_N, (9, (0, []))))), (9, (.ldc2_w 300, (sv_N, (12, (0, []))))), (12, (.lconst 1, (.inr (.inl (1 : Int64)), (13, (0, []))))), (13, (.invokestatic 71, (sv_N, (16, (0, []))))), (16, (.ifCond .eq 13, (sv_N, (19, (29, []))))), (19, (.iload_n 2, (sv_N, (20, (0, []))))), (20, (.ifCond .lt 12, (sv_N, (23, (32, []))))), (23, (.iload_n 3, (sv_N, (24, (0, []))))), (24, (.bipush 24, (.inl (24 : Int32), (26, (0, []))))), (26, (.if_icmp .le 6, (sv_N, (29, (32, []))))), (29, (.ldc 84, (sv_N, (31, (0, []))))), (31, (.ireturn, (sv_N, (32, (0, []))))), (32, (.iload_n 2, (sv_N, (33, (0, []))))), (33, (.ifCond .lt 11, (sv_N, (36, (44, []))))), (36, (.iload_n 3, (sv_N, (37, (0, []))))), (37, (.ifCond .ge 7, (sv_N, (40, (44, []))))), (40, (.ldc_w 302, (sv_N, (43, (0, []))))), (43, (.ireturn, (sv_N, (44, (0, []))))), (44, (.aload_n 0, (sv_N, (45, (0, []))))), (45, (.getfield 19, (sv_N, (48, (0, []))))), (48, (.iload_n 1, (sv_N, (49, (0, []))))), (49, (.iload_n 2, (sv_N, (50, (0, []))))), (50, (.iastore, (sv_N, (51, (0, []))))), (51, (.aload_n 0, (sv_N, (52, (0, []))))), (52, (.getfield 22, (sv_N, (55, (0, []))))), (55, (.iload_n 1, (sv_N, (56, (0, []))))), (56, (.iload_n 2, (sv_N, (57, (0, []))))), (57, (.ifCond .ge 7, (sv_N, (60, (64, []))))), (60, (.iconst 0, (.inl (0 : Int32), (61, (0, []))))), (61, (.goto 4, (sv_N, (64, (65, []))))), (64, (.iload_n 3, (sv_N, (65, (0, []))))), (65, (.iastore, (sv_N, (66, (0, []))))), (66, (.iconst 0, (.inl (0 : Int32), (67, (0, []))))), (67, (.istore 4, (sv_N, (69, (0, []))))), (69, (.iload 4, (sv_N, (71, (0, []))))), (71, (.bipush 24, (.inl (24 : Int32), (73, (0, []))))), (73, (.if_icmp .ge 22, (sv_N, (76, (95, []))))), (76, (.aload_n 0, (sv_N, (77, (0, []))))), (77, (.getfield 25, (sv_N, (80, (0, []))))), (80, (.bipush 24, (.inl (24 : Int32), (82, (0, []))))), (82, (.iload_n 1, (sv_N, (83, (0, []))))), (83, (.imul, (sv_N, (84, (0, []))))), (84, (.iload 4, (sv_N, (86, (0, []))))), (86, (.iadd, (sv_N, (87, (0, []))))), (87, (.iconst 0, (.inl (0 : Int32), (88, (0, []))))), (88, (.iastore, (sv_N, (89, (0, []))))), (89, (.iinc 4 1, (.inl (1 : Int32), (92, (0, []))))), (92, (.goto (-23), (sv_N, (95, (69, []))))), (95, (.aload_n 0, (sv_N, (96, (0, []))))), (96, (.getfield 22, (sv_N, (99, (0, []))))), (99, (.iload_n 1, (sv_N, (100, (0, []))))), (100, (.iaload, (sv_N, (101, (0, []))))), (101, (.ireturn, (sv_N, (102, (0, [])))))]
noncomputable def ev_Mo_sheet : sv_E := (fun i => sv_lk i fl_12, (fun i => sv_lk i kc_12, (fun _ => false, (true, fun pc => sv_lk pc [(1, (1, .inl n_Mo_isSheet)), (13, (3, .inl n_Mo_isIn))]))))
noncomputable def kk_Mo_sheet_69 (n : Nat) : sv_K (Int32 × sv_S) := fun pc => sv_lk pc [(69, fun lo st σ => match lo, st with
    | [some (.inr (.inr (some (30, 0)))), some (.inl x1), _, _, some (.inl x4)], [] => f_Mo_sheet_69 n x1 x4 σ
    | _, _ => none)]
set_option maxRecDepth 20000 in
theorem e_Mo_sheet_69 (n : Nat) (x1 : Int32) (x4 : Int32) (z2 z3 : Option sv_V) (σ : sv_S) : sv_ex ev_Mo_sheet sv_rI (kk_Mo_sheet_69 n) cd_Mo_sheet 59 69 [some (.inr (.inr (some (30, 0)))), some (.inl x1), z2, z3, some (.inl x4)] [] σ = f_Mo_sheet_69 (n + 1) x1 x4 σ := by
  rw [f_Mo_sheet_69.eq_2]
  delta ev_Mo_sheet kk_Mo_sheet_69 n_Mo_isSheet n_Mo_isIn
  generalize f_Mo_isSheet = c0
  generalize f_Mo_isIn = c1
  generalize f_Mo_sheet_69 = c2
  rfl
noncomputable def kk_Mo_sheet_44 : sv_K (Int32 × sv_S) := fun pc => sv_lk pc [(69, fun lo st σ => match lo, st with
    | [some (.inr (.inr (some (30, 0)))), some (.inl x1), _, _, some (.inl x4)], [] => f_Mo_sheet_69 sv_fu x1 x4 σ
    | _, _ => none)]
set_option maxRecDepth 20000 in
theorem e_Mo_sheet_44 (x1 : Int32) (x2 : Int32) (x3 : Int32) (z4 : Option sv_V) (σ : sv_S) : sv_ex ev_Mo_sheet sv_rI (kk_Mo_sheet_44) cd_Mo_sheet 59 44 [some (.inr (.inr (some (30, 0)))), some (.inl x1), some (.inl x2), some (.inl x3), z4] [] σ = f_Mo_sheet_44 x1 x2 x3 σ := by
  unfold f_Mo_sheet_44
  delta ev_Mo_sheet kk_Mo_sheet_44 n_Mo_isSheet n_Mo_isIn
  generalize f_Mo_isSheet = c0
  generalize f_Mo_isIn = c1
  generalize f_Mo_sheet_69 = c2
  rfl
noncomputable def kk_Mo_sheet_32 : sv_K (Int32 × sv_S) := fun pc => sv_lk pc [(44, fun lo st σ => match lo, st with
    | [some (.inr (.inr (some (30, 0)))), some (.inl x1), some (.inl x2), some (.inl x3), _], [] => f_Mo_sheet_44 x1 x2 x3 σ
    | _, _ => none)]
set_option maxRecDepth 20000 in
theorem e_Mo_sheet_32 (x1 : Int32) (x2 : Int32) (x3 : Int32) (z4 : Option sv_V) (σ : sv_S) : sv_ex ev_Mo_sheet sv_rI (kk_Mo_sheet_32) cd_Mo_sheet 59 32 [some (.inr (.inr (some (30, 0)))), some (.inl x1), some (.inl x2), some (.inl x3), z4] [] σ = f_Mo_sheet_32 x1 x2 x3 σ := by
  unfold f_Mo_sheet_32
  delta ev_Mo_sheet kk_Mo_sheet_32 n_Mo_isSheet n_Mo_isIn
  generalize f_Mo_isSheet = c0
  generalize f_Mo_isIn = c1
  generalize f_Mo_sheet_44 = c2
  rfl
noncomputable def kk_Mo_sheet : sv_K (Int32 × sv_S) := fun pc => sv_lk pc [(32, fun lo st σ => match lo, st with
    | [some (.inr (.inr (some (30, 0)))), some (.inl x1), some (.inl x2), some (.inl x3), _], [] => f_Mo_sheet_32 x1 x2 x3 σ
    | _, _ => none)]
set_option maxRecDepth 20000 in
theorem e_Mo_sheet (a1 : Int32) (a2 : Int32) (a3 : Int32) (σ : sv_S) : sv_ex ev_Mo_sheet sv_rI kk_Mo_sheet cd_Mo_sheet 59 0 [some (.inr (.inr (some (30, 0)))), some (.inl a1), some (.inl a2), some (.inl a3), none] [] σ = f_Mo_sheet a1 a2 a3 σ := by
  unfold f_Mo_sheet
  delta ev_Mo_sheet kk_Mo_sheet n_Mo_isSheet n_Mo_isIn
  generalize f_Mo_isSheet = c0
  generalize f_Mo_isIn = c1
  generalize f_Mo_sheet_32 = c2
  rfl
theorem d_Mo_sheet : cd_Mo_sheet.all (sv_dk cX12_sheet) = true := by decide +kernel
set_option maxRecDepth 20000 in
theorem w_Mo_sheet_69 {Γ : sv_Ga} {res : Int32 × sv_S} (X : sv_Ok Γ ev_Mo_sheet cX12_sheet sv_rI res) : ∀ (n : Nat) (x1 : Int32) (x4 : Int32) (z2 z3 : Option sv_V) (σ : sv_S), f_Mo_sheet_69 n x1 x4 σ = some res → sv_T Γ 69 [some (.inr (.inr (some (30, 0)))), some (.inl x1), z2, z3, some (.inl x4)] [] σ := by
  intro n
  induction n with
  | zero =>
    intro x1 x4 z2 z3 σ h
    rw [f_Mo_sheet_69.eq_1] at h
    cases h
  | succ n ih =>
    intro x1 x4 z2 z3 σ h
    refine sv_run X d_Mo_sheet (K := kk_Mo_sheet_69 n) (sv_lk_all (P := fun pc (k : sv_Lo → List sv_V → sv_S → Option (Int32 × sv_S)) => ∀ lo st σ, k lo st σ = some res → sv_T Γ pc lo st σ) ?_) _ _ _ _ _ ((e_Mo_sheet_69 n x1 x4 z2 z3 σ).trans h)
    clear h
    refine List.forall_mem_cons.mpr ⟨fun lo st σ h => ?_, fun _ h => absurd h List.not_mem_nil⟩
    · dsimp only at h
      split at h
      · exact ih _ _ _ _ _ h
      · cases h

set_option maxRecDepth 20000 in
theorem w_Mo_sheet_44 {Γ : sv_Ga} {res : Int32 × sv_S} (X : sv_Ok Γ ev_Mo_sheet cX12_sheet sv_rI res) : ∀ (x1 : Int32) (x2 : Int32) (x3 : Int32) (z4 : Option sv_V) (σ : sv_S), f_Mo_sheet_44 x1 x2 x3 σ = some res → sv_T Γ 44 [some (.inr (.inr (some (30, 0)))), some (.inl x1), some (.inl x2), some (.inl x3), z4] [] σ := by
  intro x1 x2 x3 z4 σ h
  refine sv_run X d_Mo_sheet (K := kk_Mo_sheet_44) (sv_lk_all (P := fun pc (k : sv_Lo → List sv_V → sv_S → Option (Int32 × sv_S)) => ∀ lo st σ, k lo st σ = some res → sv_T Γ pc lo st σ) ?_) _ _ _ _ _ ((e_Mo_sheet_44 x1 x2 x3 z4 σ).trans h)
  clear h
  refine List.forall_mem_cons.mpr ⟨fun lo st σ h => ?_, fun _ h => absurd h List.not_mem_nil⟩
  · dsimp only at h
    split at h
    · exact w_Mo_sheet_69 X _ _ _ _ _ _ h
    · cases h

set_option maxRecDepth 20000 in
theorem w_Mo_sheet_32 {Γ : sv_Ga} {res : Int32 × sv_S} (X : sv_Ok Γ ev_Mo_sheet cX12_sheet sv_rI res) : ∀ (x1 : Int32) (x2 : Int32) (x3 : Int32) (z4 : Option sv_V) (σ : sv_S), f_Mo_sheet_32 x1 x2 x3 σ = some res → sv_T Γ 32 [some (.inr (.inr (some (30, 0)))), some (.inl x1), some (.inl x2), some (.inl x3), z4] [] σ := by
  intro x1 x2 x3 z4 σ h
  refine sv_run X d_Mo_sheet (K := kk_Mo_sheet_32) (sv_lk_all (P := fun pc (k : sv_Lo → List sv_V → sv_S → Option (Int32 × sv_S)) => ∀ lo st σ, k lo st σ = some res → sv_T Γ pc lo st σ) ?_) _ _ _ _ _ ((e_Mo_sheet_32 x1 x2 x3 z4 σ).trans h)
  clear h
  refine List.forall_mem_cons.mpr ⟨fun lo st σ h => ?_, fun _ h => absurd h List.not_mem_nil⟩
  · dsimp only at h
    split at h
    · exact w_Mo_sheet_44 X _ _ _ _ _ h
    · cases h

set_option maxRecDepth 20000 in
theorem b_Mo_sheet (Γ : sv_Ga) (res : Int32 × sv_S) (X : sv_Ok Γ ev_Mo_sheet cX12_sheet sv_rI res) (as : List sv_V) (σ : sv_S) (h : n_Mo_sheet as σ = some res) : sv_T Γ 0 (sv_e0 5 as) [] σ := by
  unfold n_Mo_sheet at h
  split at h
  · refine sv_run X d_Mo_sheet (K := kk_Mo_sheet) (sv_lk_all (P := fun pc (k : sv_Lo → List sv_V → sv_S → Option (Int32 × sv_S)) => ∀ lo st σ, k lo st σ = some res → sv_T Γ pc lo st σ) ?_) _ _ _ _ _ ((e_Mo_sheet _ _ _ _).trans h)
    clear h
    refine List.forall_mem_cons.mpr ⟨fun lo st σ h => ?_, fun _ h => absurd h List.not_mem_nil⟩
    · dsimp only at h
      split at h
      · exact w_Mo_sheet_32 X _ _ _ _ _ h
      · cases h
  · cases h
theorem a_Mo_sheet (as : List sv_V) (σ : sv_S) (x : Int32 × sv_S) (h : n_Mo_sheet as σ = some x) : sv_args 5 ev_Mo_sheet.2.2.2.1 as := by
  unfold n_Mo_sheet at h
  split at h
  · exact ⟨Nat.le_of_ble_eq_true rfl, fun _ v hv => by
      simp only [List.mem_cons, List.not_mem_nil, or_false] at hv
      rcases hv with rfl | rfl | rfl | rfl <;> trivial⟩
  · cases h
theorem g_Mo_sheet (as : List sv_V) (σ : sv_S) (x : Option sv_V × sv_S) (h : sv_gI n_Mo_sheet as σ = some x) : ∃ r i as', as = sv_R r i :: as' ∧ sv_kd r i = .inl 12 := by
  obtain ⟨_, _, h, -⟩ := sv_b_some h
  unfold n_Mo_sheet at h
  split at h
  · exact ⟨_, _, _, rfl, rfl⟩
  · cases h
theorem tw_1409 : Cond.methodLink RX12 297 yX12_isSheet ∈ gw_tbl := gw_at 1409 (by decide +kernel) rfl
theorem tw_1410 : Cond.static yX12_isSheet ∈ gw_tbl := gw_at 1410 (by decide +kernel) rfl
theorem tw_1411 : Cond.code yX12_isSheet cX12_isSheet 1 (some .boolean) ∈ gw_tbl := gw_at 1411 (by decide +kernel) rfl
set_option maxRecDepth 20000 in
theorem m_Mo_sheet (l : Launch) : sv_M l yX12_sheet cX12_sheet 5 (some .int) (sv_gI n_Mo_sheet) 2 := by
  refine sv_mI (E := ev_Mo_sheet) (by decide +kernel) (ln_gen fk_12 kk_12 (sv_ns _ (fun _ => rfl) _)) ?_ a_Mo_sheet b_Mo_sheet
  intro p e R s m args below meth c cells slots Q base ad dC dI cA n0 S hkn hR hf pc n f h
  refine sv_lk_all (P := fun pc (x : Nat × sv_F) => sv_cok p l e R s m args below meth c cells slots Q base ad dC dI cA true 5 n0 pc x.1 x.2) ?_ pc (n, f) h
  exact List.forall_mem_cons.mpr ⟨(sv_cS S hkn (m_Mo_isSheet l) ⟨Nat.le_trans (by decide) hR.1, Nat.le_trans (by decide) hR.2⟩ (by decide) hf (sv_w4 tw_1409 tw_1410 tw_65 tw_1411) (by decide +kernel) (sv_dc3 d_Mo_sheet (pc := 1) rfl rfl)).I,
      List.forall_mem_cons.mpr ⟨(sv_cS S hkn (m_Mo_isIn l) ⟨Nat.le_trans (by decide) hR.1, Nat.le_trans (by decide) hR.2⟩ (by decide) hf (sv_w4 tw_1098 tw_1099 tw_65 tw_1100) (by decide +kernel) (sv_dc3 d_Mo_sheet (pc := 13) rfl rfl)).I,
      fun _ h => absurd h List.not_mem_nil⟩⟩
noncomputable def f_Mo_mark_96 (x1 : Int32) (x2 : Int32) (x3 : Int32) (σ : sv_S) : Option (Int32 × sv_S) :=
    sv_g (sv_in x1 4) (sv_if ((σ 31 4 (x1.toNatClampNeg)) = 0)
      (sv_g (sv_in (((24 : Int32) * x1) + x2) 96) (some ((1 : Int32), sv_up σ 31 6 ((((24 : Int32) * x1) + x2).toNatClampNeg) ((x3 <<< ((16 : Int32) &&& 31)) >>> ((16 : Int32) &&& 31)))))
      (sv_g (sv_in (((24 : Int32) * x1) + x2) 96) (some ((1 : Int32), sv_up σ 31 6 ((((24 : Int32) * x1) + x2).toNatClampNeg) x3))))
noncomputable def f_Mo_mark_63 (x1 : Int32) (x2 : Int32) (x3 : Int32) (σ : sv_S) : Option (Int32 × sv_S) :=
    sv_g (sv_in x1 4) (sv_if ((σ 31 4 (x1.toNatClampNeg)) = (1 : Int32))
      (sv_if (x3 = (-1000000005 : Int32))
        (f_Mo_mark_96 x1 x2 x3 σ)
        (sv_b (f_Mo_isIn (x3.toInt64) (-99999 : Int64) (99999 : Int64) σ) (fun v1 σ2 =>
          sv_if (v1 = 0)
            (some ((-1000000001 : Int32), σ2))
            (f_Mo_mark_96 x1 x2 x3 σ2))))
      (f_Mo_mark_96 x1 x2 x3 σ))
noncomputable def f_Mo_mark (a1 : Int32) (a2 : Int32) (a3 : Int32) (σ : sv_S) : Option (Int32 × sv_S) :=
  sv_b (f_Mo_isSheet a1 σ) (fun v1 σ2 =>
    sv_if (v1 = 0)
      (some ((-1000000001 : Int32), σ2))
      (sv_g (sv_in a1 4) (sv_if (0 ≤ (σ2 31 4 (a1.toNatClampNeg)))
        (sv_g (sv_in a1 4) (sv_b (f_Mo_isIn (a2.toInt64) (0 : Int64) (((σ2 31 5 (a1.toNatClampNeg)) - (1 : Int32)).toInt64) σ2) (fun v3 σ4 =>
          sv_if (v3 = 0)
            (some ((-1000000013 : Int32), σ4))
            (sv_g (sv_in a1 4) (sv_if ((σ4 31 4 (a1.toNatClampNeg)) = 0)
              (sv_if (a3 = (-1000000005 : Int32))
                (some ((-1000000012 : Int32), σ4))
                (f_Mo_mark_63 a1 a2 a3 σ4))
              (f_Mo_mark_63 a1 a2 a3 σ4))))))
        (some ((-1000000011 : Int32), σ2)))))
noncomputable def n_Mo_mark : List sv_V → sv_S → Option (Int32 × sv_S)
  | [.inr (.inr (some (30, 0))), .inl a1, .inl a2, .inl a3], σ => f_Mo_mark a1 a2 a3 σ
  | _, _ => none
def cd_Mo_mark : sv_C := [(0, (.iload_n 1, (sv_N, (1, (0, []))))), (1, (.invokestatic 297, (sv_N, (4, (0, []))))), (4, (.ifCond .ne 6, (sv_N, (7, (10, []))))), (7, (.ldc 84, (sv_N, (9, (0, []))))), (9, (.ireturn, (sv_N, (10, (0, []))))), (10, (.aload_n 0, (sv_N, (11, (0, []))))), (11, (.getfield 19, (sv_N, (14, (0, []))))), (14, (.iload_n 1, (sv_N, (15, (0, []))))), (15, (.iaload, (sv_N, (16, (0, []))))), (16, (.ifCond .ge 7, (sv_N, (19, (23, []))))), (19, (.ldc_w 303, (sv_N, (22, (0, []))))), (22, (.ireturn, (sv_N, (23, (0, []))))), (23, (.iload_n 2, (sv_N, (24, (0, []))))), (24, (.i2l, (sv_N, (25, (0, []))))), (25, (.lconst 0, (.inr (.inl (0 : Int64)), (26, (0, []))))), (26, (.aload_n 0, (sv_N, (27, (0, []))))), (27, (.getfield 22, (sv_N, (30, (0, []))))), (30, (.iload_n 1, (sv_N, (31, (0, []))))), (31, (.iaload, (sv_N, (32, (0, []))))), (32, (.iconst 1, (.inl (1 : Int32), (33, (0, []))))), (33, (.isub, (sv_N, (34, (0, []))))), (34, (.i2l, (sv_N, (35, (0, []))))), (35, (.invokestatic 71, (sv_N, (38, (0, []))))), (38, (.ifCond .ne 7, (sv_N, (41, (45, []))))), (41, (.ldc_w 304, (sv_N, (44, (0, []))))), (44, (.ireturn, (sv_N, (45, (0, []))))), (45, (.aload_n 0, (sv_N, (46, (0, []))))), (46, (.getfield 19, (sv_N, (49, (0, []))))), (49, (.iload_n 1, (sv_N, (50, (0, []))))), (50, (.iaload, (sv_N, (51, (0, []))))), (51, (.ifCond .ne 12, (sv_N, (54, (63, []))))), (54, (.iload_n 3, (sv_N, (55, (0, []))))), (55, (.ldc 70, (sv_N, (57, (0, []))))), (57, (.if_icmp .ne 6, (sv_N, (60, (63, []))))), (60, (.ldc 133, (sv_N, (62, (0, []))))), (62, (.ireturn, (sv_N, (63, (0, []))))), (63, (.aload_n 0, (sv_N, (64, (0, []))))), (64, (.getfield 19, (sv_N, (67, (0, []))))), (67, (.iload_n 1, (sv_N, (68, (0, []))))), (68, (.iaload, (sv_N, (69, (0, []))))), (69, (.iconst 1, (.inl (1 : Int32), (70, (0, []))))), (70, (.if_icmp .ne 26, (sv_N, (73, (96, []))))), (73, (.iload_n 3, (sv_N, (74, (0, []))))), (74, (.ldc 70, (sv_N, (76, (0, []))))), (76, (.if_icmp .eq 20, (sv_N, (79, (96, []))))), (79, (.iload_n 3, (sv_N, (80, (0, []))))), (80, (.i2l, (sv_N, (81, (0, []))))), (81, (.ldc2_w 305, (sv_N, (84, (0, []))))), (84, (.ldc2_w 307, (sv_N, (87, (0, []))))), (87, (.invokestatic 71, (sv_N, (90, (0, []))))), (90, (.ifCond .ne 6, (sv_N, (93, (96, []))))), (93, (.ldc 84, (sv_N, (95, (0, []))))), (95, (.ireturn, (sv_N, (96, (0, []))))), (96, (.aload_n 0, (sv_N, (97, (0, []))))), (97, (.getfield 25, (sv_N, (100, (0, []))))), (100, (.bipush 24, (.inl (24 : Int32), (102, (0, []))))), (102, (.iload_n 1, (sv_N, (103, (0, []))))), (103, (.imul, (sv_N, (104, (0, []))))), (104, (.iload_n 2, (sv_N, (105, (0, []))))), (105, (.iadd, (sv_N, (106, (0, []))))), (106, (.aload_n 0, (sv_N, (107, (0, []))))), (107, (.getfield 19, (sv_N, (110, (0, []))))), (110, (.iload_n 1, (sv_N, (111, (0, []))))), (111, (.iaload, (sv_N, (112, (0, []))))), (112, (.ifCond .ne 13, (sv_N, (115, (125, []))))), (115, (.iload_n 3, (sv_N, (116, (0, []))))), (116, (.bipush 16, (.inl (16 : Int32), (118, (0, []))))), (118, (.ishl, (sv_N, (119, (0, []))))), (119, (.bipush 16, (.inl (16 : Int32), (121, (0, []))))), (121, (.ishr, (sv_N, (122, (0, []))))), (122, (.goto 4, (sv_N, (125, (126, []))))), (125, (.iload_n 3, (sv_N, (126, (0, []))))), (126, (.iastore, (sv_N, (127, (0, []))))), (127, (.iconst 1, (.inl (1 : Int32), (128, (0, []))))), (128, (.ireturn, (sv_N, (129, (0, [])))))]
noncomputable def ev_Mo_mark : sv_E := (fun i => sv_lk i fl_12, (fun i => sv_lk i kc_12, (fun _ => false, (true, fun pc => sv_lk pc [(1, (1, .inl n_Mo_isSheet)), (35, (3, .inl n_Mo_isIn)), (87, (3, .inl n_Mo_isIn))]))))
noncomputable def kk_Mo_mark_96 : sv_K (Int32 × sv_S) := fun pc => sv_lk pc []
set_option maxRecDepth 20000 in
theorem e_Mo_mark_96 (x1 : Int32) (x2 : Int32) (x3 : Int32) (σ : sv_S) : sv_ex ev_Mo_mark sv_rI (kk_Mo_mark_96) cd_Mo_mark 77 96 [some (.inr (.inr (some (30, 0)))), some (.inl x1), some (.inl x2), some (.inl x3)] [] σ = f_Mo_mark_96 x1 x2 x3 σ := by
  unfold f_Mo_mark_96
  delta ev_Mo_mark kk_Mo_mark_96 n_Mo_isSheet n_Mo_isIn
  generalize f_Mo_isSheet = c0
  generalize f_Mo_isIn = c1
  rfl
noncomputable def kk_Mo_mark_63 : sv_K (Int32 × sv_S) := fun pc => sv_lk pc [(96, fun lo st σ => match lo, st with
    | [some (.inr (.inr (some (30, 0)))), some (.inl x1), some (.inl x2), some (.inl x3)], [] => f_Mo_mark_96 x1 x2 x3 σ
    | _, _ => none)]
set_option maxRecDepth 20000 in
theorem e_Mo_mark_63 (x1 : Int32) (x2 : Int32) (x3 : Int32) (σ : sv_S) : sv_ex ev_Mo_mark sv_rI (kk_Mo_mark_63) cd_Mo_mark 77 63 [some (.inr (.inr (some (30, 0)))), some (.inl x1), some (.inl x2), some (.inl x3)] [] σ = f_Mo_mark_63 x1 x2 x3 σ := by
  unfold f_Mo_mark_63
  delta ev_Mo_mark kk_Mo_mark_63 n_Mo_isSheet n_Mo_isIn
  generalize f_Mo_isSheet = c0
  generalize f_Mo_isIn = c1
  generalize f_Mo_mark_96 = c2
  rfl
noncomputable def kk_Mo_mark : sv_K (Int32 × sv_S) := fun pc => sv_lk pc [(63, fun lo st σ => match lo, st with
    | [some (.inr (.inr (some (30, 0)))), some (.inl x1), some (.inl x2), some (.inl x3)], [] => f_Mo_mark_63 x1 x2 x3 σ
    | _, _ => none)]
set_option maxRecDepth 20000 in
theorem e_Mo_mark (a1 : Int32) (a2 : Int32) (a3 : Int32) (σ : sv_S) : sv_ex ev_Mo_mark sv_rI kk_Mo_mark cd_Mo_mark 77 0 [some (.inr (.inr (some (30, 0)))), some (.inl a1), some (.inl a2), some (.inl a3)] [] σ = f_Mo_mark a1 a2 a3 σ := by
  unfold f_Mo_mark
  delta ev_Mo_mark kk_Mo_mark n_Mo_isSheet n_Mo_isIn
  generalize f_Mo_isSheet = c0
  generalize f_Mo_isIn = c1
  generalize f_Mo_mark_63 = c2
  rfl
theorem d_Mo_mark : cd_Mo_mark.all (sv_dk cX12_mark) = true := by decide +kernel
set_option maxRecDepth 20000 in
theorem w_Mo_mark_96 {Γ : sv_Ga} {res : Int32 × sv_S} (X : sv_Ok Γ ev_Mo_mark cX12_mark sv_rI res) : ∀ (x1 : Int32) (x2 : Int32) (x3 : Int32) (σ : sv_S), f_Mo_mark_96 x1 x2 x3 σ = some res → sv_T Γ 96 [some (.inr (.inr (some (30, 0)))), some (.inl x1), some (.inl x2), some (.inl x3)] [] σ := by
  intro x1 x2 x3 σ h
  refine sv_run X d_Mo_mark (K := kk_Mo_mark_96) (sv_lk_all (P := fun pc (k : sv_Lo → List sv_V → sv_S → Option (Int32 × sv_S)) => ∀ lo st σ, k lo st σ = some res → sv_T Γ pc lo st σ) ?_) _ _ _ _ _ ((e_Mo_mark_96 x1 x2 x3 σ).trans h)
  clear h
  exact fun _ h => absurd h List.not_mem_nil

set_option maxRecDepth 20000 in
theorem w_Mo_mark_63 {Γ : sv_Ga} {res : Int32 × sv_S} (X : sv_Ok Γ ev_Mo_mark cX12_mark sv_rI res) : ∀ (x1 : Int32) (x2 : Int32) (x3 : Int32) (σ : sv_S), f_Mo_mark_63 x1 x2 x3 σ = some res → sv_T Γ 63 [some (.inr (.inr (some (30, 0)))), some (.inl x1), some (.inl x2), some (.inl x3)] [] σ := by
  intro x1 x2 x3 σ h
  refine sv_run X d_Mo_mark (K := kk_Mo_mark_63) (sv_lk_all (P := fun pc (k : sv_Lo → List sv_V → sv_S → Option (Int32 × sv_S)) => ∀ lo st σ, k lo st σ = some res → sv_T Γ pc lo st σ) ?_) _ _ _ _ _ ((e_Mo_mark_63 x1 x2 x3 σ).trans h)
  clear h
  refine List.forall_mem_cons.mpr ⟨fun lo st σ h => ?_, fun _ h => absurd h List.not_mem_nil⟩
  · dsimp only at h
    split at h
    · exact w_Mo_mark_96 X _ _ _ _ h
    · cases h

set_option maxRecDepth 20000 in
theorem b_Mo_mark (Γ : sv_Ga) (res : Int32 × sv_S) (X : sv_Ok Γ ev_Mo_mark cX12_mark sv_rI res) (as : List sv_V) (σ : sv_S) (h : n_Mo_mark as σ = some res) : sv_T Γ 0 (sv_e0 4 as) [] σ := by
  unfold n_Mo_mark at h
  split at h
  · refine sv_run X d_Mo_mark (K := kk_Mo_mark) (sv_lk_all (P := fun pc (k : sv_Lo → List sv_V → sv_S → Option (Int32 × sv_S)) => ∀ lo st σ, k lo st σ = some res → sv_T Γ pc lo st σ) ?_) _ _ _ _ _ ((e_Mo_mark _ _ _ _).trans h)
    clear h
    refine List.forall_mem_cons.mpr ⟨fun lo st σ h => ?_, fun _ h => absurd h List.not_mem_nil⟩
    · dsimp only at h
      split at h
      · exact w_Mo_mark_63 X _ _ _ _ h
      · cases h
  · cases h
theorem a_Mo_mark (as : List sv_V) (σ : sv_S) (x : Int32 × sv_S) (h : n_Mo_mark as σ = some x) : sv_args 4 ev_Mo_mark.2.2.2.1 as := by
  unfold n_Mo_mark at h
  split at h
  · exact ⟨Nat.le_of_ble_eq_true rfl, fun _ v hv => by
      simp only [List.mem_cons, List.not_mem_nil, or_false] at hv
      rcases hv with rfl | rfl | rfl | rfl <;> trivial⟩
  · cases h
theorem g_Mo_mark (as : List sv_V) (σ : sv_S) (x : Option sv_V × sv_S) (h : sv_gI n_Mo_mark as σ = some x) : ∃ r i as', as = sv_R r i :: as' ∧ sv_kd r i = .inl 12 := by
  obtain ⟨_, _, h, -⟩ := sv_b_some h
  unfold n_Mo_mark at h
  split at h
  · exact ⟨_, _, _, rfl, rfl⟩
  · cases h

set_option maxRecDepth 20000 in
theorem m_Mo_mark (l : Launch) : sv_M l yX12_mark cX12_mark 4 (some .int) (sv_gI n_Mo_mark) 2 := by
  refine sv_mI (E := ev_Mo_mark) (by decide +kernel) (ln_gen fk_12 kk_12 (sv_ns _ (fun _ => rfl) _)) ?_ a_Mo_mark b_Mo_mark
  intro p e R s m args below meth c cells slots Q base ad dC dI cA n0 S hkn hR hf pc n f h
  refine sv_lk_all (P := fun pc (x : Nat × sv_F) => sv_cok p l e R s m args below meth c cells slots Q base ad dC dI cA true 4 n0 pc x.1 x.2) ?_ pc (n, f) h
  exact List.forall_mem_cons.mpr ⟨(sv_cS S hkn (m_Mo_isSheet l) ⟨Nat.le_trans (by decide) hR.1, Nat.le_trans (by decide) hR.2⟩ (by decide) hf (sv_w4 tw_1409 tw_1410 tw_65 tw_1411) (by decide +kernel) (sv_dc3 d_Mo_mark (pc := 1) rfl rfl)).I,
      List.forall_mem_cons.mpr ⟨(sv_cS S hkn (m_Mo_isIn l) ⟨Nat.le_trans (by decide) hR.1, Nat.le_trans (by decide) hR.2⟩ (by decide) hf (sv_w4 tw_1098 tw_1099 tw_65 tw_1100) (by decide +kernel) (sv_dc3 d_Mo_mark (pc := 35) rfl rfl)).I,
      List.forall_mem_cons.mpr ⟨(sv_cS S hkn (m_Mo_isIn l) ⟨Nat.le_trans (by decide) hR.1, Nat.le_trans (by decide) hR.2⟩ (by decide) hf (sv_w4 tw_1098 tw_1099 tw_65 tw_1100) (by decide +kernel) (sv_dc3 d_Mo_mark (pc := 87) rfl rfl)).I,
      fun _ h => absurd h List.not_mem_nil⟩⟩⟩
noncomputable def f_Mo_pour_84 (k27 : Int32 → Int32 → Int32 → sv_S → Option (Int32 × sv_S)) (x1 : Int32) (x2 : Int32) (x3 : Int32) (y0 : Int32) (σ : sv_S) : Option (Int32 × sv_S) :=
    sv_b (f_Mo_becomes (((6 : Int32) + ((8 : Int32) * x3)) + (1 : Int32)) y0 σ) (fun v1 σ2 =>
      sv_if (y0 = v1)
        (k27 x1 (x2 + (0 : Int32)) (x3 + (1 : Int32)) σ2)
        (k27 x1 (x2 + (1 : Int32)) (x3 + (1 : Int32)) σ2))
noncomputable def f_Mo_pour_27 : Nat → Int32 → Int32 → Int32 → sv_S → Option (Int32 × sv_S)
  | 0, _, _, _, _ => none
  | n + 1, x1, x2, x3, σ =>
    sv_g (sv_in x1 4) (sv_if ((σ 31 5 (x1.toNatClampNeg)) ≤ x3)
      (some (x2, σ))
      (sv_g (sv_in (0 : Int32) 3086) (sv_if ((σ 31 0 ((0 : Int32).toNatClampNeg)) ≤ x3)
        (some (x2, σ))
        (sv_g (sv_in (((24 : Int32) * x1) + x3) 96) (sv_if ((σ 31 6 ((((24 : Int32) * x1) + x3).toNatClampNeg)) = (-1000000005 : Int32))
          (sv_b (f_Mo_of x3 (1 : Int32) σ) (fun v1 σ2 =>
            f_Mo_pour_84 (f_Mo_pour_27 n) x1 x2 x3 v1 σ2))
          (sv_b (f_Mo_held (σ 31 6 ((((24 : Int32) * x1) + x3).toNatClampNeg)) (1 : Int32) (9 : Int32) σ) (fun v3 σ4 =>
            f_Mo_pour_84 (f_Mo_pour_27 n) x1 x2 x3 v3 σ4)))))))
noncomputable def f_Mo_pour (a1 : Int32) (σ : sv_S) : Option (Int32 × sv_S) :=
  sv_b (f_Mo_isSheet a1 σ) (fun v1 σ2 =>
    sv_if (v1 = 0)
      (some ((-1000000001 : Int32), σ2))
      (sv_g (sv_in a1 4) (sv_if (0 ≤ (σ2 31 4 (a1.toNatClampNeg)))
        (f_Mo_pour_27 sv_fu a1 (0 : Int32) (0 : Int32) σ2)
        (some ((-1000000011 : Int32), σ2)))))
noncomputable def n_Mo_pour : List sv_V → sv_S → Option (Int32 × sv_S)
  | [.inr (.inr (some (30, 0))), .inl a1], σ => f_Mo_pour a1 σ
  | _, _ => none
def cd_Mo_pour : sv_C := [(0, (.iload_n 1, (sv_N, (1, (0, []))))), (1, (.invokestatic 297, (sv_N, (4, (0, []))))), (4, (.ifCond .ne 6, (sv_N, (7, (10, []))))), (7, (.ldc 84, (sv_N, (9, (0, []))))), (9, (.ireturn, (sv_N, (10, (0, []))))), (10, (.aload_n 0, (sv_N, (11, (0, []))))), (11, (.getfield 19, (sv_N, (14, (0, []))))), (14, (.iload_n 1, (sv_N, (15, (0, []))))), (15, (.iaload, (sv_N, (16, (0, []))))), (16, (.ifCond .ge 7, (sv_N, (19, (23, []))))), (19, (.ldc_w 303, (sv_N, (22, (0, []))))), (22, (.ireturn, (sv_N, (23, (0, []))))), (23, (.iconst 0, (.inl (0 : Int32), (24, (0, []))))), (24, (.istore_n 2, (sv_N, (25, (0, []))))), (25, (.iconst 0, (.inl (0 : Int32), (26, (0, []))))), (26, (.istore_n 3, (sv_N, (27, (0, []))))), (27, (.iload_n 3, (sv_N, (28, (0, []))))), (28, (.aload_n 0, (sv_N, (29, (0, []))))), (29, (.getfield 22, (sv_N, (32, (0, []))))), (32, (.iload_n 1, (sv_N, (33, (0, []))))), (33, (.iaload, (sv_N, (34, (0, []))))), (34, (.if_icmp .ge 86, (sv_N, (37, (120, []))))), (37, (.iload_n 3, (sv_N, (38, (0, []))))), (38, (.aload_n 0, (sv_N, (39, (0, []))))), (39, (.getfield 7, (sv_N, (42, (0, []))))), (42, (.iconst 0, (.inl (0 : Int32), (43, (0, []))))), (43, (.iaload, (sv_N, (44, (0, []))))), (44, (.if_icmp .ge 76, (sv_N, (47, (120, []))))), (47, (.aload_n 0, (sv_N, (48, (0, []))))), (48, (.getfield 25, (sv_N, (51, (0, []))))), (51, (.bipush 24, (.inl (24 : Int32), (53, (0, []))))), (53, (.iload_n 1, (sv_N, (54, (0, []))))), (54, (.imul, (sv_N, (55, (0, []))))), (55, (.iload_n 3, (sv_N, (56, (0, []))))), (56, (.iadd, (sv_N, (57, (0, []))))), (57, (.iaload, (sv_N, (58, (0, []))))), (58, (.istore 4, (sv_N, (60, (0, []))))), (60, (.iload 4, (sv_N, (62, (0, []))))), (62, (.ldc 70, (sv_N, (64, (0, []))))), (64, (.if_icmp .ne 12, (sv_N, (67, (76, []))))), (67, (.aload_n 0, (sv_N, (68, (0, []))))), (68, (.iload_n 3, (sv_N, (69, (0, []))))), (69, (.iconst 1, (.inl (1 : Int32), (70, (0, []))))), (70, (.invokevirtual 90, (sv_N, (73, (0, []))))), (73, (.goto 11, (sv_N, (76, (84, []))))), (76, (.iload 4, (sv_N, (78, (0, []))))), (78, (.iconst 1, (.inl (1 : Int32), (79, (0, []))))), (79, (.bipush 9, (.inl (9 : Int32), (81, (0, []))))), (81, (.invokestatic 110, (sv_N, (84, (0, []))))), (84, (.istore 5, (sv_N, (86, (0, []))))), (86, (.iload_n 2, (sv_N, (87, (0, []))))), (87, (.iload 5, (sv_N, (89, (0, []))))), (89, (.aload_n 0, (sv_N, (90, (0, []))))), (90, (.bipush 6, (.inl (6 : Int32), (92, (0, []))))), (92, (.bipush 8, (.inl (8 : Int32), (94, (0, []))))), (94, (.iload_n 3, (sv_N, (95, (0, []))))), (95, (.imul, (sv_N, (96, (0, []))))), (96, (.iadd, (sv_N, (97, (0, []))))), (97, (.iconst 1, (.inl (1 : Int32), (98, (0, []))))), (98, (.iadd, (sv_N, (99, (0, []))))), (99, (.iload 5, (sv_N, (101, (0, []))))), (101, (.invokevirtual 134, (sv_N, (104, (0, []))))), (104, (.if_icmp .ne 7, (sv_N, (107, (111, []))))), (107, (.iconst 0, (.inl (0 : Int32), (108, (0, []))))), (108, (.goto 4, (sv_N, (111, (112, []))))), (111, (.iconst 1, (.inl (1 : Int32), (112, (0, []))))), (112, (.iadd, (sv_N, (113, (0, []))))), (113, (.istore_n 2, (sv_N, (114, (0, []))))), (114, (.iinc 3 1, (.inl (1 : Int32), (117, (0, []))))), (117, (.goto (-90), (sv_N, (120, (27, []))))), (120, (.iload_n 2, (sv_N, (121, (0, []))))), (121, (.ireturn, (sv_N, (122, (0, [])))))]
noncomputable def ev_Mo_pour : sv_E := (fun i => sv_lk i fl_12, (fun i => sv_lk i kc_12, (fun _ => false, (true, fun pc => sv_lk pc [(1, (1, .inl n_Mo_isSheet)), (70, (3, .inl n_Mo_of)), (81, (3, .inl n_Mo_held)), (101, (3, .inl n_Mo_becomes))]))))
noncomputable def kk_Mo_pour_84 (k27 : Int32 → Int32 → Int32 → sv_S → Option (Int32 × sv_S)) : sv_K (Int32 × sv_S) := fun pc => sv_lk pc [(27, fun lo st σ => match lo, st with
    | [some (.inr (.inr (some (30, 0)))), some (.inl x1), some (.inl x2), some (.inl x3), _, _], [] => k27 x1 x2 x3 σ
    | _, _ => none)]
set_option maxRecDepth 20000 in
theorem e_Mo_pour_84 (k27 : Int32 → Int32 → Int32 → sv_S → Option (Int32 × sv_S)) (x1 : Int32) (x2 : Int32) (x3 : Int32) (y0 : Int32) (z4 z5 : Option sv_V) (σ : sv_S) : sv_ex ev_Mo_pour sv_rI (kk_Mo_pour_84 k27) cd_Mo_pour 74 84 [some (.inr (.inr (some (30, 0)))), some (.inl x1), some (.inl x2), some (.inl x3), z4, z5] [.inl y0] σ = f_Mo_pour_84 k27 x1 x2 x3 y0 σ := by
  unfold f_Mo_pour_84
  delta ev_Mo_pour kk_Mo_pour_84 n_Mo_isSheet n_Mo_of n_Mo_held n_Mo_becomes
  generalize f_Mo_isSheet = c0
  generalize f_Mo_of = c1
  generalize f_Mo_held = c2
  generalize f_Mo_becomes = c3
  generalize f_Mo_pour_27 = c4
  rfl
noncomputable def kk_Mo_pour_27 (n : Nat) : sv_K (Int32 × sv_S) := fun pc => sv_lk pc [(84, fun lo st σ => match lo, st with
    | [some (.inr (.inr (some (30, 0)))), some (.inl x1), some (.inl x2), some (.inl x3), _, _], [.inl y0] => f_Mo_pour_84 (f_Mo_pour_27 n) x1 x2 x3 y0 σ
    | _, _ => none)]
set_option maxRecDepth 20000 in
theorem e_Mo_pour_27 (n : Nat) (x1 : Int32) (x2 : Int32) (x3 : Int32) (z4 z5 : Option sv_V) (σ : sv_S) : sv_ex ev_Mo_pour sv_rI (kk_Mo_pour_27 n) cd_Mo_pour 74 27 [some (.inr (.inr (some (30, 0)))), some (.inl x1), some (.inl x2), some (.inl x3), z4, z5] [] σ = f_Mo_pour_27 (n + 1) x1 x2 x3 σ := by
  rw [f_Mo_pour_27.eq_2]
  delta ev_Mo_pour kk_Mo_pour_27 n_Mo_isSheet n_Mo_of n_Mo_held n_Mo_becomes
  generalize f_Mo_isSheet = c0
  generalize f_Mo_of = c1
  generalize f_Mo_held = c2
  generalize f_Mo_becomes = c3
  generalize f_Mo_pour_84 = c4
  generalize f_Mo_pour_27 = c5
  rfl
noncomputable def kk_Mo_pour : sv_K (Int32 × sv_S) := fun pc => sv_lk pc [(27, fun lo st σ => match lo, st with
    | [some (.inr (.inr (some (30, 0)))), some (.inl x1), some (.inl x2), some (.inl x3), _, _], [] => f_Mo_pour_27 sv_fu x1 x2 x3 σ
    | _, _ => none)]
set_option maxRecDepth 20000 in
theorem e_Mo_pour (a1 : Int32) (σ : sv_S) : sv_ex ev_Mo_pour sv_rI kk_Mo_pour cd_Mo_pour 74 0 [some (.inr (.inr (some (30, 0)))), some (.inl a1), none, none, none, none] [] σ = f_Mo_pour a1 σ := by
  unfold f_Mo_pour
  delta ev_Mo_pour kk_Mo_pour n_Mo_isSheet n_Mo_of n_Mo_held n_Mo_becomes
  generalize f_Mo_isSheet = c0
  generalize f_Mo_of = c1
  generalize f_Mo_held = c2
  generalize f_Mo_becomes = c3
  generalize f_Mo_pour_27 = c4
  rfl
theorem d_Mo_pour : cd_Mo_pour.all (sv_dk cX12_pour) = true := by decide +kernel
set_option maxRecDepth 20000 in
theorem w_Mo_pour_84 {Γ : sv_Ga} {res : Int32 × sv_S} (X : sv_Ok Γ ev_Mo_pour cX12_pour sv_rI res) (k27 : Int32 → Int32 → Int32 → sv_S → Option (Int32 × sv_S)) (h27 : ∀ (x1 : Int32) (x2 : Int32) (x3 : Int32) (z4 z5 : Option sv_V) (σ : sv_S), k27 x1 x2 x3 σ = some res → sv_T Γ 27 [some (.inr (.inr (some (30, 0)))), some (.inl x1), some (.inl x2), some (.inl x3), z4, z5] [] σ) : ∀ (x1 : Int32) (x2 : Int32) (x3 : Int32) (y0 : Int32) (z4 z5 : Option sv_V) (σ : sv_S), f_Mo_pour_84 k27 x1 x2 x3 y0 σ = some res → sv_T Γ 84 [some (.inr (.inr (some (30, 0)))), some (.inl x1), some (.inl x2), some (.inl x3), z4, z5] [.inl y0] σ := by
  intro x1 x2 x3 y0 z4 z5 σ h
  refine sv_run X d_Mo_pour (K := kk_Mo_pour_84 k27) (sv_lk_all (P := fun pc (k : sv_Lo → List sv_V → sv_S → Option (Int32 × sv_S)) => ∀ lo st σ, k lo st σ = some res → sv_T Γ pc lo st σ) ?_) _ _ _ _ _ ((e_Mo_pour_84 k27 x1 x2 x3 y0 z4 z5 σ).trans h)
  clear h
  refine List.forall_mem_cons.mpr ⟨fun lo st σ h => ?_, fun _ h => absurd h List.not_mem_nil⟩
  · dsimp only at h
    split at h
    · exact h27 _ _ _ _ _ _ h
    · cases h

set_option maxRecDepth 20000 in
theorem w_Mo_pour_27 {Γ : sv_Ga} {res : Int32 × sv_S} (X : sv_Ok Γ ev_Mo_pour cX12_pour sv_rI res) : ∀ (n : Nat) (x1 : Int32) (x2 : Int32) (x3 : Int32) (z4 z5 : Option sv_V) (σ : sv_S), f_Mo_pour_27 n x1 x2 x3 σ = some res → sv_T Γ 27 [some (.inr (.inr (some (30, 0)))), some (.inl x1), some (.inl x2), some (.inl x3), z4, z5] [] σ := by
  intro n
  induction n with
  | zero =>
    intro x1 x2 x3 z4 z5 σ h
    rw [f_Mo_pour_27.eq_1] at h
    cases h
  | succ n ih =>
    intro x1 x2 x3 z4 z5 σ h
    refine sv_run X d_Mo_pour (K := kk_Mo_pour_27 n) (sv_lk_all (P := fun pc (k : sv_Lo → List sv_V → sv_S → Option (Int32 × sv_S)) => ∀ lo st σ, k lo st σ = some res → sv_T Γ pc lo st σ) ?_) _ _ _ _ _ ((e_Mo_pour_27 n x1 x2 x3 z4 z5 σ).trans h)
    clear h
    refine List.forall_mem_cons.mpr ⟨fun lo st σ h => ?_, fun _ h => absurd h List.not_mem_nil⟩
    · dsimp only at h
      split at h
      · exact w_Mo_pour_84 X _ ih _ _ _ _ _ _ _ h
      · cases h

set_option maxRecDepth 20000 in
theorem b_Mo_pour (Γ : sv_Ga) (res : Int32 × sv_S) (X : sv_Ok Γ ev_Mo_pour cX12_pour sv_rI res) (as : List sv_V) (σ : sv_S) (h : n_Mo_pour as σ = some res) : sv_T Γ 0 (sv_e0 6 as) [] σ := by
  unfold n_Mo_pour at h
  split at h
  · refine sv_run X d_Mo_pour (K := kk_Mo_pour) (sv_lk_all (P := fun pc (k : sv_Lo → List sv_V → sv_S → Option (Int32 × sv_S)) => ∀ lo st σ, k lo st σ = some res → sv_T Γ pc lo st σ) ?_) _ _ _ _ _ ((e_Mo_pour _ _).trans h)
    clear h
    refine List.forall_mem_cons.mpr ⟨fun lo st σ h => ?_, fun _ h => absurd h List.not_mem_nil⟩
    · dsimp only at h
      split at h
      · exact w_Mo_pour_27 X _ _ _ _ _ _ _ h
      · cases h
  · cases h
theorem a_Mo_pour (as : List sv_V) (σ : sv_S) (x : Int32 × sv_S) (h : n_Mo_pour as σ = some x) : sv_args 6 ev_Mo_pour.2.2.2.1 as := by
  unfold n_Mo_pour at h
  split at h
  · exact ⟨Nat.le_of_ble_eq_true rfl, fun _ v hv => by
      simp only [List.mem_cons, List.not_mem_nil, or_false] at hv
      rcases hv with rfl | rfl <;> trivial⟩
  · cases h
theorem g_Mo_pour (as : List sv_V) (σ : sv_S) (x : Option sv_V × sv_S) (h : sv_gI n_Mo_pour as σ = some x) : ∃ r i as', as = sv_R r i :: as' ∧ sv_kd r i = .inl 12 := by
  obtain ⟨_, _, h, -⟩ := sv_b_some h
  unfold n_Mo_pour at h
  split at h
  · exact ⟨_, _, _, rfl, rfl⟩
  · cases h

set_option maxRecDepth 20000 in
theorem m_Mo_pour (l : Launch) : sv_M l yX12_pour cX12_pour 6 (some .int) (sv_gI n_Mo_pour) 2 := by
  refine sv_mI (E := ev_Mo_pour) (by decide +kernel) (ln_gen fk_12 kk_12 (sv_ns _ (fun _ => rfl) _)) ?_ a_Mo_pour b_Mo_pour
  intro p e R s m args below meth c cells slots Q base ad dC dI cA n0 S hkn hR hf pc n f h
  refine sv_lk_all (P := fun pc (x : Nat × sv_F) => sv_cok p l e R s m args below meth c cells slots Q base ad dC dI cA true 6 n0 pc x.1 x.2) ?_ pc (n, f) h
  exact List.forall_mem_cons.mpr ⟨(sv_cS S hkn (m_Mo_isSheet l) ⟨Nat.le_trans (by decide) hR.1, Nat.le_trans (by decide) hR.2⟩ (by decide) hf (sv_w4 tw_1409 tw_1410 tw_65 tw_1411) (by decide +kernel) (sv_dc3 d_Mo_pour (pc := 1) rfl rfl)).I,
      List.forall_mem_cons.mpr ⟨(sv_cV S hkn (m_Mo_of l) ⟨Nat.le_trans (by decide) hR.1, Nat.le_trans (by decide) hR.2⟩ (by decide) hf rfl g_Mo_of (sv_w5 tw_1120 tw_1122 tw_10 tw_65 tw_1123) (by decide +kernel) (sv_dc3 d_Mo_pour (pc := 70) rfl rfl)).I,
      List.forall_mem_cons.mpr ⟨(sv_cS S hkn (m_Mo_held l) ⟨Nat.le_trans (by decide) hR.1, Nat.le_trans (by decide) hR.2⟩ (by decide) hf (sv_w4 tw_1160 tw_1161 tw_65 tw_1162) (by decide +kernel) (sv_dc3 d_Mo_pour (pc := 81) rfl rfl)).I,
      List.forall_mem_cons.mpr ⟨(sv_cV S hkn (m_Mo_becomes l) ⟨Nat.le_trans (by decide) hR.1, Nat.le_trans (by decide) hR.2⟩ (by decide) hf rfl g_Mo_becomes (sv_w5 tw_1183 tw_1185 tw_21 tw_65 tw_1186) (by decide +kernel) (sv_dc3 d_Mo_pour (pc := 101) rfl rfl)).I,
      fun _ h => absurd h List.not_mem_nil⟩⟩⟩⟩
noncomputable def f_Mo_reads_106 (x3 : Int32) (σ : sv_S) : Option (Int32 × sv_S) :=
    sv_b0 (f_Mo_laysBack σ) (fun σ1 =>
      sv_b (f_Mo_orNone x3 σ1) (fun v2 σ3 =>
        some (v2, σ3)))
noncomputable def f_Mo_reads_93 (k40 : Int32 → Int32 → Int32 → Int32 → sv_S → Option (Int32 × sv_S)) (x1 : Int32) (x2 : Int32) (x4 : Int32) (y0 : Int32) (σ : sv_S) : Option (Int32 × sv_S) :=
    sv_b (f_Mo_goesOn σ) (fun v1 σ2 =>
      k40 x1 x2 y0 (x4 + (1 : Int32)) σ2)
noncomputable def f_Mo_reads_40 : Nat → Int32 → Int32 → Int32 → Int32 → sv_S → Option (Int32 × sv_S)
  | 0, _, _, _, _, _ => none
  | n + 1, x1, x2, x3, x4, σ =>
    sv_g (sv_in x1 4) (sv_if ((σ 31 5 (x1.toNatClampNeg)) ≤ x4)
      (f_Mo_reads_106 x3 σ)
      (sv_if (0 ≤ x3)
        (f_Mo_reads_106 x3 σ)
        (sv_g (sv_in (((24 : Int32) * x1) + x4) 96) (sv_if ((σ 31 6 ((((24 : Int32) * x1) + x4).toNatClampNeg)) = (-1000000005 : Int32))
          (f_Mo_reads_93 (f_Mo_reads_40 n) x1 x2 x4 (-1 : Int32) σ)
          (sv_b (f_Mo_of x2 (2 : Int32) σ) (fun v1 σ2 =>
            sv_if ((σ 31 6 ((((24 : Int32) * x1) + x4).toNatClampNeg)) = v1)
              (f_Mo_reads_93 (f_Mo_reads_40 n) x1 x2 x4 (-1 : Int32) σ2)
              (f_Mo_reads_93 (f_Mo_reads_40 n) x1 x2 x4 x4 σ2)))))))
noncomputable def f_Mo_reads (a1 : Int32) (a2 : Int32) (σ : sv_S) : Option (Int32 × sv_S) :=
  sv_b (f_Mo_isSheet a1 σ) (fun v1 σ2 =>
    sv_if (v1 = 0)
      (some ((-1000000001 : Int32), σ2))
      (sv_b (f_Mo_isDrummer a2 σ2) (fun v3 σ4 =>
        sv_if (v3 = 0)
          (some ((-1000000001 : Int32), σ4))
          (sv_g (sv_in a1 4) (sv_if (0 ≤ (σ4 31 4 (a1.toNatClampNeg)))
            (sv_b0 (f_Mo_laysBy σ4) (fun σ5 =>
              f_Mo_reads_40 sv_fu a1 a2 (-1 : Int32) (0 : Int32) σ5))
            (some ((-1000000011 : Int32), σ4)))))))
noncomputable def n_Mo_reads : List sv_V → sv_S → Option (Int32 × sv_S)
  | [.inr (.inr (some (30, 0))), .inl a1, .inl a2], σ => f_Mo_reads a1 a2 σ
  | _, _ => none
def cd_Mo_reads : sv_C := [(0, (.iload_n 1, (sv_N, (1, (0, []))))), (1, (.invokestatic 297, (sv_N, (4, (0, []))))), (4, (.ifCond .eq 11, (sv_N, (7, (15, []))))), (7, (.aload_n 0, (sv_N, (8, (0, []))))), (8, (.iload_n 2, (sv_N, (9, (0, []))))), (9, (.invokevirtual 113, (sv_N, (12, (0, []))))), (12, (.ifCond .ne 6, (sv_N, (15, (18, []))))), (15, (.ldc 84, (sv_N, (17, (0, []))))), (17, (.ireturn, (sv_N, (18, (0, []))))), (18, (.aload_n 0, (sv_N, (19, (0, []))))), (19, (.getfield 19, (sv_N, (22, (0, []))))), (22, (.iload_n 1, (sv_N, (23, (0, []))))), (23, (.iaload, (sv_N, (24, (0, []))))), (24, (.ifCond .ge 7, (sv_N, (27, (31, []))))), (27, (.ldc_w 303, (sv_N, (30, (0, []))))), (30, (.ireturn, (sv_N, (31, (0, []))))), (31, (.aload_n 0, (sv_N, (32, (0, []))))), (32, (.invokevirtual 162, (sv_N, (35, (0, []))))), (35, (.iconst (-1), (.inl (-1 : Int32), (36, (0, []))))), (36, (.istore_n 3, (sv_N, (37, (0, []))))), (37, (.iconst 0, (.inl (0 : Int32), (38, (0, []))))), (38, (.istore 4, (sv_N, (40, (0, []))))), (40, (.iload 4, (sv_N, (42, (0, []))))), (42, (.aload_n 0, (sv_N, (43, (0, []))))), (43, (.getfield 22, (sv_N, (46, (0, []))))), (46, (.iload_n 1, (sv_N, (47, (0, []))))), (47, (.iaload, (sv_N, (48, (0, []))))), (48, (.if_icmp .ge 58, (sv_N, (51, (106, []))))), (51, (.iload_n 3, (sv_N, (52, (0, []))))), (52, (.ifCond .ge 54, (sv_N, (55, (106, []))))), (55, (.aload_n 0, (sv_N, (56, (0, []))))), (56, (.getfield 25, (sv_N, (59, (0, []))))), (59, (.bipush 24, (.inl (24 : Int32), (61, (0, []))))), (61, (.iload_n 1, (sv_N, (62, (0, []))))), (62, (.imul, (sv_N, (63, (0, []))))), (63, (.iload 4, (sv_N, (65, (0, []))))), (65, (.iadd, (sv_N, (66, (0, []))))), (66, (.iaload, (sv_N, (67, (0, []))))), (67, (.istore 5, (sv_N, (69, (0, []))))), (69, (.iload 5, (sv_N, (71, (0, []))))), (71, (.ldc 70, (sv_N, (73, (0, []))))), (73, (.if_icmp .eq 19, (sv_N, (76, (92, []))))), (76, (.iload 5, (sv_N, (78, (0, []))))), (78, (.aload_n 0, (sv_N, (79, (0, []))))), (79, (.iload_n 2, (sv_N, (80, (0, []))))), (80, (.iconst 2, (.inl (2 : Int32), (81, (0, []))))), (81, (.invokevirtual 90, (sv_N, (84, (0, []))))), (84, (.if_icmp .eq 8, (sv_N, (87, (92, []))))), (87, (.iload 4, (sv_N, (89, (0, []))))), (89, (.goto 4, (sv_N, (92, (93, []))))), (92, (.iconst (-1), (.inl (-1 : Int32), (93, (0, []))))), (93, (.istore_n 3, (sv_N, (94, (0, []))))), (94, (.aload_n 0, (sv_N, (95, (0, []))))), (95, (.invokevirtual 154, (sv_N, (98, (0, []))))), (98, (.istore 6, (sv_N, (100, (0, []))))), (100, (.iinc 4 1, (.inl (1 : Int32), (103, (0, []))))), (103, (.goto (-63), (sv_N, (106, (40, []))))), (106, (.aload_n 0, (sv_N, (107, (0, []))))), (107, (.invokevirtual 165, (sv_N, (110, (0, []))))), (110, (.iload_n 3, (sv_N, (111, (0, []))))), (111, (.invokestatic 171, (sv_N, (114, (0, []))))), (114, (.ireturn, (sv_N, (115, (0, [])))))]
noncomputable def ev_Mo_reads : sv_E := (fun i => sv_lk i fl_12, (fun i => sv_lk i kc_12, (fun _ => false, (true, fun pc => sv_lk pc [(1, (1, .inl n_Mo_isSheet)), (9, (2, .inl n_Mo_isDrummer)), (32, (1, .inr (.inl n_Mo_laysBy))), (81, (3, .inl n_Mo_of)), (95, (1, .inl n_Mo_goesOn)), (107, (1, .inr (.inl n_Mo_laysBack))), (111, (1, .inl n_Mo_orNone))]))))
noncomputable def kk_Mo_reads_106 : sv_K (Int32 × sv_S) := fun pc => sv_lk pc []
set_option maxRecDepth 20000 in
theorem e_Mo_reads_106 (x3 : Int32) (z1 z2 z4 z5 z6 : Option sv_V) (σ : sv_S) : sv_ex ev_Mo_reads sv_rI (kk_Mo_reads_106) cd_Mo_reads 64 106 [some (.inr (.inr (some (30, 0)))), z1, z2, some (.inl x3), z4, z5, z6] [] σ = f_Mo_reads_106 x3 σ := by
  unfold f_Mo_reads_106
  delta ev_Mo_reads kk_Mo_reads_106 n_Mo_isSheet n_Mo_isDrummer n_Mo_laysBy n_Mo_of n_Mo_goesOn n_Mo_laysBack n_Mo_orNone
  generalize f_Mo_isSheet = c0
  generalize f_Mo_isDrummer = c1
  generalize f_Mo_laysBy = c2
  generalize f_Mo_of = c3
  generalize f_Mo_goesOn = c4
  generalize f_Mo_laysBack = c5
  generalize f_Mo_orNone = c6
  rfl
noncomputable def kk_Mo_reads_93 (k40 : Int32 → Int32 → Int32 → Int32 → sv_S → Option (Int32 × sv_S)) : sv_K (Int32 × sv_S) := fun pc => sv_lk pc [(40, fun lo st σ => match lo, st with
    | [some (.inr (.inr (some (30, 0)))), some (.inl x1), some (.inl x2), some (.inl x3), some (.inl x4), _, _], [] => k40 x1 x2 x3 x4 σ
    | _, _ => none)]
set_option maxRecDepth 20000 in
theorem e_Mo_reads_93 (k40 : Int32 → Int32 → Int32 → Int32 → sv_S → Option (Int32 × sv_S)) (x1 : Int32) (x2 : Int32) (x4 : Int32) (y0 : Int32) (z3 z5 z6 : Option sv_V) (σ : sv_S) : sv_ex ev_Mo_reads sv_rI (kk_Mo_reads_93 k40) cd_Mo_reads 64 93 [some (.inr (.inr (some (30, 0)))), some (.inl x1), some (.inl x2), z3, some (.inl x4), z5, z6] [.inl y0] σ = f_Mo_reads_93 k40 x1 x2 x4 y0 σ := by
  unfold f_Mo_reads_93
  delta ev_Mo_reads kk_Mo_reads_93 n_Mo_isSheet n_Mo_isDrummer n_Mo_laysBy n_Mo_of n_Mo_goesOn n_Mo_laysBack n_Mo_orNone
  generalize f_Mo_isSheet = c0
  generalize f_Mo_isDrummer = c1
  generalize f_Mo_laysBy = c2
  generalize f_Mo_of = c3
  generalize f_Mo_goesOn = c4
  generalize f_Mo_laysBack = c5
  generalize f_Mo_orNone = c6
  generalize f_Mo_reads_40 = c7
  rfl
noncomputable def kk_Mo_reads_40 (n : Nat) : sv_K (Int32 × sv_S) := fun pc => sv_lk pc [(93, fun lo st σ => match lo, st with
    | [some (.inr (.inr (some (30, 0)))), some (.inl x1), some (.inl x2), _, some (.inl x4), _, _], [.inl y0] => f_Mo_reads_93 (f_Mo_reads_40 n) x1 x2 x4 y0 σ
    | _, _ => none),
  (106, fun lo st σ => match lo, st with
    | [some (.inr (.inr (some (30, 0)))), _, _, some (.inl x3), _, _, _], [] => f_Mo_reads_106 x3 σ
    | _, _ => none)]
set_option maxRecDepth 20000 in
theorem e_Mo_reads_40 (n : Nat) (x1 : Int32) (x2 : Int32) (x3 : Int32) (x4 : Int32) (z5 z6 : Option sv_V) (σ : sv_S) : sv_ex ev_Mo_reads sv_rI (kk_Mo_reads_40 n) cd_Mo_reads 64 40 [some (.inr (.inr (some (30, 0)))), some (.inl x1), some (.inl x2), some (.inl x3), some (.inl x4), z5, z6] [] σ = f_Mo_reads_40 (n + 1) x1 x2 x3 x4 σ := by
  rw [f_Mo_reads_40.eq_2]
  delta ev_Mo_reads kk_Mo_reads_40 n_Mo_isSheet n_Mo_isDrummer n_Mo_laysBy n_Mo_of n_Mo_goesOn n_Mo_laysBack n_Mo_orNone
  generalize f_Mo_isSheet = c0
  generalize f_Mo_isDrummer = c1
  generalize f_Mo_laysBy = c2
  generalize f_Mo_of = c3
  generalize f_Mo_goesOn = c4
  generalize f_Mo_laysBack = c5
  generalize f_Mo_orNone = c6
  generalize f_Mo_reads_93 = c7
  generalize f_Mo_reads_106 = c8
  generalize f_Mo_reads_40 = c9
  rfl
noncomputable def kk_Mo_reads : sv_K (Int32 × sv_S) := fun pc => sv_lk pc [(40, fun lo st σ => match lo, st with
    | [some (.inr (.inr (some (30, 0)))), some (.inl x1), some (.inl x2), some (.inl x3), some (.inl x4), _, _], [] => f_Mo_reads_40 sv_fu x1 x2 x3 x4 σ
    | _, _ => none)]
set_option maxRecDepth 20000 in
theorem e_Mo_reads (a1 : Int32) (a2 : Int32) (σ : sv_S) : sv_ex ev_Mo_reads sv_rI kk_Mo_reads cd_Mo_reads 64 0 [some (.inr (.inr (some (30, 0)))), some (.inl a1), some (.inl a2), none, none, none, none] [] σ = f_Mo_reads a1 a2 σ := by
  unfold f_Mo_reads
  delta ev_Mo_reads kk_Mo_reads n_Mo_isSheet n_Mo_isDrummer n_Mo_laysBy n_Mo_of n_Mo_goesOn n_Mo_laysBack n_Mo_orNone
  generalize f_Mo_isSheet = c0
  generalize f_Mo_isDrummer = c1
  generalize f_Mo_laysBy = c2
  generalize f_Mo_of = c3
  generalize f_Mo_goesOn = c4
  generalize f_Mo_laysBack = c5
  generalize f_Mo_orNone = c6
  generalize f_Mo_reads_40 = c7
  rfl
theorem d_Mo_reads : cd_Mo_reads.all (sv_dk cX12_reads) = true := by decide +kernel
set_option maxRecDepth 20000 in
theorem w_Mo_reads_106 {Γ : sv_Ga} {res : Int32 × sv_S} (X : sv_Ok Γ ev_Mo_reads cX12_reads sv_rI res) : ∀ (x3 : Int32) (z1 z2 z4 z5 z6 : Option sv_V) (σ : sv_S), f_Mo_reads_106 x3 σ = some res → sv_T Γ 106 [some (.inr (.inr (some (30, 0)))), z1, z2, some (.inl x3), z4, z5, z6] [] σ := by
  intro x3 z1 z2 z4 z5 z6 σ h
  refine sv_run X d_Mo_reads (K := kk_Mo_reads_106) (sv_lk_all (P := fun pc (k : sv_Lo → List sv_V → sv_S → Option (Int32 × sv_S)) => ∀ lo st σ, k lo st σ = some res → sv_T Γ pc lo st σ) ?_) _ _ _ _ _ ((e_Mo_reads_106 x3 z1 z2 z4 z5 z6 σ).trans h)
  clear h
  exact fun _ h => absurd h List.not_mem_nil

set_option maxRecDepth 20000 in
theorem w_Mo_reads_93 {Γ : sv_Ga} {res : Int32 × sv_S} (X : sv_Ok Γ ev_Mo_reads cX12_reads sv_rI res) (k40 : Int32 → Int32 → Int32 → Int32 → sv_S → Option (Int32 × sv_S)) (h40 : ∀ (x1 : Int32) (x2 : Int32) (x3 : Int32) (x4 : Int32) (z5 z6 : Option sv_V) (σ : sv_S), k40 x1 x2 x3 x4 σ = some res → sv_T Γ 40 [some (.inr (.inr (some (30, 0)))), some (.inl x1), some (.inl x2), some (.inl x3), some (.inl x4), z5, z6] [] σ) : ∀ (x1 : Int32) (x2 : Int32) (x4 : Int32) (y0 : Int32) (z3 z5 z6 : Option sv_V) (σ : sv_S), f_Mo_reads_93 k40 x1 x2 x4 y0 σ = some res → sv_T Γ 93 [some (.inr (.inr (some (30, 0)))), some (.inl x1), some (.inl x2), z3, some (.inl x4), z5, z6] [.inl y0] σ := by
  intro x1 x2 x4 y0 z3 z5 z6 σ h
  refine sv_run X d_Mo_reads (K := kk_Mo_reads_93 k40) (sv_lk_all (P := fun pc (k : sv_Lo → List sv_V → sv_S → Option (Int32 × sv_S)) => ∀ lo st σ, k lo st σ = some res → sv_T Γ pc lo st σ) ?_) _ _ _ _ _ ((e_Mo_reads_93 k40 x1 x2 x4 y0 z3 z5 z6 σ).trans h)
  clear h
  refine List.forall_mem_cons.mpr ⟨fun lo st σ h => ?_, fun _ h => absurd h List.not_mem_nil⟩
  · dsimp only at h
    split at h
    · exact h40 _ _ _ _ _ _ _ h
    · cases h

set_option maxRecDepth 20000 in
theorem w_Mo_reads_40 {Γ : sv_Ga} {res : Int32 × sv_S} (X : sv_Ok Γ ev_Mo_reads cX12_reads sv_rI res) : ∀ (n : Nat) (x1 : Int32) (x2 : Int32) (x3 : Int32) (x4 : Int32) (z5 z6 : Option sv_V) (σ : sv_S), f_Mo_reads_40 n x1 x2 x3 x4 σ = some res → sv_T Γ 40 [some (.inr (.inr (some (30, 0)))), some (.inl x1), some (.inl x2), some (.inl x3), some (.inl x4), z5, z6] [] σ := by
  intro n
  induction n with
  | zero =>
    intro x1 x2 x3 x4 z5 z6 σ h
    rw [f_Mo_reads_40.eq_1] at h
    cases h
  | succ n ih =>
    intro x1 x2 x3 x4 z5 z6 σ h
    refine sv_run X d_Mo_reads (K := kk_Mo_reads_40 n) (sv_lk_all (P := fun pc (k : sv_Lo → List sv_V → sv_S → Option (Int32 × sv_S)) => ∀ lo st σ, k lo st σ = some res → sv_T Γ pc lo st σ) ?_) _ _ _ _ _ ((e_Mo_reads_40 n x1 x2 x3 x4 z5 z6 σ).trans h)
    clear h
    refine List.forall_mem_cons.mpr ⟨fun lo st σ h => ?_, List.forall_mem_cons.mpr ⟨fun lo st σ h => ?_, fun _ h => absurd h List.not_mem_nil⟩⟩
    · dsimp only at h
      split at h
      · exact w_Mo_reads_93 X _ ih _ _ _ _ _ _ _ _ h
      · cases h
    · dsimp only at h
      split at h
      · exact w_Mo_reads_106 X _ _ _ _ _ _ _ h
      · cases h

set_option maxRecDepth 20000 in
theorem b_Mo_reads (Γ : sv_Ga) (res : Int32 × sv_S) (X : sv_Ok Γ ev_Mo_reads cX12_reads sv_rI res) (as : List sv_V) (σ : sv_S) (h : n_Mo_reads as σ = some res) : sv_T Γ 0 (sv_e0 7 as) [] σ := by
  unfold n_Mo_reads at h
  split at h
  · refine sv_run X d_Mo_reads (K := kk_Mo_reads) (sv_lk_all (P := fun pc (k : sv_Lo → List sv_V → sv_S → Option (Int32 × sv_S)) => ∀ lo st σ, k lo st σ = some res → sv_T Γ pc lo st σ) ?_) _ _ _ _ _ ((e_Mo_reads _ _ _).trans h)
    clear h
    refine List.forall_mem_cons.mpr ⟨fun lo st σ h => ?_, fun _ h => absurd h List.not_mem_nil⟩
    · dsimp only at h
      split at h
      · exact w_Mo_reads_40 X _ _ _ _ _ _ _ _ h
      · cases h
  · cases h
theorem a_Mo_reads (as : List sv_V) (σ : sv_S) (x : Int32 × sv_S) (h : n_Mo_reads as σ = some x) : sv_args 7 ev_Mo_reads.2.2.2.1 as := by
  unfold n_Mo_reads at h
  split at h
  · exact ⟨Nat.le_of_ble_eq_true rfl, fun _ v hv => by
      simp only [List.mem_cons, List.not_mem_nil, or_false] at hv
      rcases hv with rfl | rfl | rfl <;> trivial⟩
  · cases h
theorem g_Mo_reads (as : List sv_V) (σ : sv_S) (x : Option sv_V × sv_S) (h : sv_gI n_Mo_reads as σ = some x) : ∃ r i as', as = sv_R r i :: as' ∧ sv_kd r i = .inl 12 := by
  obtain ⟨_, _, h, -⟩ := sv_b_some h
  unfold n_Mo_reads at h
  split at h
  · exact ⟨_, _, _, rfl, rfl⟩
  · cases h

set_option maxRecDepth 20000 in
theorem m_Mo_reads (l : Launch) : sv_M l yX12_reads cX12_reads 7 (some .int) (sv_gI n_Mo_reads) 5 := by
  refine sv_mI (E := ev_Mo_reads) (by decide +kernel) (ln_gen fk_12 kk_12 (sv_ns _ (fun _ => rfl) _)) ?_ a_Mo_reads b_Mo_reads
  intro p e R s m args below meth c cells slots Q base ad dC dI cA n0 S hkn hR hf pc n f h
  refine sv_lk_all (P := fun pc (x : Nat × sv_F) => sv_cok p l e R s m args below meth c cells slots Q base ad dC dI cA true 7 n0 pc x.1 x.2) ?_ pc (n, f) h
  exact List.forall_mem_cons.mpr ⟨(sv_cS S hkn (m_Mo_isSheet l) ⟨Nat.le_trans (by decide) hR.1, Nat.le_trans (by decide) hR.2⟩ (by decide) hf (sv_w4 tw_1409 tw_1410 tw_65 tw_1411) (by decide +kernel) (sv_dc3 d_Mo_reads (pc := 1) rfl rfl)).I,
      List.forall_mem_cons.mpr ⟨(sv_cV S hkn (m_Mo_isDrummer l) ⟨Nat.le_trans (by decide) hR.1, Nat.le_trans (by decide) hR.2⟩ (by decide) hf rfl g_Mo_isDrummer (sv_w5 tw_1116 tw_1118 tw_9 tw_65 tw_1119) (by decide +kernel) (sv_dc3 d_Mo_reads (pc := 9) rfl rfl)).I,
      List.forall_mem_cons.mpr ⟨(sv_cV S hkn (m_Mo_laysBy l) ⟨Nat.le_trans (by decide) hR.1, Nat.le_trans (by decide) hR.2⟩ (by decide) hf rfl g_Mo_laysBy (sv_w5 tw_1244 tw_1246 tw_26 tw_65 tw_1247) (by decide +kernel) (sv_dc3 d_Mo_reads (pc := 32) rfl rfl)).V,
      List.forall_mem_cons.mpr ⟨(sv_cV S hkn (m_Mo_of l) ⟨Nat.le_trans (by decide) hR.1, Nat.le_trans (by decide) hR.2⟩ (by decide) hf rfl g_Mo_of (sv_w5 tw_1120 tw_1122 tw_10 tw_65 tw_1123) (by decide +kernel) (sv_dc3 d_Mo_reads (pc := 81) rfl rfl)).I,
      List.forall_mem_cons.mpr ⟨(sv_cV S hkn (m_Mo_goesOn l) ⟨Nat.le_trans (by decide) hR.1, Nat.le_trans (by decide) hR.2⟩ (by decide) hf rfl g_Mo_goesOn (sv_w5 tw_1232 tw_1234 tw_25 tw_65 tw_1235) (by decide +kernel) (sv_dc3 d_Mo_reads (pc := 95) rfl rfl)).I,
      List.forall_mem_cons.mpr ⟨(sv_cV S hkn (m_Mo_laysBack l) ⟨Nat.le_trans (by decide) hR.1, Nat.le_trans (by decide) hR.2⟩ (by decide) hf rfl g_Mo_laysBack (sv_w5 tw_1248 tw_1250 tw_27 tw_65 tw_1251) (by decide +kernel) (sv_dc3 d_Mo_reads (pc := 107) rfl rfl)).V,
      List.forall_mem_cons.mpr ⟨(sv_cS S hkn (m_Mo_orNone l) ⟨Nat.le_trans (by decide) hR.1, Nat.le_trans (by decide) hR.2⟩ (by decide) hf (sv_w4 tw_1260 tw_1261 tw_65 tw_1262) (by decide +kernel) (sv_dc3 d_Mo_reads (pc := 111) rfl rfl)).I,
      fun _ h => absurd h List.not_mem_nil⟩⟩⟩⟩⟩⟩⟩
noncomputable def f_Mo_miscounted_202 (k58 : Int32 → Int32 → Int32 → Int32 → Int32 → Int32 → sv_S → Option (Int32 × sv_S)) (x1 : Int32) (x2 : Int32) (x3 : Int32) (x6 : Int32) (x7 : Int32) (σ : sv_S) : Option (Int32 × sv_S) :=
    k58 x1 x2 x3 x6 x7 (x6 + (1 : Int32)) σ
noncomputable def f_Mo_miscounted_178 (k58 : Int32 → Int32 → Int32 → Int32 → Int32 → Int32 → sv_S → Option (Int32 × sv_S)) (k116 : Int32 → Int32 → Int32 → Int32 → Int32 → Int32 → Int32 → Int32 → sv_S → Option (Int32 × sv_S)) (x1 : Int32) (x2 : Int32) (x3 : Int32) (x4 : Int32) (x5 : Int32) (x6 : Int32) (x8 : Int32) (y0 : Int32) (y1 : Int32) (y2 : Int32) (σ : sv_S) : Option (Int32 × sv_S) :=
    sv_b (f_Mo_off y1 y0 σ) (fun v1 σ2 =>
      k116 x1 x2 x3 x4 x5 x6 (y2 + v1) (x8 + (1 : Int32)) σ2)
noncomputable def f_Mo_miscounted_116 (k58 : Int32 → Int32 → Int32 → Int32 → Int32 → Int32 → sv_S → Option (Int32 × sv_S)) : Nat → Int32 → Int32 → Int32 → Int32 → Int32 → Int32 → Int32 → Int32 → sv_S → Option (Int32 × sv_S)
  | 0, _, _, _, _, _, _, _, _, _ => none
  | n + 1, x1, x2, x3, x4, x5, x6, x7, x8, σ =>
    sv_g (sv_in x1 4) (sv_if ((σ 31 5 (x1.toNatClampNeg)) ≤ x8)
      (sv_if (x4 < 0)
        (f_Mo_miscounted_202 k58 x1 x2 x3 x6 x7 σ)
        (sv_if (x5 ≤ x7)
          (k58 x1 x2 x3 x4 x5 (x6 + (1 : Int32)) σ)
          (f_Mo_miscounted_202 k58 x1 x2 x3 x6 x7 σ)))
      (sv_g (sv_in (((24 : Int32) * x1) + x8) 96) (sv_if ((σ 31 6 ((((24 : Int32) * x1) + x8).toNatClampNeg)) = (-1000000005 : Int32))
        (f_Mo_miscounted_116 k58 n x1 x2 x3 x4 x5 x6 (x7 + (0 : Int32)) (x8 + (1 : Int32)) σ)
        (sv_g (sv_in (0 : Int32) 3086) (sv_if ((σ 31 0 ((0 : Int32).toNatClampNeg)) ≤ x8)
          (f_Mo_miscounted_178 k58 (f_Mo_miscounted_116 k58 n) x1 x2 x3 x4 x5 x6 x8 (0 : Int32) (σ 31 6 ((((24 : Int32) * x1) + x8).toNatClampNeg)) x7 σ)
          (sv_g (sv_in x8 10) (f_Mo_miscounted_178 k58 (f_Mo_miscounted_116 k58 n) x1 x2 x3 x4 x5 x6 x8 (σ 31 14 (x8.toNatClampNeg)) (σ 31 6 ((((24 : Int32) * x1) + x8).toNatClampNeg)) x7 σ)))))))
noncomputable def f_Mo_miscounted_98 (k58 : Int32 → Int32 → Int32 → Int32 → Int32 → Int32 → sv_S → Option (Int32 × sv_S)) (x1 : Int32) (x2 : Int32) (x3 : Int32) (x4 : Int32) (x5 : Int32) (x6 : Int32) (y0 : Int32) (y1 : Int32) (y2 : Int32) (σ : sv_S) : Option (Int32 × sv_S) :=
    sv_b0 (f_Mo_sets y2 y1 y0 σ) (fun σ1 =>
      sv_b0 (f_Mo_layFirsts x2 σ1) (fun σ2 =>
        sv_b0 (f_Mo_laysBack σ2) (fun σ3 =>
          f_Mo_miscounted_116 k58 sv_fu x1 x2 x3 x4 x5 x6 (0 : Int32) (0 : Int32) σ3)))
noncomputable def f_Mo_miscounted_58 : Nat → Int32 → Int32 → Int32 → Int32 → Int32 → Int32 → sv_S → Option (Int32 × sv_S)
  | 0, _, _, _, _, _, _, _ => none
  | n + 1, x1, x2, x3, x4, x5, x6, σ =>
    sv_g (sv_in (0 : Int32) 3086) (sv_if ((σ 31 0 ((0 : Int32).toNatClampNeg)) ≤ x6)
      (sv_if (0 ≤ x4)
        (sv_if (x3 = 0)
          (some (x4, σ))
          (some (x5, σ)))
        (some ((-1000000005 : Int32), σ)))
      (sv_b (f_Mo_of x6 (1 : Int32) σ) (fun v1 σ2 =>
        sv_if (v1 = (9 : Int32))
          (f_Mo_miscounted_98 (f_Mo_miscounted_58 n) x1 x2 x3 x4 x5 x6 (1 : Int32) (1 : Int32) x6 σ2)
          (sv_b (f_Mo_of x6 (1 : Int32) σ2) (fun v3 σ4 =>
            f_Mo_miscounted_98 (f_Mo_miscounted_58 n) x1 x2 x3 x4 x5 x6 (v3 + (1 : Int32)) (1 : Int32) x6 σ4)))))
noncomputable def f_Mo_miscounted (a1 : Int32) (a2 : Int32) (a3 : Int32) (σ : sv_S) : Option (Int32 × sv_S) :=
  sv_b (f_Mo_isSheet a1 σ) (fun v1 σ2 =>
    sv_if (v1 = 0)
      (some ((-1000000001 : Int32), σ2))
      (sv_b (f_Mo_isIn (a2.toInt64) (1 : Int64) (60 : Int64) σ2) (fun v3 σ4 =>
        sv_if (v3 = 0)
          (some ((-1000000001 : Int32), σ4))
          (sv_b (f_Mo_isIn (a3.toInt64) (0 : Int64) (1 : Int64) σ4) (fun v5 σ6 =>
            sv_if (v5 = 0)
              (some ((-1000000001 : Int32), σ6))
              (sv_g (sv_in a1 4) (sv_if (0 ≤ (σ6 31 4 (a1.toNatClampNeg)))
                (sv_b0 (f_Mo_laysBy σ6) (fun σ7 =>
                  f_Mo_miscounted_58 sv_fu a1 a2 a3 (-1 : Int32) (0 : Int32) (0 : Int32) σ7))
                (some ((-1000000011 : Int32), σ6)))))))))
noncomputable def n_Mo_miscounted : List sv_V → sv_S → Option (Int32 × sv_S)
  | [.inr (.inr (some (30, 0))), .inl a1, .inl a2, .inl a3], σ => f_Mo_miscounted a1 a2 a3 σ
  | _, _ => none
def cd_Mo_miscounted : sv_C := [(0, (.iload_n 1, (sv_N, (1, (0, []))))), (1, (.invokestatic 297, (sv_N, (4, (0, []))))), (4, (.ifCond .eq 25, (sv_N, (7, (29, []))))), (7, (.iload_n 2, (sv_N, (8, (0, []))))), (8, (.i2l, (sv_N, (9, (0, []))))), (9, (.lconst 1, (.inr (.inl (1 : Int64)), (10, (0, []))))), (10, (.ldc2_w 185, (sv_N, (13, (0, []))))), (13, (.invokestatic 71, (sv_N, (16, (0, []))))), (16, (.ifCond .eq 13, (sv_N, (19, (29, []))))), (19, (.iload_n 3, (sv_N, (20, (0, []))))), (20, (.i2l, (sv_N, (21, (0, []))))), (21, (.lconst 0, (.inr (.inl (0 : Int64)), (22, (0, []))))), (22, (.lconst 1, (.inr (.inl (1 : Int64)), (23, (0, []))))), (23, (.invokestatic 71, (sv_N, (26, (0, []))))), (26, (.ifCond .ne 6, (sv_N, (29, (32, []))))), (29, (.ldc 84, (sv_N, (31, (0, []))))), (31, (.ireturn, (sv_N, (32, (0, []))))), (32, (.aload_n 0, (sv_N, (33, (0, []))))), (33, (.getfield 19, (sv_N, (36, (0, []))))), (36, (.iload_n 1, (sv_N, (37, (0, []))))), (37, (.iaload, (sv_N, (38, (0, []))))), (38, (.ifCond .ge 7, (sv_N, (41, (45, []))))), (41, (.ldc_w 303, (sv_N, (44, (0, []))))), (44, (.ireturn, (sv_N, (45, (0, []))))), (45, (.aload_n 0, (sv_N, (46, (0, []))))), (46, (.invokevirtual 162, (sv_N, (49, (0, []))))), (49, (.iconst (-1), (.inl (-1 : Int32), (50, (0, []))))), (50, (.istore 4, (sv_N, (52, (0, []))))), (52, (.iconst 0, (.inl (0 : Int32), (53, (0, []))))), (53, (.istore 5, (sv_N, (55, (0, []))))), (55, (.iconst 0, (.inl (0 : Int32), (56, (0, []))))), (56, (.istore 6, (sv_N, (58, (0, []))))), (58, (.iload 6, (sv_N, (60, (0, []))))), (60, (.aload_n 0, (sv_N, (61, (0, []))))), (61, (.getfield 7, (sv_N, (64, (0, []))))), (64, (.iconst 0, (.inl (0 : Int32), (65, (0, []))))), (65, (.iaload, (sv_N, (66, (0, []))))), (66, (.if_icmp .ge 150, (sv_N, (69, (216, []))))), (69, (.aload_n 0, (sv_N, (70, (0, []))))), (70, (.iload 6, (sv_N, (72, (0, []))))), (72, (.iconst 1, (.inl (1 : Int32), (73, (0, []))))), (73, (.aload_n 0, (sv_N, (74, (0, []))))), (74, (.iload 6, (sv_N, (76, (0, []))))), (76, (.iconst 1, (.inl (1 : Int32), (77, (0, []))))), (77, (.invokevirtual 90, (sv_N, (80, (0, []))))), (80, (.bipush 9, (.inl (9 : Int32), (82, (0, []))))), (82, (.if_icmp .ne 7, (sv_N, (85, (89, []))))), (85, (.iconst 1, (.inl (1 : Int32), (86, (0, []))))), (86, (.goto 12, (sv_N, (89, (98, []))))), (89, (.aload_n 0, (sv_N, (90, (0, []))))), (90, (.iload 6, (sv_N, (92, (0, []))))), (92, (.iconst 1, (.inl (1 : Int32), (93, (0, []))))), (93, (.invokevirtual 90, (sv_N, (96, (0, []))))), (96, (.iconst 1, (.inl (1 : Int32), (97, (0, []))))), (97, (.iadd, (sv_N, (98, (0, []))))), (98, (.invokevirtual 76, (sv_N, (101, (0, []))))), (101, (.aload_n 0, (sv_N, (102, (0, []))))), (102, (.iload_n 2, (sv_N, (103, (0, []))))), (103, (.invokevirtual 178, (sv_N, (106, (0, []))))), (106, (.aload_n 0, (sv_N, (107, (0, []))))), (107, (.invokevirtual 165, (sv_N, (110, (0, []))))), (110, (.iconst 0, (.inl (0 : Int32), (111, (0, []))))), (111, (.istore 7, (sv_N, (113, (0, []))))), (113, (.iconst 0, (.inl (0 : Int32), (114, (0, []))))), (114, (.istore 8, (sv_N, (116, (0, []))))), (116, (.iload 8, (sv_N, (118, (0, []))))), (118, (.aload_n 0, (sv_N, (119, (0, []))))), (119, (.getfield 22, (sv_N, (122, (0, []))))), (122, (.iload_n 1, (sv_N, (123, (0, []))))), (123, (.iaload, (sv_N, (124, (0, []))))), (124, (.if_icmp .ge 66, (sv_N, (127, (190, []))))), (127, (.aload_n 0, (sv_N, (128, (0, []))))), (128, (.getfield 25, (sv_N, (131, (0, []))))), (131, (.bipush 24, (.inl (24 : Int32), (133, (0, []))))), (133, (.iload_n 1, (sv_N, (134, (0, []))))), (134, (.imul, (sv_N, (135, (0, []))))), (135, (.iload 8, (sv_N, (137, (0, []))))), (137, (.iadd, (sv_N, (138, (0, []))))), (138, (.iaload, (sv_N, (139, (0, []))))), (139, (.istore 9, (sv_N, (141, (0, []))))), (141, (.iload 7, (sv_N, (143, (0, []))))), (143, (.iload 9, (sv_N, (145, (0, []))))), (145, (.ldc 70, (sv_N, (147, (0, []))))), (147, (.if_icmp .ne 7, (sv_N, (150, (154, []))))), (150, (.iconst 0, (.inl (0 : Int32), (151, (0, []))))), (151, (.goto 30, (sv_N, (154, (181, []))))), (154, (.iload 9, (sv_N, (156, (0, []))))), (156, (.iload 8, (sv_N, (158, (0, []))))), (158, (.aload_n 0, (sv_N, (159, (0, []))))), (159, (.getfield 7, (sv_N, (162, (0, []))))), (162, (.iconst 0, (.inl (0 : Int32), (163, (0, []))))), (163, (.iaload, (sv_N, (164, (0, []))))), (164, (.if_icmp .ge 13, (sv_N, (167, (177, []))))), (167, (.aload_n 0, (sv_N, (168, (0, []))))), (168, (.getfield 49, (sv_N, (171, (0, []))))), (171, (.iload 8, (sv_N, (173, (0, []))))), (173, (.iaload, (sv_N, (174, (0, []))))), (174, (.goto 4, (sv_N, (177, (178, []))))), (177, (.iconst 0, (.inl (0 : Int32), (178, (0, []))))), (178, (.invokestatic 309, (sv_N, (181, (0, []))))), (181, (.iadd, (sv_N, (182, (0, []))))), (182, (.istore 7, (sv_N, (184, (0, []))))), (184, (.iinc 8 1, (.inl (1 : Int32), (187, (0, []))))), (187, (.goto (-71), (sv_N, (190, (116, []))))), (190, (.iload 4, (sv_N, (192, (0, []))))), (192, (.ifCond .lt 10, (sv_N, (195, (202, []))))), (195, (.iload 7, (sv_N, (197, (0, []))))), (197, (.iload 5, (sv_N, (199, (0, []))))), (199, (.if_icmp .ge 11, (sv_N, (202, (210, []))))), (202, (.iload 6, (sv_N, (204, (0, []))))), (204, (.istore 4, (sv_N, (206, (0, []))))), (206, (.iload 7, (sv_N, (208, (0, []))))), (208, (.istore 5, (sv_N, (210, (0, []))))), (210, (.iinc 6 1, (.inl (1 : Int32), (213, (0, []))))), (213, (.goto (-155), (sv_N, (216, (58, []))))), (216, (.iload 4, (sv_N, (218, (0, []))))), (218, (.ifCond .ge 8, (sv_N, (221, (226, []))))), (221, (.ldc 70, (sv_N, (223, (0, []))))), (223, (.goto 14, (sv_N, (226, (237, []))))), (226, (.iload_n 3, (sv_N, (227, (0, []))))), (227, (.ifCond .ne 8, (sv_N, (230, (235, []))))), (230, (.iload 4, (sv_N, (232, (0, []))))), (232, (.goto 5, (sv_N, (235, (237, []))))), (235, (.iload 5, (sv_N, (237, (0, []))))), (237, (.ireturn, (sv_N, (238, (0, [])))))]
noncomputable def ev_Mo_miscounted : sv_E := (fun i => sv_lk i fl_12, (fun i => sv_lk i kc_12, (fun _ => false, (true, fun pc => sv_lk pc [(1, (1, .inl n_Mo_isSheet)), (13, (3, .inl n_Mo_isIn)), (23, (3, .inl n_Mo_isIn)), (46, (1, .inr (.inl n_Mo_laysBy))), (77, (3, .inl n_Mo_of)), (93, (3, .inl n_Mo_of)), (98, (4, .inr (.inl n_Mo_sets))), (103, (2, .inr (.inl n_Mo_layFirsts))), (107, (1, .inr (.inl n_Mo_laysBack))), (178, (2, .inl n_Mo_off))]))))
noncomputable def kk_Mo_miscounted_202 (k58 : Int32 → Int32 → Int32 → Int32 → Int32 → Int32 → sv_S → Option (Int32 × sv_S)) : sv_K (Int32 × sv_S) := fun pc => sv_lk pc [(58, fun lo st σ => match lo, st with
    | [some (.inr (.inr (some (30, 0)))), some (.inl x1), some (.inl x2), some (.inl x3), some (.inl x4), some (.inl x5), some (.inl x6), _, _, _], [] => k58 x1 x2 x3 x4 x5 x6 σ
    | _, _ => none)]
set_option maxRecDepth 20000 in
theorem e_Mo_miscounted_202 (k58 : Int32 → Int32 → Int32 → Int32 → Int32 → Int32 → sv_S → Option (Int32 × sv_S)) (x1 : Int32) (x2 : Int32) (x3 : Int32) (x6 : Int32) (x7 : Int32) (z4 z5 z8 z9 : Option sv_V) (σ : sv_S) : sv_ex ev_Mo_miscounted sv_rI (kk_Mo_miscounted_202 k58) cd_Mo_miscounted 127 202 [some (.inr (.inr (some (30, 0)))), some (.inl x1), some (.inl x2), some (.inl x3), z4, z5, some (.inl x6), some (.inl x7), z8, z9] [] σ = f_Mo_miscounted_202 k58 x1 x2 x3 x6 x7 σ := by
  unfold f_Mo_miscounted_202
  delta ev_Mo_miscounted kk_Mo_miscounted_202 n_Mo_isSheet n_Mo_isIn n_Mo_laysBy n_Mo_of n_Mo_sets n_Mo_layFirsts n_Mo_laysBack n_Mo_off
  generalize f_Mo_isSheet = c0
  generalize f_Mo_isIn = c1
  generalize f_Mo_laysBy = c2
  generalize f_Mo_of = c3
  generalize f_Mo_sets = c4
  generalize f_Mo_layFirsts = c5
  generalize f_Mo_laysBack = c6
  generalize f_Mo_off = c7
  generalize f_Mo_miscounted_58 = c8
  rfl
noncomputable def kk_Mo_miscounted_178 (k58 : Int32 → Int32 → Int32 → Int32 → Int32 → Int32 → sv_S → Option (Int32 × sv_S)) (k116 : Int32 → Int32 → Int32 → Int32 → Int32 → Int32 → Int32 → Int32 → sv_S → Option (Int32 × sv_S)) : sv_K (Int32 × sv_S) := fun pc => sv_lk pc [(116, fun lo st σ => match lo, st with
    | [some (.inr (.inr (some (30, 0)))), some (.inl x1), some (.inl x2), some (.inl x3), some (.inl x4), some (.inl x5), some (.inl x6), some (.inl x7), some (.inl x8), _], [] => k116 x1 x2 x3 x4 x5 x6 x7 x8 σ
    | _, _ => none)]
set_option maxRecDepth 20000 in
theorem e_Mo_miscounted_178 (k58 : Int32 → Int32 → Int32 → Int32 → Int32 → Int32 → sv_S → Option (Int32 × sv_S)) (k116 : Int32 → Int32 → Int32 → Int32 → Int32 → Int32 → Int32 → Int32 → sv_S → Option (Int32 × sv_S)) (x1 : Int32) (x2 : Int32) (x3 : Int32) (x4 : Int32) (x5 : Int32) (x6 : Int32) (x8 : Int32) (y0 : Int32) (y1 : Int32) (y2 : Int32) (z7 z9 : Option sv_V) (σ : sv_S) : sv_ex ev_Mo_miscounted sv_rI (kk_Mo_miscounted_178 k58 k116) cd_Mo_miscounted 127 178 [some (.inr (.inr (some (30, 0)))), some (.inl x1), some (.inl x2), some (.inl x3), some (.inl x4), some (.inl x5), some (.inl x6), z7, some (.inl x8), z9] [.inl y0, .inl y1, .inl y2] σ = f_Mo_miscounted_178 k58 k116 x1 x2 x3 x4 x5 x6 x8 y0 y1 y2 σ := by
  unfold f_Mo_miscounted_178
  delta ev_Mo_miscounted kk_Mo_miscounted_178 n_Mo_isSheet n_Mo_isIn n_Mo_laysBy n_Mo_of n_Mo_sets n_Mo_layFirsts n_Mo_laysBack n_Mo_off
  generalize f_Mo_isSheet = c0
  generalize f_Mo_isIn = c1
  generalize f_Mo_laysBy = c2
  generalize f_Mo_of = c3
  generalize f_Mo_sets = c4
  generalize f_Mo_layFirsts = c5
  generalize f_Mo_laysBack = c6
  generalize f_Mo_off = c7
  generalize f_Mo_miscounted_116 = c8
  rfl
noncomputable def kk_Mo_miscounted_116 (k58 : Int32 → Int32 → Int32 → Int32 → Int32 → Int32 → sv_S → Option (Int32 × sv_S)) (n : Nat) : sv_K (Int32 × sv_S) := fun pc => sv_lk pc [(58, fun lo st σ => match lo, st with
    | [some (.inr (.inr (some (30, 0)))), some (.inl x1), some (.inl x2), some (.inl x3), some (.inl x4), some (.inl x5), some (.inl x6), _, _, _], [] => k58 x1 x2 x3 x4 x5 x6 σ
    | _, _ => none),
  (116, fun lo st σ => match lo, st with
    | [some (.inr (.inr (some (30, 0)))), some (.inl x1), some (.inl x2), some (.inl x3), some (.inl x4), some (.inl x5), some (.inl x6), some (.inl x7), some (.inl x8), _], [] => f_Mo_miscounted_116 k58 n x1 x2 x3 x4 x5 x6 x7 x8 σ
    | _, _ => none),
  (178, fun lo st σ => match lo, st with
    | [some (.inr (.inr (some (30, 0)))), some (.inl x1), some (.inl x2), some (.inl x3), some (.inl x4), some (.inl x5), some (.inl x6), _, some (.inl x8), _], [.inl y0, .inl y1, .inl y2] => f_Mo_miscounted_178 k58 (f_Mo_miscounted_116 k58 n) x1 x2 x3 x4 x5 x6 x8 y0 y1 y2 σ
    | _, _ => none),
  (202, fun lo st σ => match lo, st with
    | [some (.inr (.inr (some (30, 0)))), some (.inl x1), some (.inl x2), some (.inl x3), _, _, some (.inl x6), some (.inl x7), _, _], [] => f_Mo_miscounted_202 k58 x1 x2 x3 x6 x7 σ
    | _, _ => none)]
set_option maxRecDepth 20000 in
theorem e_Mo_miscounted_116 (k58 : Int32 → Int32 → Int32 → Int32 → Int32 → Int32 → sv_S → Option (Int32 × sv_S)) (n : Nat) (x1 : Int32) (x2 : Int32) (x3 : Int32) (x4 : Int32) (x5 : Int32) (x6 : Int32) (x7 : Int32) (x8 : Int32) (z9 : Option sv_V) (σ : sv_S) : sv_ex ev_Mo_miscounted sv_rI (kk_Mo_miscounted_116 k58 n) cd_Mo_miscounted 127 116 [some (.inr (.inr (some (30, 0)))), some (.inl x1), some (.inl x2), some (.inl x3), some (.inl x4), some (.inl x5), some (.inl x6), some (.inl x7), some (.inl x8), z9] [] σ = f_Mo_miscounted_116 k58 (n + 1) x1 x2 x3 x4 x5 x6 x7 x8 σ := by
  rw [f_Mo_miscounted_116.eq_2]
  delta ev_Mo_miscounted kk_Mo_miscounted_116 n_Mo_isSheet n_Mo_isIn n_Mo_laysBy n_Mo_of n_Mo_sets n_Mo_layFirsts n_Mo_laysBack n_Mo_off
  generalize f_Mo_isSheet = c0
  generalize f_Mo_isIn = c1
  generalize f_Mo_laysBy = c2
  generalize f_Mo_of = c3
  generalize f_Mo_sets = c4
  generalize f_Mo_layFirsts = c5
  generalize f_Mo_laysBack = c6
  generalize f_Mo_off = c7
  generalize f_Mo_miscounted_58 = c8
  generalize f_Mo_miscounted_116 = c9
  generalize f_Mo_miscounted_178 = c10
  generalize f_Mo_miscounted_202 = c11
  rfl
noncomputable def kk_Mo_miscounted_98 (k58 : Int32 → Int32 → Int32 → Int32 → Int32 → Int32 → sv_S → Option (Int32 × sv_S)) : sv_K (Int32 × sv_S) := fun pc => sv_lk pc [(116, fun lo st σ => match lo, st with
    | [some (.inr (.inr (some (30, 0)))), some (.inl x1), some (.inl x2), some (.inl x3), some (.inl x4), some (.inl x5), some (.inl x6), some (.inl x7), some (.inl x8), _], [] => f_Mo_miscounted_116 k58 sv_fu x1 x2 x3 x4 x5 x6 x7 x8 σ
    | _, _ => none)]
set_option maxRecDepth 20000 in
theorem e_Mo_miscounted_98 (k58 : Int32 → Int32 → Int32 → Int32 → Int32 → Int32 → sv_S → Option (Int32 × sv_S)) (x1 : Int32) (x2 : Int32) (x3 : Int32) (x4 : Int32) (x5 : Int32) (x6 : Int32) (y0 : Int32) (y1 : Int32) (y2 : Int32) (z7 z8 z9 : Option sv_V) (σ : sv_S) : sv_ex ev_Mo_miscounted sv_rI (kk_Mo_miscounted_98 k58) cd_Mo_miscounted 127 98 [some (.inr (.inr (some (30, 0)))), some (.inl x1), some (.inl x2), some (.inl x3), some (.inl x4), some (.inl x5), some (.inl x6), z7, z8, z9] [.inl y0, .inl y1, .inl y2, .inr (.inr (some (30, 0)))] σ = f_Mo_miscounted_98 k58 x1 x2 x3 x4 x5 x6 y0 y1 y2 σ := by
  unfold f_Mo_miscounted_98
  delta ev_Mo_miscounted kk_Mo_miscounted_98 n_Mo_isSheet n_Mo_isIn n_Mo_laysBy n_Mo_of n_Mo_sets n_Mo_layFirsts n_Mo_laysBack n_Mo_off
  generalize f_Mo_isSheet = c0
  generalize f_Mo_isIn = c1
  generalize f_Mo_laysBy = c2
  generalize f_Mo_of = c3
  generalize f_Mo_sets = c4
  generalize f_Mo_layFirsts = c5
  generalize f_Mo_laysBack = c6
  generalize f_Mo_off = c7
  generalize f_Mo_miscounted_116 = c8
  rfl
noncomputable def kk_Mo_miscounted_58 (n : Nat) : sv_K (Int32 × sv_S) := fun pc => sv_lk pc [(98, fun lo st σ => match lo, st with
    | [some (.inr (.inr (some (30, 0)))), some (.inl x1), some (.inl x2), some (.inl x3), some (.inl x4), some (.inl x5), some (.inl x6), _, _, _], [.inl y0, .inl y1, .inl y2, .inr (.inr (some (30, 0)))] => f_Mo_miscounted_98 (f_Mo_miscounted_58 n) x1 x2 x3 x4 x5 x6 y0 y1 y2 σ
    | _, _ => none)]
set_option maxRecDepth 20000 in
theorem e_Mo_miscounted_58 (n : Nat) (x1 : Int32) (x2 : Int32) (x3 : Int32) (x4 : Int32) (x5 : Int32) (x6 : Int32) (z7 z8 z9 : Option sv_V) (σ : sv_S) : sv_ex ev_Mo_miscounted sv_rI (kk_Mo_miscounted_58 n) cd_Mo_miscounted 127 58 [some (.inr (.inr (some (30, 0)))), some (.inl x1), some (.inl x2), some (.inl x3), some (.inl x4), some (.inl x5), some (.inl x6), z7, z8, z9] [] σ = f_Mo_miscounted_58 (n + 1) x1 x2 x3 x4 x5 x6 σ := by
  rw [f_Mo_miscounted_58.eq_2]
  delta ev_Mo_miscounted kk_Mo_miscounted_58 n_Mo_isSheet n_Mo_isIn n_Mo_laysBy n_Mo_of n_Mo_sets n_Mo_layFirsts n_Mo_laysBack n_Mo_off
  generalize f_Mo_isSheet = c0
  generalize f_Mo_isIn = c1
  generalize f_Mo_laysBy = c2
  generalize f_Mo_of = c3
  generalize f_Mo_sets = c4
  generalize f_Mo_layFirsts = c5
  generalize f_Mo_laysBack = c6
  generalize f_Mo_off = c7
  generalize f_Mo_miscounted_98 = c8
  generalize f_Mo_miscounted_58 = c9
  rfl
noncomputable def kk_Mo_miscounted : sv_K (Int32 × sv_S) := fun pc => sv_lk pc [(58, fun lo st σ => match lo, st with
    | [some (.inr (.inr (some (30, 0)))), some (.inl x1), some (.inl x2), some (.inl x3), some (.inl x4), some (.inl x5), some (.inl x6), _, _, _], [] => f_Mo_miscounted_58 sv_fu x1 x2 x3 x4 x5 x6 σ
    | _, _ => none)]
set_option maxRecDepth 20000 in
theorem e_Mo_miscounted (a1 : Int32) (a2 : Int32) (a3 : Int32) (σ : sv_S) : sv_ex ev_Mo_miscounted sv_rI kk_Mo_miscounted cd_Mo_miscounted 127 0 [some (.inr (.inr (some (30, 0)))), some (.inl a1), some (.inl a2), some (.inl a3), none, none, none, none, none, none] [] σ = f_Mo_miscounted a1 a2 a3 σ := by
  unfold f_Mo_miscounted
  delta ev_Mo_miscounted kk_Mo_miscounted n_Mo_isSheet n_Mo_isIn n_Mo_laysBy n_Mo_of n_Mo_sets n_Mo_layFirsts n_Mo_laysBack n_Mo_off
  generalize f_Mo_isSheet = c0
  generalize f_Mo_isIn = c1
  generalize f_Mo_laysBy = c2
  generalize f_Mo_of = c3
  generalize f_Mo_sets = c4
  generalize f_Mo_layFirsts = c5
  generalize f_Mo_laysBack = c6
  generalize f_Mo_off = c7
  generalize f_Mo_miscounted_58 = c8
  rfl
theorem d_Mo_miscounted : cd_Mo_miscounted.all (sv_dk cX12_miscounted) = true := by decide +kernel
set_option maxRecDepth 20000 in
theorem w_Mo_miscounted_202 {Γ : sv_Ga} {res : Int32 × sv_S} (X : sv_Ok Γ ev_Mo_miscounted cX12_miscounted sv_rI res) (k58 : Int32 → Int32 → Int32 → Int32 → Int32 → Int32 → sv_S → Option (Int32 × sv_S)) (h58 : ∀ (x1 : Int32) (x2 : Int32) (x3 : Int32) (x4 : Int32) (x5 : Int32) (x6 : Int32) (z7 z8 z9 : Option sv_V) (σ : sv_S), k58 x1 x2 x3 x4 x5 x6 σ = some res → sv_T Γ 58 [some (.inr (.inr (some (30, 0)))), some (.inl x1), some (.inl x2), some (.inl x3), some (.inl x4), some (.inl x5), some (.inl x6), z7, z8, z9] [] σ) : ∀ (x1 : Int32) (x2 : Int32) (x3 : Int32) (x6 : Int32) (x7 : Int32) (z4 z5 z8 z9 : Option sv_V) (σ : sv_S), f_Mo_miscounted_202 k58 x1 x2 x3 x6 x7 σ = some res → sv_T Γ 202 [some (.inr (.inr (some (30, 0)))), some (.inl x1), some (.inl x2), some (.inl x3), z4, z5, some (.inl x6), some (.inl x7), z8, z9] [] σ := by
  intro x1 x2 x3 x6 x7 z4 z5 z8 z9 σ h
  refine sv_run X d_Mo_miscounted (K := kk_Mo_miscounted_202 k58) (sv_lk_all (P := fun pc (k : sv_Lo → List sv_V → sv_S → Option (Int32 × sv_S)) => ∀ lo st σ, k lo st σ = some res → sv_T Γ pc lo st σ) ?_) _ _ _ _ _ ((e_Mo_miscounted_202 k58 x1 x2 x3 x6 x7 z4 z5 z8 z9 σ).trans h)
  clear h
  refine List.forall_mem_cons.mpr ⟨fun lo st σ h => ?_, fun _ h => absurd h List.not_mem_nil⟩
  · dsimp only at h
    split at h
    · exact h58 _ _ _ _ _ _ _ _ _ _ h
    · cases h

set_option maxRecDepth 20000 in
theorem w_Mo_miscounted_178 {Γ : sv_Ga} {res : Int32 × sv_S} (X : sv_Ok Γ ev_Mo_miscounted cX12_miscounted sv_rI res) (k58 : Int32 → Int32 → Int32 → Int32 → Int32 → Int32 → sv_S → Option (Int32 × sv_S)) (h58 : ∀ (x1 : Int32) (x2 : Int32) (x3 : Int32) (x4 : Int32) (x5 : Int32) (x6 : Int32) (z7 z8 z9 : Option sv_V) (σ : sv_S), k58 x1 x2 x3 x4 x5 x6 σ = some res → sv_T Γ 58 [some (.inr (.inr (some (30, 0)))), some (.inl x1), some (.inl x2), some (.inl x3), some (.inl x4), some (.inl x5), some (.inl x6), z7, z8, z9] [] σ) (k116 : Int32 → Int32 → Int32 → Int32 → Int32 → Int32 → Int32 → Int32 → sv_S → Option (Int32 × sv_S)) (h116 : ∀ (x1 : Int32) (x2 : Int32) (x3 : Int32) (x4 : Int32) (x5 : Int32) (x6 : Int32) (x7 : Int32) (x8 : Int32) (z9 : Option sv_V) (σ : sv_S), k116 x1 x2 x3 x4 x5 x6 x7 x8 σ = some res → sv_T Γ 116 [some (.inr (.inr (some (30, 0)))), some (.inl x1), some (.inl x2), some (.inl x3), some (.inl x4), some (.inl x5), some (.inl x6), some (.inl x7), some (.inl x8), z9] [] σ) : ∀ (x1 : Int32) (x2 : Int32) (x3 : Int32) (x4 : Int32) (x5 : Int32) (x6 : Int32) (x8 : Int32) (y0 : Int32) (y1 : Int32) (y2 : Int32) (z7 z9 : Option sv_V) (σ : sv_S), f_Mo_miscounted_178 k58 k116 x1 x2 x3 x4 x5 x6 x8 y0 y1 y2 σ = some res → sv_T Γ 178 [some (.inr (.inr (some (30, 0)))), some (.inl x1), some (.inl x2), some (.inl x3), some (.inl x4), some (.inl x5), some (.inl x6), z7, some (.inl x8), z9] [.inl y0, .inl y1, .inl y2] σ := by
  intro x1 x2 x3 x4 x5 x6 x8 y0 y1 y2 z7 z9 σ h
  refine sv_run X d_Mo_miscounted (K := kk_Mo_miscounted_178 k58 k116) (sv_lk_all (P := fun pc (k : sv_Lo → List sv_V → sv_S → Option (Int32 × sv_S)) => ∀ lo st σ, k lo st σ = some res → sv_T Γ pc lo st σ) ?_) _ _ _ _ _ ((e_Mo_miscounted_178 k58 k116 x1 x2 x3 x4 x5 x6 x8 y0 y1 y2 z7 z9 σ).trans h)
  clear h
  refine List.forall_mem_cons.mpr ⟨fun lo st σ h => ?_, fun _ h => absurd h List.not_mem_nil⟩
  · dsimp only at h
    split at h
    · exact h116 _ _ _ _ _ _ _ _ _ _ h
    · cases h

set_option maxRecDepth 20000 in
theorem w_Mo_miscounted_116 {Γ : sv_Ga} {res : Int32 × sv_S} (X : sv_Ok Γ ev_Mo_miscounted cX12_miscounted sv_rI res) (k58 : Int32 → Int32 → Int32 → Int32 → Int32 → Int32 → sv_S → Option (Int32 × sv_S)) (h58 : ∀ (x1 : Int32) (x2 : Int32) (x3 : Int32) (x4 : Int32) (x5 : Int32) (x6 : Int32) (z7 z8 z9 : Option sv_V) (σ : sv_S), k58 x1 x2 x3 x4 x5 x6 σ = some res → sv_T Γ 58 [some (.inr (.inr (some (30, 0)))), some (.inl x1), some (.inl x2), some (.inl x3), some (.inl x4), some (.inl x5), some (.inl x6), z7, z8, z9] [] σ) : ∀ (n : Nat) (x1 : Int32) (x2 : Int32) (x3 : Int32) (x4 : Int32) (x5 : Int32) (x6 : Int32) (x7 : Int32) (x8 : Int32) (z9 : Option sv_V) (σ : sv_S), f_Mo_miscounted_116 k58 n x1 x2 x3 x4 x5 x6 x7 x8 σ = some res → sv_T Γ 116 [some (.inr (.inr (some (30, 0)))), some (.inl x1), some (.inl x2), some (.inl x3), some (.inl x4), some (.inl x5), some (.inl x6), some (.inl x7), some (.inl x8), z9] [] σ := by
  intro n
  induction n with
  | zero =>
    intro x1 x2 x3 x4 x5 x6 x7 x8 z9 σ h
    rw [f_Mo_miscounted_116.eq_1] at h
    cases h
  | succ n ih =>
    intro x1 x2 x3 x4 x5 x6 x7 x8 z9 σ h
    refine sv_run X d_Mo_miscounted (K := kk_Mo_miscounted_116 k58 n) (sv_lk_all (P := fun pc (k : sv_Lo → List sv_V → sv_S → Option (Int32 × sv_S)) => ∀ lo st σ, k lo st σ = some res → sv_T Γ pc lo st σ) ?_) _ _ _ _ _ ((e_Mo_miscounted_116 k58 n x1 x2 x3 x4 x5 x6 x7 x8 z9 σ).trans h)
    clear h
    refine List.forall_mem_cons.mpr ⟨fun lo st σ h => ?_, List.forall_mem_cons.mpr ⟨fun lo st σ h => ?_, List.forall_mem_cons.mpr ⟨fun lo st σ h => ?_, List.forall_mem_cons.mpr ⟨fun lo st σ h => ?_, fun _ h => absurd h List.not_mem_nil⟩⟩⟩⟩
    · dsimp only at h
      split at h
      · exact h58 _ _ _ _ _ _ _ _ _ _ h
      · cases h
    · dsimp only at h
      split at h
      · exact ih _ _ _ _ _ _ _ _ _ _ h
      · cases h
    · dsimp only at h
      split at h
      · exact w_Mo_miscounted_178 X _ h58 _ ih _ _ _ _ _ _ _ _ _ _ _ _ _ h
      · cases h
    · dsimp only at h
      split at h
      · exact w_Mo_miscounted_202 X _ h58 _ _ _ _ _ _ _ _ _ _ h
      · cases h

set_option maxRecDepth 20000 in
theorem w_Mo_miscounted_98 {Γ : sv_Ga} {res : Int32 × sv_S} (X : sv_Ok Γ ev_Mo_miscounted cX12_miscounted sv_rI res) (k58 : Int32 → Int32 → Int32 → Int32 → Int32 → Int32 → sv_S → Option (Int32 × sv_S)) (h58 : ∀ (x1 : Int32) (x2 : Int32) (x3 : Int32) (x4 : Int32) (x5 : Int32) (x6 : Int32) (z7 z8 z9 : Option sv_V) (σ : sv_S), k58 x1 x2 x3 x4 x5 x6 σ = some res → sv_T Γ 58 [some (.inr (.inr (some (30, 0)))), some (.inl x1), some (.inl x2), some (.inl x3), some (.inl x4), some (.inl x5), some (.inl x6), z7, z8, z9] [] σ) : ∀ (x1 : Int32) (x2 : Int32) (x3 : Int32) (x4 : Int32) (x5 : Int32) (x6 : Int32) (y0 : Int32) (y1 : Int32) (y2 : Int32) (z7 z8 z9 : Option sv_V) (σ : sv_S), f_Mo_miscounted_98 k58 x1 x2 x3 x4 x5 x6 y0 y1 y2 σ = some res → sv_T Γ 98 [some (.inr (.inr (some (30, 0)))), some (.inl x1), some (.inl x2), some (.inl x3), some (.inl x4), some (.inl x5), some (.inl x6), z7, z8, z9] [.inl y0, .inl y1, .inl y2, .inr (.inr (some (30, 0)))] σ := by
  intro x1 x2 x3 x4 x5 x6 y0 y1 y2 z7 z8 z9 σ h
  refine sv_run X d_Mo_miscounted (K := kk_Mo_miscounted_98 k58) (sv_lk_all (P := fun pc (k : sv_Lo → List sv_V → sv_S → Option (Int32 × sv_S)) => ∀ lo st σ, k lo st σ = some res → sv_T Γ pc lo st σ) ?_) _ _ _ _ _ ((e_Mo_miscounted_98 k58 x1 x2 x3 x4 x5 x6 y0 y1 y2 z7 z8 z9 σ).trans h)
  clear h
  refine List.forall_mem_cons.mpr ⟨fun lo st σ h => ?_, fun _ h => absurd h List.not_mem_nil⟩
  · dsimp only at h
    split at h
    · exact w_Mo_miscounted_116 X _ h58 _ _ _ _ _ _ _ _ _ _ _ h
    · cases h

set_option maxRecDepth 20000 in
theorem w_Mo_miscounted_58 {Γ : sv_Ga} {res : Int32 × sv_S} (X : sv_Ok Γ ev_Mo_miscounted cX12_miscounted sv_rI res) : ∀ (n : Nat) (x1 : Int32) (x2 : Int32) (x3 : Int32) (x4 : Int32) (x5 : Int32) (x6 : Int32) (z7 z8 z9 : Option sv_V) (σ : sv_S), f_Mo_miscounted_58 n x1 x2 x3 x4 x5 x6 σ = some res → sv_T Γ 58 [some (.inr (.inr (some (30, 0)))), some (.inl x1), some (.inl x2), some (.inl x3), some (.inl x4), some (.inl x5), some (.inl x6), z7, z8, z9] [] σ := by
  intro n
  induction n with
  | zero =>
    intro x1 x2 x3 x4 x5 x6 z7 z8 z9 σ h
    rw [f_Mo_miscounted_58.eq_1] at h
    cases h
  | succ n ih =>
    intro x1 x2 x3 x4 x5 x6 z7 z8 z9 σ h
    refine sv_run X d_Mo_miscounted (K := kk_Mo_miscounted_58 n) (sv_lk_all (P := fun pc (k : sv_Lo → List sv_V → sv_S → Option (Int32 × sv_S)) => ∀ lo st σ, k lo st σ = some res → sv_T Γ pc lo st σ) ?_) _ _ _ _ _ ((e_Mo_miscounted_58 n x1 x2 x3 x4 x5 x6 z7 z8 z9 σ).trans h)
    clear h
    refine List.forall_mem_cons.mpr ⟨fun lo st σ h => ?_, fun _ h => absurd h List.not_mem_nil⟩
    · dsimp only at h
      split at h
      · exact w_Mo_miscounted_98 X _ ih _ _ _ _ _ _ _ _ _ _ _ _ _ h
      · cases h

set_option maxRecDepth 20000 in
theorem b_Mo_miscounted (Γ : sv_Ga) (res : Int32 × sv_S) (X : sv_Ok Γ ev_Mo_miscounted cX12_miscounted sv_rI res) (as : List sv_V) (σ : sv_S) (h : n_Mo_miscounted as σ = some res) : sv_T Γ 0 (sv_e0 10 as) [] σ := by
  unfold n_Mo_miscounted at h
  split at h
  · refine sv_run X d_Mo_miscounted (K := kk_Mo_miscounted) (sv_lk_all (P := fun pc (k : sv_Lo → List sv_V → sv_S → Option (Int32 × sv_S)) => ∀ lo st σ, k lo st σ = some res → sv_T Γ pc lo st σ) ?_) _ _ _ _ _ ((e_Mo_miscounted _ _ _ _).trans h)
    clear h
    refine List.forall_mem_cons.mpr ⟨fun lo st σ h => ?_, fun _ h => absurd h List.not_mem_nil⟩
    · dsimp only at h
      split at h
      · exact w_Mo_miscounted_58 X _ _ _ _ _ _ _ _ _ _ _ h
      · cases h
  · cases h
theorem a_Mo_miscounted (as : List sv_V) (σ : sv_S) (x : Int32 × sv_S) (h : n_Mo_miscounted as σ = some x) : sv_args 10 ev_Mo_miscounted.2.2.2.1 as := by
  unfold n_Mo_miscounted at h
  split at h
  · exact ⟨Nat.le_of_ble_eq_true rfl, fun _ v hv => by
      simp only [List.mem_cons, List.not_mem_nil, or_false] at hv
      rcases hv with rfl | rfl | rfl | rfl <;> trivial⟩
  · cases h
theorem g_Mo_miscounted (as : List sv_V) (σ : sv_S) (x : Option sv_V × sv_S) (h : sv_gI n_Mo_miscounted as σ = some x) : ∃ r i as', as = sv_R r i :: as' ∧ sv_kd r i = .inl 12 := by
  obtain ⟨_, _, h, -⟩ := sv_b_some h
  unfold n_Mo_miscounted at h
  split at h
  · exact ⟨_, _, _, rfl, rfl⟩
  · cases h
theorem tw_1434 : Cond.methodLink RX12 309 yX12_off ∈ gw_tbl := gw_at 1434 (by decide +kernel) rfl
theorem tw_1435 : Cond.static yX12_off ∈ gw_tbl := gw_at 1435 (by decide +kernel) rfl
theorem tw_1436 : Cond.code yX12_off cX12_off 2 (some .int) ∈ gw_tbl := gw_at 1436 (by decide +kernel) rfl
set_option maxRecDepth 20000 in
theorem m_Mo_miscounted (l : Launch) : sv_M l yX12_miscounted cX12_miscounted 10 (some .int) (sv_gI n_Mo_miscounted) 6 := by
  refine sv_mI (E := ev_Mo_miscounted) (by decide +kernel) (ln_gen fk_12 kk_12 (sv_ns _ (fun _ => rfl) _)) ?_ a_Mo_miscounted b_Mo_miscounted
  intro p e R s m args below meth c cells slots Q base ad dC dI cA n0 S hkn hR hf pc n f h
  refine sv_lk_all (P := fun pc (x : Nat × sv_F) => sv_cok p l e R s m args below meth c cells slots Q base ad dC dI cA true 10 n0 pc x.1 x.2) ?_ pc (n, f) h
  exact List.forall_mem_cons.mpr ⟨(sv_cS S hkn (m_Mo_isSheet l) ⟨Nat.le_trans (by decide) hR.1, Nat.le_trans (by decide) hR.2⟩ (by decide) hf (sv_w4 tw_1409 tw_1410 tw_65 tw_1411) (by decide +kernel) (sv_dc3 d_Mo_miscounted (pc := 1) rfl rfl)).I,
      List.forall_mem_cons.mpr ⟨(sv_cS S hkn (m_Mo_isIn l) ⟨Nat.le_trans (by decide) hR.1, Nat.le_trans (by decide) hR.2⟩ (by decide) hf (sv_w4 tw_1098 tw_1099 tw_65 tw_1100) (by decide +kernel) (sv_dc3 d_Mo_miscounted (pc := 13) rfl rfl)).I,
      List.forall_mem_cons.mpr ⟨(sv_cS S hkn (m_Mo_isIn l) ⟨Nat.le_trans (by decide) hR.1, Nat.le_trans (by decide) hR.2⟩ (by decide) hf (sv_w4 tw_1098 tw_1099 tw_65 tw_1100) (by decide +kernel) (sv_dc3 d_Mo_miscounted (pc := 23) rfl rfl)).I,
      List.forall_mem_cons.mpr ⟨(sv_cV S hkn (m_Mo_laysBy l) ⟨Nat.le_trans (by decide) hR.1, Nat.le_trans (by decide) hR.2⟩ (by decide) hf rfl g_Mo_laysBy (sv_w5 tw_1244 tw_1246 tw_26 tw_65 tw_1247) (by decide +kernel) (sv_dc3 d_Mo_miscounted (pc := 46) rfl rfl)).V,
      List.forall_mem_cons.mpr ⟨(sv_cV S hkn (m_Mo_of l) ⟨Nat.le_trans (by decide) hR.1, Nat.le_trans (by decide) hR.2⟩ (by decide) hf rfl g_Mo_of (sv_w5 tw_1120 tw_1122 tw_10 tw_65 tw_1123) (by decide +kernel) (sv_dc3 d_Mo_miscounted (pc := 77) rfl rfl)).I,
      List.forall_mem_cons.mpr ⟨(sv_cV S hkn (m_Mo_of l) ⟨Nat.le_trans (by decide) hR.1, Nat.le_trans (by decide) hR.2⟩ (by decide) hf rfl g_Mo_of (sv_w5 tw_1120 tw_1122 tw_10 tw_65 tw_1123) (by decide +kernel) (sv_dc3 d_Mo_miscounted (pc := 93) rfl rfl)).I,
      List.forall_mem_cons.mpr ⟨(sv_cV S hkn (m_Mo_sets l) ⟨Nat.le_trans (by decide) hR.1, Nat.le_trans (by decide) hR.2⟩ (by decide) hf rfl g_Mo_sets (sv_w5 tw_1108 tw_1110 tw_8 tw_65 tw_1111) (by decide +kernel) (sv_dc3 d_Mo_miscounted (pc := 98) rfl rfl)).V,
      List.forall_mem_cons.mpr ⟨(sv_cV S hkn (m_Mo_layFirsts l) ⟨Nat.le_trans (by decide) hR.1, Nat.le_trans (by decide) hR.2⟩ (by decide) hf rfl g_Mo_layFirsts (sv_w5 tw_1271 tw_1273 tw_29 tw_65 tw_1274) (by decide +kernel) (sv_dc3 d_Mo_miscounted (pc := 103) rfl rfl)).V,
      List.forall_mem_cons.mpr ⟨(sv_cV S hkn (m_Mo_laysBack l) ⟨Nat.le_trans (by decide) hR.1, Nat.le_trans (by decide) hR.2⟩ (by decide) hf rfl g_Mo_laysBack (sv_w5 tw_1248 tw_1250 tw_27 tw_65 tw_1251) (by decide +kernel) (sv_dc3 d_Mo_miscounted (pc := 107) rfl rfl)).V,
      List.forall_mem_cons.mpr ⟨(sv_cS S hkn (m_Mo_off l) ⟨Nat.le_trans (by decide) hR.1, Nat.le_trans (by decide) hR.2⟩ (by decide) hf (sv_w4 tw_1434 tw_1435 tw_65 tw_1436) (by decide +kernel) (sv_dc3 d_Mo_miscounted (pc := 178) rfl rfl)).I,
      fun _ h => absurd h List.not_mem_nil⟩⟩⟩⟩⟩⟩⟩⟩⟩⟩
noncomputable def f_Mo_copy_150 : Nat → Int32 → Int32 → Int32 → Int32 → sv_S → Option (Int32 × sv_S)
  | 0, _, _, _, _, _ => none
  | n + 1, x3, x4, x5, x6, σ =>
    sv_if (x5 ≤ x6)
      (some (x5, σ))
      (sv_g (sv_in x6 24) (sv_g (sv_in ((((24 : Int32) * x3) + x4) + x6) 96) (f_Mo_copy_150 n x3 x4 x5 (x6 + (1 : Int32)) (sv_up σ 31 6 (((((24 : Int32) * x3) + x4) + x6).toNatClampNeg) (σ 31 30 (x6.toNatClampNeg))))))
noncomputable def f_Mo_copy_113 : Nat → Int32 → Int32 → Int32 → Int32 → Int32 → Int32 → sv_S → Option (Int32 × sv_S)
  | 0, _, _, _, _, _, _, _ => none
  | n + 1, x1, x2, x3, x4, x5, x6, σ =>
    sv_if (x5 ≤ x6)
      (f_Mo_copy_150 sv_fu x3 x4 x5 (0 : Int32) σ)
      (sv_g (sv_in ((((24 : Int32) * x1) + x2) + x6) 96) (sv_g (sv_in x6 24) (f_Mo_copy_113 n x1 x2 x3 x4 x5 (x6 + (1 : Int32)) (sv_up σ 31 30 (x6.toNatClampNeg) (σ 31 6 (((((24 : Int32) * x1) + x2) + x6).toNatClampNeg))))))
noncomputable def f_Mo_copy (a1 : Int32) (a2 : Int32) (a3 : Int32) (a4 : Int32) (a5 : Int32) (σ : sv_S) : Option (Int32 × sv_S) :=
  sv_b (f_Mo_isSheet a1 σ) (fun v1 σ2 =>
    sv_if (v1 = 0)
      (some ((-1000000001 : Int32), σ2))
      (sv_b (f_Mo_isSheet a3 σ2) (fun v3 σ4 =>
        sv_if (v3 = 0)
          (some ((-1000000001 : Int32), σ4))
          (sv_g (sv_in a1 4) (sv_if ((σ4 31 4 (a1.toNatClampNeg)) < 0)
            (some ((-1000000011 : Int32), σ4))
            (sv_g (sv_in a3 4) (sv_if (0 ≤ (σ4 31 4 (a3.toNatClampNeg)))
              (sv_g (sv_in a1 4) (sv_g (sv_in a3 4) (sv_if ((σ4 31 4 (a1.toNatClampNeg)) = (σ4 31 4 (a3.toNatClampNeg)))
                (sv_if (a2 < 0)
                  (some ((-1000000013 : Int32), σ4))
                  (sv_if (a4 < 0)
                    (some ((-1000000013 : Int32), σ4))
                    (sv_if (a5 < 0)
                      (some ((-1000000013 : Int32), σ4))
                      (sv_g (sv_in a1 4) (sv_if (0 < (lg_cmp ((a2.toInt64) + (a5.toInt64)) ((σ4 31 5 (a1.toNatClampNeg)).toInt64)))
                        (some ((-1000000013 : Int32), σ4))
                        (sv_g (sv_in a3 4) (sv_if ((lg_cmp ((a4.toInt64) + (a5.toInt64)) ((σ4 31 5 (a3.toNatClampNeg)).toInt64)) ≤ 0)
                          (f_Mo_copy_113 sv_fu a1 a2 a3 a4 a5 (0 : Int32) σ4)
                          (some ((-1000000013 : Int32), σ4)))))))))
                (some ((-1000000012 : Int32), σ4)))))
              (some ((-1000000011 : Int32), σ4)))))))))
noncomputable def n_Mo_copy : List sv_V → sv_S → Option (Int32 × sv_S)
  | [.inr (.inr (some (30, 0))), .inl a1, .inl a2, .inl a3, .inl a4, .inl a5], σ => f_Mo_copy a1 a2 a3 a4 a5 σ
  | _, _ => none
def cd_Mo_copy : sv_C := [(0, (.iload_n 1, (sv_N, (1, (0, []))))), (1, (.invokestatic 297, (sv_N, (4, (0, []))))), (4, (.ifCond .eq 10, (sv_N, (7, (14, []))))), (7, (.iload_n 3, (sv_N, (8, (0, []))))), (8, (.invokestatic 297, (sv_N, (11, (0, []))))), (11, (.ifCond .ne 6, (sv_N, (14, (17, []))))), (14, (.ldc 84, (sv_N, (16, (0, []))))), (16, (.ireturn, (sv_N, (17, (0, []))))), (17, (.aload_n 0, (sv_N, (18, (0, []))))), (18, (.getfield 19, (sv_N, (21, (0, []))))), (21, (.iload_n 1, (sv_N, (22, (0, []))))), (22, (.iaload, (sv_N, (23, (0, []))))), (23, (.ifCond .lt 12, (sv_N, (26, (35, []))))), (26, (.aload_n 0, (sv_N, (27, (0, []))))), (27, (.getfield 19, (sv_N, (30, (0, []))))), (30, (.iload_n 3, (sv_N, (31, (0, []))))), (31, (.iaload, (sv_N, (32, (0, []))))), (32, (.ifCond .ge 7, (sv_N, (35, (39, []))))), (35, (.ldc_w 303, (sv_N, (38, (0, []))))), (38, (.ireturn, (sv_N, (39, (0, []))))), (39, (.aload_n 0, (sv_N, (40, (0, []))))), (40, (.getfield 19, (sv_N, (43, (0, []))))), (43, (.iload_n 1, (sv_N, (44, (0, []))))), (44, (.iaload, (sv_N, (45, (0, []))))), (45, (.aload_n 0, (sv_N, (46, (0, []))))), (46, (.getfield 19, (sv_N, (49, (0, []))))), (49, (.iload_n 3, (sv_N, (50, (0, []))))), (50, (.iaload, (sv_N, (51, (0, []))))), (51, (.if_icmp .eq 6, (sv_N, (54, (57, []))))), (54, (.ldc 133, (sv_N, (56, (0, []))))), (56, (.ireturn, (sv_N, (57, (0, []))))), (57, (.iload_n 2, (sv_N, (58, (0, []))))), (58, (.ifCond .lt 48, (sv_N, (61, (106, []))))), (61, (.iload 4, (sv_N, (63, (0, []))))), (63, (.ifCond .lt 43, (sv_N, (66, (106, []))))), (66, (.iload 5, (sv_N, (68, (0, []))))), (68, (.ifCond .lt 38, (sv_N, (71, (106, []))))), (71, (.iload_n 2, (sv_N, (72, (0, []))))), (72, (.i2l, (sv_N, (73, (0, []))))), (73, (.iload 5, (sv_N, (75, (0, []))))), (75, (.i2l, (sv_N, (76, (0, []))))), (76, (.ladd, (sv_N, (77, (0, []))))), (77, (.aload_n 0, (sv_N, (78, (0, []))))), (78, (.getfield 22, (sv_N, (81, (0, []))))), (81, (.iload_n 1, (sv_N, (82, (0, []))))), (82, (.iaload, (sv_N, (83, (0, []))))), (83, (.i2l, (sv_N, (84, (0, []))))), (84, (.lcmp, (sv_N, (85, (0, []))))), (85, (.ifCond .gt 21, (sv_N, (88, (106, []))))), (88, (.iload 4, (sv_N, (90, (0, []))))), (90, (.i2l, (sv_N, (91, (0, []))))), (91, (.iload 5, (sv_N, (93, (0, []))))), (93, (.i2l, (sv_N, (94, (0, []))))), (94, (.ladd, (sv_N, (95, (0, []))))), (95, (.aload_n 0, (sv_N, (96, (0, []))))), (96, (.getfield 22, (sv_N, (99, (0, []))))), (99, (.iload_n 3, (sv_N, (100, (0, []))))), (100, (.iaload, (sv_N, (101, (0, []))))), (101, (.i2l, (sv_N, (102, (0, []))))), (102, (.lcmp, (sv_N, (103, (0, []))))), (103, (.ifCond .le 7, (sv_N, (106, (110, []))))), (106, (.ldc_w 304, (sv_N, (109, (0, []))))), (109, (.ireturn, (sv_N, (110, (0, []))))), (110, (.iconst 0, (.inl (0 : Int32), (111, (0, []))))), (111, (.istore 6, (sv_N, (113, (0, []))))), (113, (.iload 6, (sv_N, (115, (0, []))))), (115, (.iload 5, (sv_N, (117, (0, []))))), (117, (.if_icmp .ge 30, (sv_N, (120, (147, []))))), (120, (.aload_n 0, (sv_N, (121, (0, []))))), (121, (.getfield 61, (sv_N, (124, (0, []))))), (124, (.iload 6, (sv_N, (126, (0, []))))), (126, (.aload_n 0, (sv_N, (127, (0, []))))), (127, (.getfield 25, (sv_N, (130, (0, []))))), (130, (.bipush 24, (.inl (24 : Int32), (132, (0, []))))), (132, (.iload_n 1, (sv_N, (133, (0, []))))), (133, (.imul, (sv_N, (134, (0, []))))), (134, (.iload_n 2, (sv_N, (135, (0, []))))), (135, (.iadd, (sv_N, (136, (0, []))))), (136, (.iload 6, (sv_N, (138, (0, []))))), (138, (.iadd, (sv_N, (139, (0, []))))), (139, (.iaload, (sv_N, (140, (0, []))))), (140, (.iastore, (sv_N, (141, (0, []))))), (141, (.iinc 6 1, (.inl (1 : Int32), (144, (0, []))))), (144, (.goto (-31), (sv_N, (147, (113, []))))), (147, (.iconst 0, (.inl (0 : Int32), (148, (0, []))))), (148, (.istore 6, (sv_N, (150, (0, []))))), (150, (.iload 6, (sv_N, (152, (0, []))))), (152, (.iload 5, (sv_N, (154, (0, []))))), (154, (.if_icmp .ge 31, (sv_N, (157, (185, []))))), (157, (.aload_n 0, (sv_N, (158, (0, []))))), (158, (.getfield 25, (sv_N, (161, (0, []))))), (161, (.bipush 24, (.inl (24 : Int32), (163, (0, []))))), (163, (.iload_n 3, (sv_N, (164, (0, []))))), (164, (.imul, (sv_N, (165, (0, []))))), (165, (.iload 4, (sv_N, (167, (0, []))))), (167, (.iadd, (sv_N, (168, (0, []))))), (168, (.iload 6, (sv_N, (170, (0, []))))), (170, (.iadd, (sv_N, (171, (0, []))))), (171, (.aload_n 0, (sv_N, (172, (0, []))))), (172, (.getfield 61, (sv_N, (175, (0, []))))), (175, (.iload 6, (sv_N, (177, (0, []))))), (177, (.iaload, (sv_N, (178, (0, []))))), (178, (.iastore, (sv_N, (179, (0, []))))), (179, (.iinc 6 1, (.inl (1 : Int32), (182, (0, []))))), (182, (.goto (-32), (sv_N, (185, (150, []))))), (185, (.iload 5, (sv_N, (187, (0, []))))), (187, (.ireturn, (sv_N, (188, (0, [])))))]
noncomputable def ev_Mo_copy : sv_E := (fun i => sv_lk i fl_12, (fun i => sv_lk i kc_12, (fun _ => false, (true, fun pc => sv_lk pc [(1, (1, .inl n_Mo_isSheet)), (8, (1, .inl n_Mo_isSheet))]))))
noncomputable def kk_Mo_copy_150 (n : Nat) : sv_K (Int32 × sv_S) := fun pc => sv_lk pc [(150, fun lo st σ => match lo, st with
    | [some (.inr (.inr (some (30, 0)))), _, _, some (.inl x3), some (.inl x4), some (.inl x5), some (.inl x6)], [] => f_Mo_copy_150 n x3 x4 x5 x6 σ
    | _, _ => none)]
set_option maxRecDepth 20000 in
theorem e_Mo_copy_150 (n : Nat) (x3 : Int32) (x4 : Int32) (x5 : Int32) (x6 : Int32) (z1 z2 : Option sv_V) (σ : sv_S) : sv_ex ev_Mo_copy sv_rI (kk_Mo_copy_150 n) cd_Mo_copy 109 150 [some (.inr (.inr (some (30, 0)))), z1, z2, some (.inl x3), some (.inl x4), some (.inl x5), some (.inl x6)] [] σ = f_Mo_copy_150 (n + 1) x3 x4 x5 x6 σ := by
  rw [f_Mo_copy_150.eq_2]
  delta ev_Mo_copy kk_Mo_copy_150 n_Mo_isSheet
  generalize f_Mo_isSheet = c0
  generalize f_Mo_copy_150 = c1
  rfl
noncomputable def kk_Mo_copy_113 (n : Nat) : sv_K (Int32 × sv_S) := fun pc => sv_lk pc [(113, fun lo st σ => match lo, st with
    | [some (.inr (.inr (some (30, 0)))), some (.inl x1), some (.inl x2), some (.inl x3), some (.inl x4), some (.inl x5), some (.inl x6)], [] => f_Mo_copy_113 n x1 x2 x3 x4 x5 x6 σ
    | _, _ => none),
  (150, fun lo st σ => match lo, st with
    | [some (.inr (.inr (some (30, 0)))), _, _, some (.inl x3), some (.inl x4), some (.inl x5), some (.inl x6)], [] => f_Mo_copy_150 sv_fu x3 x4 x5 x6 σ
    | _, _ => none)]
set_option maxRecDepth 20000 in
theorem e_Mo_copy_113 (n : Nat) (x1 : Int32) (x2 : Int32) (x3 : Int32) (x4 : Int32) (x5 : Int32) (x6 : Int32) (σ : sv_S) : sv_ex ev_Mo_copy sv_rI (kk_Mo_copy_113 n) cd_Mo_copy 109 113 [some (.inr (.inr (some (30, 0)))), some (.inl x1), some (.inl x2), some (.inl x3), some (.inl x4), some (.inl x5), some (.inl x6)] [] σ = f_Mo_copy_113 (n + 1) x1 x2 x3 x4 x5 x6 σ := by
  rw [f_Mo_copy_113.eq_2]
  delta ev_Mo_copy kk_Mo_copy_113 n_Mo_isSheet
  generalize f_Mo_isSheet = c0
  generalize f_Mo_copy_113 = c1
  generalize f_Mo_copy_150 = c2
  rfl
noncomputable def kk_Mo_copy : sv_K (Int32 × sv_S) := fun pc => sv_lk pc [(113, fun lo st σ => match lo, st with
    | [some (.inr (.inr (some (30, 0)))), some (.inl x1), some (.inl x2), some (.inl x3), some (.inl x4), some (.inl x5), some (.inl x6)], [] => f_Mo_copy_113 sv_fu x1 x2 x3 x4 x5 x6 σ
    | _, _ => none)]
set_option maxRecDepth 20000 in
theorem e_Mo_copy (a1 : Int32) (a2 : Int32) (a3 : Int32) (a4 : Int32) (a5 : Int32) (σ : sv_S) : sv_ex ev_Mo_copy sv_rI kk_Mo_copy cd_Mo_copy 109 0 [some (.inr (.inr (some (30, 0)))), some (.inl a1), some (.inl a2), some (.inl a3), some (.inl a4), some (.inl a5), none] [] σ = f_Mo_copy a1 a2 a3 a4 a5 σ := by
  unfold f_Mo_copy
  delta ev_Mo_copy kk_Mo_copy n_Mo_isSheet
  generalize f_Mo_isSheet = c0
  generalize f_Mo_copy_113 = c1
  rfl
theorem d_Mo_copy : cd_Mo_copy.all (sv_dk cX12_copy) = true := by decide +kernel
set_option maxRecDepth 20000 in
theorem w_Mo_copy_150 {Γ : sv_Ga} {res : Int32 × sv_S} (X : sv_Ok Γ ev_Mo_copy cX12_copy sv_rI res) : ∀ (n : Nat) (x3 : Int32) (x4 : Int32) (x5 : Int32) (x6 : Int32) (z1 z2 : Option sv_V) (σ : sv_S), f_Mo_copy_150 n x3 x4 x5 x6 σ = some res → sv_T Γ 150 [some (.inr (.inr (some (30, 0)))), z1, z2, some (.inl x3), some (.inl x4), some (.inl x5), some (.inl x6)] [] σ := by
  intro n
  induction n with
  | zero =>
    intro x3 x4 x5 x6 z1 z2 σ h
    rw [f_Mo_copy_150.eq_1] at h
    cases h
  | succ n ih =>
    intro x3 x4 x5 x6 z1 z2 σ h
    refine sv_run X d_Mo_copy (K := kk_Mo_copy_150 n) (sv_lk_all (P := fun pc (k : sv_Lo → List sv_V → sv_S → Option (Int32 × sv_S)) => ∀ lo st σ, k lo st σ = some res → sv_T Γ pc lo st σ) ?_) _ _ _ _ _ ((e_Mo_copy_150 n x3 x4 x5 x6 z1 z2 σ).trans h)
    clear h
    refine List.forall_mem_cons.mpr ⟨fun lo st σ h => ?_, fun _ h => absurd h List.not_mem_nil⟩
    · dsimp only at h
      split at h
      · exact ih _ _ _ _ _ _ _ h
      · cases h

set_option maxRecDepth 20000 in
theorem w_Mo_copy_113 {Γ : sv_Ga} {res : Int32 × sv_S} (X : sv_Ok Γ ev_Mo_copy cX12_copy sv_rI res) : ∀ (n : Nat) (x1 : Int32) (x2 : Int32) (x3 : Int32) (x4 : Int32) (x5 : Int32) (x6 : Int32) (σ : sv_S), f_Mo_copy_113 n x1 x2 x3 x4 x5 x6 σ = some res → sv_T Γ 113 [some (.inr (.inr (some (30, 0)))), some (.inl x1), some (.inl x2), some (.inl x3), some (.inl x4), some (.inl x5), some (.inl x6)] [] σ := by
  intro n
  induction n with
  | zero =>
    intro x1 x2 x3 x4 x5 x6 σ h
    rw [f_Mo_copy_113.eq_1] at h
    cases h
  | succ n ih =>
    intro x1 x2 x3 x4 x5 x6 σ h
    refine sv_run X d_Mo_copy (K := kk_Mo_copy_113 n) (sv_lk_all (P := fun pc (k : sv_Lo → List sv_V → sv_S → Option (Int32 × sv_S)) => ∀ lo st σ, k lo st σ = some res → sv_T Γ pc lo st σ) ?_) _ _ _ _ _ ((e_Mo_copy_113 n x1 x2 x3 x4 x5 x6 σ).trans h)
    clear h
    refine List.forall_mem_cons.mpr ⟨fun lo st σ h => ?_, List.forall_mem_cons.mpr ⟨fun lo st σ h => ?_, fun _ h => absurd h List.not_mem_nil⟩⟩
    · dsimp only at h
      split at h
      · exact ih _ _ _ _ _ _ _ h
      · cases h
    · dsimp only at h
      split at h
      · exact w_Mo_copy_150 X _ _ _ _ _ _ _ _ h
      · cases h

set_option maxRecDepth 20000 in
theorem b_Mo_copy (Γ : sv_Ga) (res : Int32 × sv_S) (X : sv_Ok Γ ev_Mo_copy cX12_copy sv_rI res) (as : List sv_V) (σ : sv_S) (h : n_Mo_copy as σ = some res) : sv_T Γ 0 (sv_e0 7 as) [] σ := by
  unfold n_Mo_copy at h
  split at h
  · refine sv_run X d_Mo_copy (K := kk_Mo_copy) (sv_lk_all (P := fun pc (k : sv_Lo → List sv_V → sv_S → Option (Int32 × sv_S)) => ∀ lo st σ, k lo st σ = some res → sv_T Γ pc lo st σ) ?_) _ _ _ _ _ ((e_Mo_copy _ _ _ _ _ _).trans h)
    clear h
    refine List.forall_mem_cons.mpr ⟨fun lo st σ h => ?_, fun _ h => absurd h List.not_mem_nil⟩
    · dsimp only at h
      split at h
      · exact w_Mo_copy_113 X _ _ _ _ _ _ _ _ h
      · cases h
  · cases h
theorem a_Mo_copy (as : List sv_V) (σ : sv_S) (x : Int32 × sv_S) (h : n_Mo_copy as σ = some x) : sv_args 7 ev_Mo_copy.2.2.2.1 as := by
  unfold n_Mo_copy at h
  split at h
  · exact ⟨Nat.le_of_ble_eq_true rfl, fun _ v hv => by
      simp only [List.mem_cons, List.not_mem_nil, or_false] at hv
      rcases hv with rfl | rfl | rfl | rfl | rfl | rfl <;> trivial⟩
  · cases h
theorem g_Mo_copy (as : List sv_V) (σ : sv_S) (x : Option sv_V × sv_S) (h : sv_gI n_Mo_copy as σ = some x) : ∃ r i as', as = sv_R r i :: as' ∧ sv_kd r i = .inl 12 := by
  obtain ⟨_, _, h, -⟩ := sv_b_some h
  unfold n_Mo_copy at h
  split at h
  · exact ⟨_, _, _, rfl, rfl⟩
  · cases h

set_option maxRecDepth 20000 in
theorem m_Mo_copy (l : Launch) : sv_M l yX12_copy cX12_copy 7 (some .int) (sv_gI n_Mo_copy) 2 := by
  refine sv_mI (E := ev_Mo_copy) (by decide +kernel) (ln_gen fk_12 kk_12 (sv_ns _ (fun _ => rfl) _)) ?_ a_Mo_copy b_Mo_copy
  intro p e R s m args below meth c cells slots Q base ad dC dI cA n0 S hkn hR hf pc n f h
  refine sv_lk_all (P := fun pc (x : Nat × sv_F) => sv_cok p l e R s m args below meth c cells slots Q base ad dC dI cA true 7 n0 pc x.1 x.2) ?_ pc (n, f) h
  exact List.forall_mem_cons.mpr ⟨(sv_cS S hkn (m_Mo_isSheet l) ⟨Nat.le_trans (by decide) hR.1, Nat.le_trans (by decide) hR.2⟩ (by decide) hf (sv_w4 tw_1409 tw_1410 tw_65 tw_1411) (by decide +kernel) (sv_dc3 d_Mo_copy (pc := 1) rfl rfl)).I,
      List.forall_mem_cons.mpr ⟨(sv_cS S hkn (m_Mo_isSheet l) ⟨Nat.le_trans (by decide) hR.1, Nat.le_trans (by decide) hR.2⟩ (by decide) hf (sv_w4 tw_1409 tw_1410 tw_65 tw_1411) (by decide +kernel) (sv_dc3 d_Mo_copy (pc := 8) rfl rfl)).I,
      fun _ h => absurd h List.not_mem_nil⟩⟩
noncomputable def f_Mo_isSlot (a0 : Int32) (σ : sv_S) : Option (Int32 × sv_S) :=
  sv_b (f_Mo_isIn (a0.toInt64) (0 : Int64) (4 : Int64) σ) (fun v1 σ2 =>
    sv_g (v1 = 0 ∨ v1 = 1) (some (v1, σ2)))
noncomputable def n_Mo_isSlot : List sv_V → sv_S → Option (Int32 × sv_S)
  | [.inl a0], σ => f_Mo_isSlot a0 σ
  | _, _ => none
def cd_Mo_isSlot : sv_C := [(0, (.iload_n 0, (sv_N, (1, (0, []))))), (1, (.i2l, (sv_N, (2, (0, []))))), (2, (.lconst 0, (.inr (.inl (0 : Int64)), (3, (0, []))))), (3, (.ldc2_w 312, (sv_N, (6, (0, []))))), (6, (.invokestatic 71, (sv_N, (9, (0, []))))), (9, (.ireturn, (sv_N, (10, (0, [])))))]
noncomputable def ev_Mo_isSlot : sv_E := (fun i => sv_lk i fl_12, (fun i => sv_lk i kc_12, (fun _ => false, (true, fun pc => sv_lk pc [(6, (3, .inl n_Mo_isIn))]))))
noncomputable def kk_Mo_isSlot : sv_K (Int32 × sv_S) := fun pc => sv_lk pc []
set_option maxRecDepth 20000 in
theorem e_Mo_isSlot (a0 : Int32) (σ : sv_S) : sv_ex ev_Mo_isSlot sv_rZ kk_Mo_isSlot cd_Mo_isSlot 8 0 [some (.inl a0)] [] σ = f_Mo_isSlot a0 σ := by
  unfold f_Mo_isSlot
  delta ev_Mo_isSlot kk_Mo_isSlot n_Mo_isIn
  generalize f_Mo_isIn = c0
  rfl
theorem d_Mo_isSlot : cd_Mo_isSlot.all (sv_dk cX12_isSlot) = true := by decide +kernel
set_option maxRecDepth 20000 in
theorem b_Mo_isSlot (Γ : sv_Ga) (res : Int32 × sv_S) (X : sv_Ok Γ ev_Mo_isSlot cX12_isSlot sv_rZ res) (as : List sv_V) (σ : sv_S) (h : n_Mo_isSlot as σ = some res) : sv_T Γ 0 (sv_e0 1 as) [] σ := by
  unfold n_Mo_isSlot at h
  split at h
  · refine sv_run X d_Mo_isSlot (K := kk_Mo_isSlot) (sv_lk_all (P := fun pc (k : sv_Lo → List sv_V → sv_S → Option (Int32 × sv_S)) => ∀ lo st σ, k lo st σ = some res → sv_T Γ pc lo st σ) ?_) _ _ _ _ _ ((e_Mo_isSlot _ _).trans h)
    clear h
    exact fun _ h => absurd h List.not_mem_nil
  · cases h
theorem a_Mo_isSlot (as : List sv_V) (σ : sv_S) (x : Int32 × sv_S) (h : n_Mo_isSlot as σ = some x) : sv_args 1 ev_Mo_isSlot.2.2.2.1 as := by
  unfold n_Mo_isSlot at h
  split at h
  · exact ⟨Nat.le_of_ble_eq_true rfl, fun _ v hv => by
      simp only [List.mem_cons, List.not_mem_nil, or_false] at hv
      rcases hv with rfl <;> trivial⟩
  · cases h

set_option maxRecDepth 20000 in
theorem m_Mo_isSlot (l : Launch) : sv_M l yX12_isSlot cX12_isSlot 1 (some .boolean) (sv_gI n_Mo_isSlot) 1 := by
  refine sv_mZ (E := ev_Mo_isSlot) (by decide +kernel) (ln_gen fk_12 kk_12 (sv_ns _ (fun _ => rfl) _)) ?_ a_Mo_isSlot b_Mo_isSlot
  intro p e R s m args below meth c cells slots Q base ad dC dI cA n0 S hkn hR hf pc n f h
  refine sv_lk_all (P := fun pc (x : Nat × sv_F) => sv_cok p l e R s m args below meth c cells slots Q base ad dC dI cA true 1 n0 pc x.1 x.2) ?_ pc (n, f) h
  exact List.forall_mem_cons.mpr ⟨(sv_cS S hkn (m_Mo_isIn l) ⟨Nat.le_trans (by decide) hR.1, Nat.le_trans (by decide) hR.2⟩ (by decide) hf (sv_w4 tw_1098 tw_1099 tw_65 tw_1100) (by decide +kernel) (sv_dc3 d_Mo_isSlot (pc := 6) rfl rfl)).I,
      fun _ h => absurd h List.not_mem_nil⟩
noncomputable def f_Mo_lay_150 : Nat → Int32 → Int32 → Int32 → Int32 → sv_S → Option (Int32 × sv_S)
  | 0, _, _, _, _, _ => none
  | n + 1, x1, x3, x5, x6, σ =>
    sv_if ((24 : Int32) ≤ x6)
      (some (x5, σ))
      (sv_g (sv_in (((24 : Int32) * x3) + x6) 96) (sv_g (sv_in (((24 : Int32) * x1) + x6) 120) (f_Mo_lay_150 n x1 x3 x5 (x6 + (1 : Int32)) (sv_up σ 31 11 ((((24 : Int32) * x1) + x6).toNatClampNeg) (σ 31 6 ((((24 : Int32) * x3) + x6).toNatClampNeg))))))
noncomputable def f_Mo_lay_129 (x1 : Int32) (x2 : Int32) (x3 : Int32) (x5 : Int32) (y0 : Int32) (y1 : Int32) (y2 : Nat) (σ : sv_S) : Option (Int32 × sv_S) :=
    sv_g (sv_in y1 (sv_ml y2)) (sv_if (x2 = (2 : Int32))
      (sv_g (sv_in x3 4) (sv_g (sv_in x1 5) (f_Mo_lay_150 sv_fu x1 x3 x5 (0 : Int32) (sv_up (sv_up σ 31 y2 (y1.toNatClampNeg) y0) 31 10 (x1.toNatClampNeg) ((sv_up σ 31 y2 (y1.toNatClampNeg) y0) 31 5 (x3.toNatClampNeg))))))
      (some (x5, sv_up σ 31 y2 (y1.toNatClampNeg) y0)))
noncomputable def f_Mo_lay_109 (x1 : Int32) (x2 : Int32) (x3 : Int32) (x5 : Int32) (y0 : Int32) (y1 : Int32) (y2 : Nat) (σ : sv_S) : Option (Int32 × sv_S) :=
    sv_g (sv_in y1 (sv_ml y2)) (sv_if (x2 = (1 : Int32))
      (sv_b (f_Mo_worth x3 (sv_up σ 31 y2 (y1.toNatClampNeg) y0)) (fun v1 σ2 =>
        f_Mo_lay_129 x1 x2 x3 x5 v1 x1 9 σ2))
      (f_Mo_lay_129 x1 x2 x3 x5 (0 : Int32) x1 9 (sv_up σ 31 y2 (y1.toNatClampNeg) y0)))
noncomputable def f_Mo_lay_74 (x1 : Int32) (x2 : Int32) (x3 : Int32) (σ : sv_S) : Option (Int32 × sv_S) :=
    sv_g (sv_in x1 5) (sv_g (sv_in x1 5) (sv_if (x2 = (1 : Int32))
      (sv_b (f_Mo_of x3 (0 : Int32) (sv_up σ 31 7 (x1.toNatClampNeg) x2)) (fun v1 σ2 =>
        f_Mo_lay_109 x1 x2 x3 (σ 31 7 (x1.toNatClampNeg)) v1 x1 8 σ2))
      (f_Mo_lay_109 x1 x2 x3 (σ 31 7 (x1.toNatClampNeg)) x3 x1 8 (sv_up σ 31 7 (x1.toNatClampNeg) x2))))
noncomputable def f_Mo_lay_39 (x1 : Int32) (x2 : Int32) (x3 : Int32) (y0 : Int32) (σ : sv_S) : Option (Int32 × sv_S) :=
    sv_b (f_Mo_isSlot x1 σ) (fun v1 σ2 =>
      sv_if (v1 = 0)
        (some ((-1000000001 : Int32), σ2))
        (sv_if (y0 = 0)
          (some ((-1000000001 : Int32), σ2))
          (sv_if (x2 = (2 : Int32))
            (sv_g (sv_in x3 4) (sv_if (0 ≤ (σ2 31 4 (x3.toNatClampNeg)))
              (f_Mo_lay_74 x1 x2 x3 σ2)
              (some ((-1000000011 : Int32), σ2))))
            (f_Mo_lay_74 x1 x2 x3 σ2))))
noncomputable def f_Mo_lay_22 (x1 : Int32) (x2 : Int32) (x3 : Int32) (σ : sv_S) : Option (Int32 × sv_S) :=
    sv_if (x2 = (2 : Int32))
      (sv_b (f_Mo_isSheet x3 σ) (fun v1 σ2 =>
        sv_if (v1 = 0)
          (f_Mo_lay_39 x1 x2 x3 (0 : Int32) σ2)
          (f_Mo_lay_39 x1 x2 x3 (1 : Int32) σ2)))
      (f_Mo_lay_39 x1 x2 x3 (0 : Int32) σ)
noncomputable def f_Mo_lay (a1 : Int32) (a2 : Int32) (a3 : Int32) (σ : sv_S) : Option (Int32 × sv_S) :=
  sv_if (a2 = 0)
    (f_Mo_lay_39 a1 a2 a3 (1 : Int32) σ)
    (sv_if (a2 = (3 : Int32))
      (f_Mo_lay_39 a1 a2 a3 (1 : Int32) σ)
      (sv_if (a2 = (1 : Int32))
        (sv_b (f_Mo_isDrummer a3 σ) (fun v1 σ2 =>
          sv_if (v1 = 0)
            (f_Mo_lay_22 a1 a2 a3 σ2)
            (f_Mo_lay_39 a1 a2 a3 (1 : Int32) σ2)))
        (f_Mo_lay_22 a1 a2 a3 σ)))
noncomputable def n_Mo_lay : List sv_V → sv_S → Option (Int32 × sv_S)
  | [.inr (.inr (some (30, 0))), .inl a1, .inl a2, .inl a3], σ => f_Mo_lay a1 a2 a3 σ
  | _, _ => none
def cd_Mo_lay : sv_C := [(0, (.iload_n 2, (sv_N, (1, (0, []))))), (1, (.ifCond .eq 33, (sv_N, (4, (34, []))))), (4, (.iload_n 2, (sv_N, (5, (0, []))))), (5, (.iconst 3, (.inl (3 : Int32), (6, (0, []))))), (6, (.if_icmp .eq 28, (sv_N, (9, (34, []))))), (9, (.iload_n 2, (sv_N, (10, (0, []))))), (10, (.iconst 1, (.inl (1 : Int32), (11, (0, []))))), (11, (.if_icmp .ne 11, (sv_N, (14, (22, []))))), (14, (.aload_n 0, (sv_N, (15, (0, []))))), (15, (.iload_n 3, (sv_N, (16, (0, []))))), (16, (.invokevirtual 113, (sv_N, (19, (0, []))))), (19, (.ifCond .ne 15, (sv_N, (22, (34, []))))), (22, (.iload_n 2, (sv_N, (23, (0, []))))), (23, (.iconst 2, (.inl (2 : Int32), (24, (0, []))))), (24, (.if_icmp .ne 14, (sv_N, (27, (38, []))))), (27, (.iload_n 3, (sv_N, (28, (0, []))))), (28, (.invokestatic 297, (sv_N, (31, (0, []))))), (31, (.ifCond .eq 7, (sv_N, (34, (38, []))))), (34, (.iconst 1, (.inl (1 : Int32), (35, (0, []))))), (35, (.goto 4, (sv_N, (38, (39, []))))), (38, (.iconst 0, (.inl (0 : Int32), (39, (0, []))))), (39, (.istore 4, (sv_N, (41, (0, []))))), (41, (.iload_n 1, (sv_N, (42, (0, []))))), (42, (.invokestatic 314, (sv_N, (45, (0, []))))), (45, (.ifCond .eq 8, (sv_N, (48, (53, []))))), (48, (.iload 4, (sv_N, (50, (0, []))))), (50, (.ifCond .ne 6, (sv_N, (53, (56, []))))), (53, (.ldc 84, (sv_N, (55, (0, []))))), (55, (.ireturn, (sv_N, (56, (0, []))))), (56, (.iload_n 2, (sv_N, (57, (0, []))))), (57, (.iconst 2, (.inl (2 : Int32), (58, (0, []))))), (58, (.if_icmp .ne 16, (sv_N, (61, (74, []))))), (61, (.aload_n 0, (sv_N, (62, (0, []))))), (62, (.getfield 19, (sv_N, (65, (0, []))))), (65, (.iload_n 3, (sv_N, (66, (0, []))))), (66, (.iaload, (sv_N, (67, (0, []))))), (67, (.ifCond .ge 7, (sv_N, (70, (74, []))))), (70, (.ldc_w 303, (sv_N, (73, (0, []))))), (73, (.ireturn, (sv_N, (74, (0, []))))), (74, (.aload_n 0, (sv_N, (75, (0, []))))), (75, (.getfield 28, (sv_N, (78, (0, []))))), (78, (.iload_n 1, (sv_N, (79, (0, []))))), (79, (.iaload, (sv_N, (80, (0, []))))), (80, (.istore 5, (sv_N, (82, (0, []))))), (82, (.aload_n 0, (sv_N, (83, (0, []))))), (83, (.getfield 28, (sv_N, (86, (0, []))))), (86, (.iload_n 1, (sv_N, (87, (0, []))))), (87, (.iload_n 2, (sv_N, (88, (0, []))))), (88, (.iastore, (sv_N, (89, (0, []))))), (89, (.aload_n 0, (sv_N, (90, (0, []))))), (90, (.getfield 31, (sv_N, (93, (0, []))))), (93, (.iload_n 1, (sv_N, (94, (0, []))))), (94, (.iload_n 2, (sv_N, (95, (0, []))))), (95, (.iconst 1, (.inl (1 : Int32), (96, (0, []))))), (96, (.if_icmp .ne 12, (sv_N, (99, (108, []))))), (99, (.aload_n 0, (sv_N, (100, (0, []))))), (100, (.iload_n 3, (sv_N, (101, (0, []))))), (101, (.iconst 0, (.inl (0 : Int32), (102, (0, []))))), (102, (.invokevirtual 90, (sv_N, (105, (0, []))))), (105, (.goto 4, (sv_N, (108, (109, []))))), (108, (.iload_n 3, (sv_N, (109, (0, []))))), (109, (.iastore, (sv_N, (110, (0, []))))), (110, (.aload_n 0, (sv_N, (111, (0, []))))), (111, (.getfield 34, (sv_N, (114, (0, []))))), (114, (.iload_n 1, (sv_N, (115, (0, []))))), (115, (.iload_n 2, (sv_N, (116, (0, []))))), (116, (.iconst 1, (.inl (1 : Int32), (117, (0, []))))), (117, (.if_icmp .ne 11, (sv_N, (120, (128, []))))), (120, (.aload_n 0, (sv_N, (121, (0, []))))), (121, (.iload_n 3, (sv_N, (122, (0, []))))), (122, (.invokevirtual 126, (sv_N, (125, (0, []))))), (125, (.goto 4, (sv_N, (128, (129, []))))), (128, (.iconst 0, (.inl (0 : Int32), (129, (0, []))))), (129, (.iastore, (sv_N, (130, (0, []))))), (130, (.iload_n 2, (sv_N, (131, (0, []))))), (131, (.iconst 2, (.inl (2 : Int32), (132, (0, []))))), (132, (.if_icmp .ne 55, (sv_N, (135, (187, []))))), (135, (.aload_n 0, (sv_N, (136, (0, []))))), (136, (.getfield 37, (sv_N, (139, (0, []))))), (139, (.iload_n 1, (sv_N, (140, (0, []))))), (140, (.aload_n 0, (sv_N, (141, (0, []))))), (141, (.getfield 22, (sv_N, (144, (0, []))))), (144, (.iload_n 3, (sv_N, (145, (0, []))))), (145, (.iaload, (sv_N, (146, (0, []))))), (146, (.iastore, (sv_N, (147, (0, []))))), (147, (.iconst 0, (.inl (0 : Int32), (148, (0, []))))), (148, (.istore 6, (sv_N, (150, (0, []))))), (150, (.iload 6, (sv_N, (152, (0, []))))), (152, (.bipush 24, (.inl (24 : Int32), (154, (0, []))))), (154, (.if_icmp .ge 33, (sv_N, (157, (187, []))))), (157, (.aload_n 0, (sv_N, (158, (0, []))))), (158, (.getfield 40, (sv_N, (161, (0, []))))), (161, (.bipush 24, (.inl (24 : Int32), (163, (0, []))))), (163, (.iload_n 1, (sv_N, (164, (0, []))))), (164, (.imul, (sv_N, (165, (0, []))))), (165, (.iload 6, (sv_N, (167, (0, []))))), (167, (.iadd, (sv_N, (168, (0, []))))), (168, (.aload_n 0, (sv_N, (169, (0, []))))), (169, (.getfield 25, (sv_N, (172, (0, []))))), (172, (.bipush 24, (.inl (24 : Int32), (174, (0, []))))), (174, (.iload_n 3, (sv_N, (175, (0, []))))), (175, (.imul, (sv_N, (176, (0, []))))), (176, (.iload 6, (sv_N, (178, (0, []))))), (178, (.iadd, (sv_N, (179, (0, []))))), (179, (.iaload, (sv_N, (180, (0, []))))), (180, (.iastore, (sv_N, (181, (0, []))))), (181, (.iinc 6 1, (.inl (1 : Int32), (184, (0, []))))), (184, (.goto (-34), (sv_N, (187, (150, []))))), (187, (.iload 5, (sv_N, (189, (0, []))))), (189, (.ireturn, (sv_N, (190, (0, [])))))]
noncomputable def ev_Mo_lay : sv_E := (fun i => sv_lk i fl_12, (fun i => sv_lk i kc_12, (fun _ => false, (true, fun pc => sv_lk pc [(16, (2, .inl n_Mo_isDrummer)), (28, (1, .inl n_Mo_isSheet)), (42, (1, .inl n_Mo_isSlot)), (102, (3, .inl n_Mo_of)), (122, (2, .inl n_Mo_worth))]))))
noncomputable def kk_Mo_lay_150 (n : Nat) : sv_K (Int32 × sv_S) := fun pc => sv_lk pc [(150, fun lo st σ => match lo, st with
    | [some (.inr (.inr (some (30, 0)))), some (.inl x1), _, some (.inl x3), _, some (.inl x5), some (.inl x6)], [] => f_Mo_lay_150 n x1 x3 x5 x6 σ
    | _, _ => none)]
set_option maxRecDepth 20000 in
theorem e_Mo_lay_150 (n : Nat) (x1 : Int32) (x3 : Int32) (x5 : Int32) (x6 : Int32) (z2 z4 : Option sv_V) (σ : sv_S) : sv_ex ev_Mo_lay sv_rI (kk_Mo_lay_150 n) cd_Mo_lay 112 150 [some (.inr (.inr (some (30, 0)))), some (.inl x1), z2, some (.inl x3), z4, some (.inl x5), some (.inl x6)] [] σ = f_Mo_lay_150 (n + 1) x1 x3 x5 x6 σ := by
  rw [f_Mo_lay_150.eq_2]
  delta ev_Mo_lay kk_Mo_lay_150 n_Mo_isDrummer n_Mo_isSheet n_Mo_isSlot n_Mo_of n_Mo_worth
  generalize f_Mo_isDrummer = c0
  generalize f_Mo_isSheet = c1
  generalize f_Mo_isSlot = c2
  generalize f_Mo_of = c3
  generalize f_Mo_worth = c4
  generalize f_Mo_lay_150 = c5
  rfl
noncomputable def kk_Mo_lay_129 : sv_K (Int32 × sv_S) := fun pc => sv_lk pc [(150, fun lo st σ => match lo, st with
    | [some (.inr (.inr (some (30, 0)))), some (.inl x1), _, some (.inl x3), _, some (.inl x5), some (.inl x6)], [] => f_Mo_lay_150 sv_fu x1 x3 x5 x6 σ
    | _, _ => none)]
set_option maxRecDepth 20000 in
theorem e_Mo_lay_129 (x1 : Int32) (x2 : Int32) (x3 : Int32) (x5 : Int32) (y0 : Int32) (y1 : Int32) (y2 : Nat) (z4 z6 : Option sv_V) (σ : sv_S) : sv_ex ev_Mo_lay sv_rI (kk_Mo_lay_129) cd_Mo_lay 112 129 [some (.inr (.inr (some (30, 0)))), some (.inl x1), some (.inl x2), some (.inl x3), z4, some (.inl x5), z6] [.inl y0, .inl y1, .inr (.inr (some (31, y2)))] σ = f_Mo_lay_129 x1 x2 x3 x5 y0 y1 y2 σ := by
  unfold f_Mo_lay_129
  delta ev_Mo_lay kk_Mo_lay_129 n_Mo_isDrummer n_Mo_isSheet n_Mo_isSlot n_Mo_of n_Mo_worth
  generalize f_Mo_isDrummer = c0
  generalize f_Mo_isSheet = c1
  generalize f_Mo_isSlot = c2
  generalize f_Mo_of = c3
  generalize f_Mo_worth = c4
  generalize f_Mo_lay_150 = c5
  rfl
noncomputable def kk_Mo_lay_109 : sv_K (Int32 × sv_S) := fun pc => sv_lk pc [(129, fun lo st σ => match lo, st with
    | [some (.inr (.inr (some (30, 0)))), some (.inl x1), some (.inl x2), some (.inl x3), _, some (.inl x5), _], [.inl y0, .inl y1, .inr (.inr (some (31, y2)))] => f_Mo_lay_129 x1 x2 x3 x5 y0 y1 y2 σ
    | _, _ => none)]
set_option maxRecDepth 20000 in
theorem e_Mo_lay_109 (x1 : Int32) (x2 : Int32) (x3 : Int32) (x5 : Int32) (y0 : Int32) (y1 : Int32) (y2 : Nat) (z4 z6 : Option sv_V) (σ : sv_S) : sv_ex ev_Mo_lay sv_rI (kk_Mo_lay_109) cd_Mo_lay 112 109 [some (.inr (.inr (some (30, 0)))), some (.inl x1), some (.inl x2), some (.inl x3), z4, some (.inl x5), z6] [.inl y0, .inl y1, .inr (.inr (some (31, y2)))] σ = f_Mo_lay_109 x1 x2 x3 x5 y0 y1 y2 σ := by
  unfold f_Mo_lay_109
  delta ev_Mo_lay kk_Mo_lay_109 n_Mo_isDrummer n_Mo_isSheet n_Mo_isSlot n_Mo_of n_Mo_worth
  generalize f_Mo_isDrummer = c0
  generalize f_Mo_isSheet = c1
  generalize f_Mo_isSlot = c2
  generalize f_Mo_of = c3
  generalize f_Mo_worth = c4
  generalize f_Mo_lay_129 = c5
  rfl
noncomputable def kk_Mo_lay_74 : sv_K (Int32 × sv_S) := fun pc => sv_lk pc [(109, fun lo st σ => match lo, st with
    | [some (.inr (.inr (some (30, 0)))), some (.inl x1), some (.inl x2), some (.inl x3), _, some (.inl x5), _], [.inl y0, .inl y1, .inr (.inr (some (31, y2)))] => f_Mo_lay_109 x1 x2 x3 x5 y0 y1 y2 σ
    | _, _ => none)]
set_option maxRecDepth 20000 in
theorem e_Mo_lay_74 (x1 : Int32) (x2 : Int32) (x3 : Int32) (z4 z5 z6 : Option sv_V) (σ : sv_S) : sv_ex ev_Mo_lay sv_rI (kk_Mo_lay_74) cd_Mo_lay 112 74 [some (.inr (.inr (some (30, 0)))), some (.inl x1), some (.inl x2), some (.inl x3), z4, z5, z6] [] σ = f_Mo_lay_74 x1 x2 x3 σ := by
  unfold f_Mo_lay_74
  delta ev_Mo_lay kk_Mo_lay_74 n_Mo_isDrummer n_Mo_isSheet n_Mo_isSlot n_Mo_of n_Mo_worth
  generalize f_Mo_isDrummer = c0
  generalize f_Mo_isSheet = c1
  generalize f_Mo_isSlot = c2
  generalize f_Mo_of = c3
  generalize f_Mo_worth = c4
  generalize f_Mo_lay_109 = c5
  rfl
noncomputable def kk_Mo_lay_39 : sv_K (Int32 × sv_S) := fun pc => sv_lk pc [(74, fun lo st σ => match lo, st with
    | [some (.inr (.inr (some (30, 0)))), some (.inl x1), some (.inl x2), some (.inl x3), _, _, _], [] => f_Mo_lay_74 x1 x2 x3 σ
    | _, _ => none)]
set_option maxRecDepth 20000 in
theorem e_Mo_lay_39 (x1 : Int32) (x2 : Int32) (x3 : Int32) (y0 : Int32) (z4 z5 z6 : Option sv_V) (σ : sv_S) : sv_ex ev_Mo_lay sv_rI (kk_Mo_lay_39) cd_Mo_lay 112 39 [some (.inr (.inr (some (30, 0)))), some (.inl x1), some (.inl x2), some (.inl x3), z4, z5, z6] [.inl y0] σ = f_Mo_lay_39 x1 x2 x3 y0 σ := by
  unfold f_Mo_lay_39
  delta ev_Mo_lay kk_Mo_lay_39 n_Mo_isDrummer n_Mo_isSheet n_Mo_isSlot n_Mo_of n_Mo_worth
  generalize f_Mo_isDrummer = c0
  generalize f_Mo_isSheet = c1
  generalize f_Mo_isSlot = c2
  generalize f_Mo_of = c3
  generalize f_Mo_worth = c4
  generalize f_Mo_lay_74 = c5
  rfl
noncomputable def kk_Mo_lay_22 : sv_K (Int32 × sv_S) := fun pc => sv_lk pc [(39, fun lo st σ => match lo, st with
    | [some (.inr (.inr (some (30, 0)))), some (.inl x1), some (.inl x2), some (.inl x3), _, _, _], [.inl y0] => f_Mo_lay_39 x1 x2 x3 y0 σ
    | _, _ => none)]
set_option maxRecDepth 20000 in
theorem e_Mo_lay_22 (x1 : Int32) (x2 : Int32) (x3 : Int32) (z4 z5 z6 : Option sv_V) (σ : sv_S) : sv_ex ev_Mo_lay sv_rI (kk_Mo_lay_22) cd_Mo_lay 112 22 [some (.inr (.inr (some (30, 0)))), some (.inl x1), some (.inl x2), some (.inl x3), z4, z5, z6] [] σ = f_Mo_lay_22 x1 x2 x3 σ := by
  unfold f_Mo_lay_22
  delta ev_Mo_lay kk_Mo_lay_22 n_Mo_isDrummer n_Mo_isSheet n_Mo_isSlot n_Mo_of n_Mo_worth
  generalize f_Mo_isDrummer = c0
  generalize f_Mo_isSheet = c1
  generalize f_Mo_isSlot = c2
  generalize f_Mo_of = c3
  generalize f_Mo_worth = c4
  generalize f_Mo_lay_39 = c5
  rfl
noncomputable def kk_Mo_lay : sv_K (Int32 × sv_S) := fun pc => sv_lk pc [(22, fun lo st σ => match lo, st with
    | [some (.inr (.inr (some (30, 0)))), some (.inl x1), some (.inl x2), some (.inl x3), _, _, _], [] => f_Mo_lay_22 x1 x2 x3 σ
    | _, _ => none),
  (39, fun lo st σ => match lo, st with
    | [some (.inr (.inr (some (30, 0)))), some (.inl x1), some (.inl x2), some (.inl x3), _, _, _], [.inl y0] => f_Mo_lay_39 x1 x2 x3 y0 σ
    | _, _ => none)]
set_option maxRecDepth 20000 in
theorem e_Mo_lay (a1 : Int32) (a2 : Int32) (a3 : Int32) (σ : sv_S) : sv_ex ev_Mo_lay sv_rI kk_Mo_lay cd_Mo_lay 112 0 [some (.inr (.inr (some (30, 0)))), some (.inl a1), some (.inl a2), some (.inl a3), none, none, none] [] σ = f_Mo_lay a1 a2 a3 σ := by
  unfold f_Mo_lay
  delta ev_Mo_lay kk_Mo_lay n_Mo_isDrummer n_Mo_isSheet n_Mo_isSlot n_Mo_of n_Mo_worth
  generalize f_Mo_isDrummer = c0
  generalize f_Mo_isSheet = c1
  generalize f_Mo_isSlot = c2
  generalize f_Mo_of = c3
  generalize f_Mo_worth = c4
  generalize f_Mo_lay_22 = c5
  generalize f_Mo_lay_39 = c6
  rfl
theorem d_Mo_lay : cd_Mo_lay.all (sv_dk cX12_lay) = true := by decide +kernel
set_option maxRecDepth 20000 in
theorem w_Mo_lay_150 {Γ : sv_Ga} {res : Int32 × sv_S} (X : sv_Ok Γ ev_Mo_lay cX12_lay sv_rI res) : ∀ (n : Nat) (x1 : Int32) (x3 : Int32) (x5 : Int32) (x6 : Int32) (z2 z4 : Option sv_V) (σ : sv_S), f_Mo_lay_150 n x1 x3 x5 x6 σ = some res → sv_T Γ 150 [some (.inr (.inr (some (30, 0)))), some (.inl x1), z2, some (.inl x3), z4, some (.inl x5), some (.inl x6)] [] σ := by
  intro n
  induction n with
  | zero =>
    intro x1 x3 x5 x6 z2 z4 σ h
    rw [f_Mo_lay_150.eq_1] at h
    cases h
  | succ n ih =>
    intro x1 x3 x5 x6 z2 z4 σ h
    refine sv_run X d_Mo_lay (K := kk_Mo_lay_150 n) (sv_lk_all (P := fun pc (k : sv_Lo → List sv_V → sv_S → Option (Int32 × sv_S)) => ∀ lo st σ, k lo st σ = some res → sv_T Γ pc lo st σ) ?_) _ _ _ _ _ ((e_Mo_lay_150 n x1 x3 x5 x6 z2 z4 σ).trans h)
    clear h
    refine List.forall_mem_cons.mpr ⟨fun lo st σ h => ?_, fun _ h => absurd h List.not_mem_nil⟩
    · dsimp only at h
      split at h
      · exact ih _ _ _ _ _ _ _ h
      · cases h

set_option maxRecDepth 20000 in
theorem w_Mo_lay_129 {Γ : sv_Ga} {res : Int32 × sv_S} (X : sv_Ok Γ ev_Mo_lay cX12_lay sv_rI res) : ∀ (x1 : Int32) (x2 : Int32) (x3 : Int32) (x5 : Int32) (y0 : Int32) (y1 : Int32) (y2 : Nat) (z4 z6 : Option sv_V) (σ : sv_S), f_Mo_lay_129 x1 x2 x3 x5 y0 y1 y2 σ = some res → sv_T Γ 129 [some (.inr (.inr (some (30, 0)))), some (.inl x1), some (.inl x2), some (.inl x3), z4, some (.inl x5), z6] [.inl y0, .inl y1, .inr (.inr (some (31, y2)))] σ := by
  intro x1 x2 x3 x5 y0 y1 y2 z4 z6 σ h
  refine sv_run X d_Mo_lay (K := kk_Mo_lay_129) (sv_lk_all (P := fun pc (k : sv_Lo → List sv_V → sv_S → Option (Int32 × sv_S)) => ∀ lo st σ, k lo st σ = some res → sv_T Γ pc lo st σ) ?_) _ _ _ _ _ ((e_Mo_lay_129 x1 x2 x3 x5 y0 y1 y2 z4 z6 σ).trans h)
  clear h
  refine List.forall_mem_cons.mpr ⟨fun lo st σ h => ?_, fun _ h => absurd h List.not_mem_nil⟩
  · dsimp only at h
    split at h
    · exact w_Mo_lay_150 X _ _ _ _ _ _ _ _ h
    · cases h

set_option maxRecDepth 20000 in
theorem w_Mo_lay_109 {Γ : sv_Ga} {res : Int32 × sv_S} (X : sv_Ok Γ ev_Mo_lay cX12_lay sv_rI res) : ∀ (x1 : Int32) (x2 : Int32) (x3 : Int32) (x5 : Int32) (y0 : Int32) (y1 : Int32) (y2 : Nat) (z4 z6 : Option sv_V) (σ : sv_S), f_Mo_lay_109 x1 x2 x3 x5 y0 y1 y2 σ = some res → sv_T Γ 109 [some (.inr (.inr (some (30, 0)))), some (.inl x1), some (.inl x2), some (.inl x3), z4, some (.inl x5), z6] [.inl y0, .inl y1, .inr (.inr (some (31, y2)))] σ := by
  intro x1 x2 x3 x5 y0 y1 y2 z4 z6 σ h
  refine sv_run X d_Mo_lay (K := kk_Mo_lay_109) (sv_lk_all (P := fun pc (k : sv_Lo → List sv_V → sv_S → Option (Int32 × sv_S)) => ∀ lo st σ, k lo st σ = some res → sv_T Γ pc lo st σ) ?_) _ _ _ _ _ ((e_Mo_lay_109 x1 x2 x3 x5 y0 y1 y2 z4 z6 σ).trans h)
  clear h
  refine List.forall_mem_cons.mpr ⟨fun lo st σ h => ?_, fun _ h => absurd h List.not_mem_nil⟩
  · dsimp only at h
    split at h
    · exact w_Mo_lay_129 X _ _ _ _ _ _ _ _ _ _ h
    · cases h

set_option maxRecDepth 20000 in
theorem w_Mo_lay_74 {Γ : sv_Ga} {res : Int32 × sv_S} (X : sv_Ok Γ ev_Mo_lay cX12_lay sv_rI res) : ∀ (x1 : Int32) (x2 : Int32) (x3 : Int32) (z4 z5 z6 : Option sv_V) (σ : sv_S), f_Mo_lay_74 x1 x2 x3 σ = some res → sv_T Γ 74 [some (.inr (.inr (some (30, 0)))), some (.inl x1), some (.inl x2), some (.inl x3), z4, z5, z6] [] σ := by
  intro x1 x2 x3 z4 z5 z6 σ h
  refine sv_run X d_Mo_lay (K := kk_Mo_lay_74) (sv_lk_all (P := fun pc (k : sv_Lo → List sv_V → sv_S → Option (Int32 × sv_S)) => ∀ lo st σ, k lo st σ = some res → sv_T Γ pc lo st σ) ?_) _ _ _ _ _ ((e_Mo_lay_74 x1 x2 x3 z4 z5 z6 σ).trans h)
  clear h
  refine List.forall_mem_cons.mpr ⟨fun lo st σ h => ?_, fun _ h => absurd h List.not_mem_nil⟩
  · dsimp only at h
    split at h
    · exact w_Mo_lay_109 X _ _ _ _ _ _ _ _ _ _ h
    · cases h

set_option maxRecDepth 20000 in
theorem w_Mo_lay_39 {Γ : sv_Ga} {res : Int32 × sv_S} (X : sv_Ok Γ ev_Mo_lay cX12_lay sv_rI res) : ∀ (x1 : Int32) (x2 : Int32) (x3 : Int32) (y0 : Int32) (z4 z5 z6 : Option sv_V) (σ : sv_S), f_Mo_lay_39 x1 x2 x3 y0 σ = some res → sv_T Γ 39 [some (.inr (.inr (some (30, 0)))), some (.inl x1), some (.inl x2), some (.inl x3), z4, z5, z6] [.inl y0] σ := by
  intro x1 x2 x3 y0 z4 z5 z6 σ h
  refine sv_run X d_Mo_lay (K := kk_Mo_lay_39) (sv_lk_all (P := fun pc (k : sv_Lo → List sv_V → sv_S → Option (Int32 × sv_S)) => ∀ lo st σ, k lo st σ = some res → sv_T Γ pc lo st σ) ?_) _ _ _ _ _ ((e_Mo_lay_39 x1 x2 x3 y0 z4 z5 z6 σ).trans h)
  clear h
  refine List.forall_mem_cons.mpr ⟨fun lo st σ h => ?_, fun _ h => absurd h List.not_mem_nil⟩
  · dsimp only at h
    split at h
    · exact w_Mo_lay_74 X _ _ _ _ _ _ _ h
    · cases h

set_option maxRecDepth 20000 in
theorem w_Mo_lay_22 {Γ : sv_Ga} {res : Int32 × sv_S} (X : sv_Ok Γ ev_Mo_lay cX12_lay sv_rI res) : ∀ (x1 : Int32) (x2 : Int32) (x3 : Int32) (z4 z5 z6 : Option sv_V) (σ : sv_S), f_Mo_lay_22 x1 x2 x3 σ = some res → sv_T Γ 22 [some (.inr (.inr (some (30, 0)))), some (.inl x1), some (.inl x2), some (.inl x3), z4, z5, z6] [] σ := by
  intro x1 x2 x3 z4 z5 z6 σ h
  refine sv_run X d_Mo_lay (K := kk_Mo_lay_22) (sv_lk_all (P := fun pc (k : sv_Lo → List sv_V → sv_S → Option (Int32 × sv_S)) => ∀ lo st σ, k lo st σ = some res → sv_T Γ pc lo st σ) ?_) _ _ _ _ _ ((e_Mo_lay_22 x1 x2 x3 z4 z5 z6 σ).trans h)
  clear h
  refine List.forall_mem_cons.mpr ⟨fun lo st σ h => ?_, fun _ h => absurd h List.not_mem_nil⟩
  · dsimp only at h
    split at h
    · exact w_Mo_lay_39 X _ _ _ _ _ _ _ _ h
    · cases h

set_option maxRecDepth 20000 in
theorem b_Mo_lay (Γ : sv_Ga) (res : Int32 × sv_S) (X : sv_Ok Γ ev_Mo_lay cX12_lay sv_rI res) (as : List sv_V) (σ : sv_S) (h : n_Mo_lay as σ = some res) : sv_T Γ 0 (sv_e0 7 as) [] σ := by
  unfold n_Mo_lay at h
  split at h
  · refine sv_run X d_Mo_lay (K := kk_Mo_lay) (sv_lk_all (P := fun pc (k : sv_Lo → List sv_V → sv_S → Option (Int32 × sv_S)) => ∀ lo st σ, k lo st σ = some res → sv_T Γ pc lo st σ) ?_) _ _ _ _ _ ((e_Mo_lay _ _ _ _).trans h)
    clear h
    refine List.forall_mem_cons.mpr ⟨fun lo st σ h => ?_, List.forall_mem_cons.mpr ⟨fun lo st σ h => ?_, fun _ h => absurd h List.not_mem_nil⟩⟩
    · dsimp only at h
      split at h
      · exact w_Mo_lay_22 X _ _ _ _ _ _ _ h
      · cases h
    · dsimp only at h
      split at h
      · exact w_Mo_lay_39 X _ _ _ _ _ _ _ _ h
      · cases h
  · cases h
theorem a_Mo_lay (as : List sv_V) (σ : sv_S) (x : Int32 × sv_S) (h : n_Mo_lay as σ = some x) : sv_args 7 ev_Mo_lay.2.2.2.1 as := by
  unfold n_Mo_lay at h
  split at h
  · exact ⟨Nat.le_of_ble_eq_true rfl, fun _ v hv => by
      simp only [List.mem_cons, List.not_mem_nil, or_false] at hv
      rcases hv with rfl | rfl | rfl | rfl <;> trivial⟩
  · cases h
theorem g_Mo_lay (as : List sv_V) (σ : sv_S) (x : Option sv_V × sv_S) (h : sv_gI n_Mo_lay as σ = some x) : ∃ r i as', as = sv_R r i :: as' ∧ sv_kd r i = .inl 12 := by
  obtain ⟨_, _, h, -⟩ := sv_b_some h
  unfold n_Mo_lay at h
  split at h
  · exact ⟨_, _, _, rfl, rfl⟩
  · cases h
theorem tw_1445 : Cond.methodLink RX12 314 yX12_isSlot ∈ gw_tbl := gw_at 1445 (by decide +kernel) rfl
theorem tw_1446 : Cond.static yX12_isSlot ∈ gw_tbl := gw_at 1446 (by decide +kernel) rfl
theorem tw_1447 : Cond.code yX12_isSlot cX12_isSlot 1 (some .boolean) ∈ gw_tbl := gw_at 1447 (by decide +kernel) rfl
set_option maxRecDepth 20000 in
theorem m_Mo_lay (l : Launch) : sv_M l yX12_lay cX12_lay 7 (some .int) (sv_gI n_Mo_lay) 2 := by
  refine sv_mI (E := ev_Mo_lay) (by decide +kernel) (ln_gen fk_12 kk_12 (sv_ns _ (fun _ => rfl) _)) ?_ a_Mo_lay b_Mo_lay
  intro p e R s m args below meth c cells slots Q base ad dC dI cA n0 S hkn hR hf pc n f h
  refine sv_lk_all (P := fun pc (x : Nat × sv_F) => sv_cok p l e R s m args below meth c cells slots Q base ad dC dI cA true 7 n0 pc x.1 x.2) ?_ pc (n, f) h
  exact List.forall_mem_cons.mpr ⟨(sv_cV S hkn (m_Mo_isDrummer l) ⟨Nat.le_trans (by decide) hR.1, Nat.le_trans (by decide) hR.2⟩ (by decide) hf rfl g_Mo_isDrummer (sv_w5 tw_1116 tw_1118 tw_9 tw_65 tw_1119) (by decide +kernel) (sv_dc3 d_Mo_lay (pc := 16) rfl rfl)).I,
      List.forall_mem_cons.mpr ⟨(sv_cS S hkn (m_Mo_isSheet l) ⟨Nat.le_trans (by decide) hR.1, Nat.le_trans (by decide) hR.2⟩ (by decide) hf (sv_w4 tw_1409 tw_1410 tw_65 tw_1411) (by decide +kernel) (sv_dc3 d_Mo_lay (pc := 28) rfl rfl)).I,
      List.forall_mem_cons.mpr ⟨(sv_cS S hkn (m_Mo_isSlot l) ⟨Nat.le_trans (by decide) hR.1, Nat.le_trans (by decide) hR.2⟩ (by decide) hf (sv_w4 tw_1445 tw_1446 tw_65 tw_1447) (by decide +kernel) (sv_dc3 d_Mo_lay (pc := 42) rfl rfl)).I,
      List.forall_mem_cons.mpr ⟨(sv_cV S hkn (m_Mo_of l) ⟨Nat.le_trans (by decide) hR.1, Nat.le_trans (by decide) hR.2⟩ (by decide) hf rfl g_Mo_of (sv_w5 tw_1120 tw_1122 tw_10 tw_65 tw_1123) (by decide +kernel) (sv_dc3 d_Mo_lay (pc := 102) rfl rfl)).I,
      List.forall_mem_cons.mpr ⟨(sv_cV S hkn (m_Mo_worth l) ⟨Nat.le_trans (by decide) hR.1, Nat.le_trans (by decide) hR.2⟩ (by decide) hf rfl g_Mo_worth (sv_w5 tw_1167 tw_1169 tw_20 tw_65 tw_1170) (by decide +kernel) (sv_dc3 d_Mo_lay (pc := 122) rfl rfl)).I,
      fun _ h => absurd h List.not_mem_nil⟩⟩⟩⟩⟩
noncomputable def f_Mo_ask (a1 : Int32) (a2 : Int32) (σ : sv_S) : Option (Int32 × sv_S) :=
  sv_b (f_Mo_isSlot a1 σ) (fun v1 σ2 =>
    sv_if (v1 = 0)
      (some ((-1000000001 : Int32), σ2))
      (sv_b (f_Mo_isIn (a2.toInt64) (0 : Int64) (5 : Int64) σ2) (fun v3 σ4 =>
        sv_if (v3 = 0)
          (some ((-1000000001 : Int32), σ4))
          (sv_g (sv_in a1 5) (sv_if ((σ4 31 7 (a1.toNatClampNeg)) = 0)
            (some ((-1000000011 : Int32), σ4))
            (sv_g (sv_in a1 5) (sv_if ((σ4 31 7 (a1.toNatClampNeg)) = (1 : Int32))
              (sv_g (sv_in a1 5) (sv_b (f_Mo_isOf (σ4 31 8 (a1.toNatClampNeg)) a2 σ4) (fun v5 σ6 =>
                sv_if (v5 = 0)
                  (some ((-1000000012 : Int32), σ6))
                  (sv_g (sv_in a1 5) (some (σ6 31 9 (a1.toNatClampNeg), σ6))))))
              (some ((-1000000012 : Int32), σ4)))))))))
noncomputable def n_Mo_ask : List sv_V → sv_S → Option (Int32 × sv_S)
  | [.inr (.inr (some (30, 0))), .inl a1, .inl a2], σ => f_Mo_ask a1 a2 σ
  | _, _ => none
def cd_Mo_ask : sv_C := [(0, (.iload_n 1, (sv_N, (1, (0, []))))), (1, (.invokestatic 314, (sv_N, (4, (0, []))))), (4, (.ifCond .eq 15, (sv_N, (7, (19, []))))), (7, (.iload_n 2, (sv_N, (8, (0, []))))), (8, (.i2l, (sv_N, (9, (0, []))))), (9, (.lconst 0, (.inr (.inl (0 : Int64)), (10, (0, []))))), (10, (.ldc2_w 80, (sv_N, (13, (0, []))))), (13, (.invokestatic 71, (sv_N, (16, (0, []))))), (16, (.ifCond .ne 6, (sv_N, (19, (22, []))))), (19, (.ldc 84, (sv_N, (21, (0, []))))), (21, (.ireturn, (sv_N, (22, (0, []))))), (22, (.aload_n 0, (sv_N, (23, (0, []))))), (23, (.getfield 28, (sv_N, (26, (0, []))))), (26, (.iload_n 1, (sv_N, (27, (0, []))))), (27, (.iaload, (sv_N, (28, (0, []))))), (28, (.ifCond .ne 7, (sv_N, (31, (35, []))))), (31, (.ldc_w 303, (sv_N, (34, (0, []))))), (34, (.ireturn, (sv_N, (35, (0, []))))), (35, (.aload_n 0, (sv_N, (36, (0, []))))), (36, (.getfield 28, (sv_N, (39, (0, []))))), (39, (.iload_n 1, (sv_N, (40, (0, []))))), (40, (.iaload, (sv_N, (41, (0, []))))), (41, (.iconst 1, (.inl (1 : Int32), (42, (0, []))))), (42, (.if_icmp .ne 25, (sv_N, (45, (67, []))))), (45, (.aload_n 0, (sv_N, (46, (0, []))))), (46, (.getfield 31, (sv_N, (49, (0, []))))), (49, (.iload_n 1, (sv_N, (50, (0, []))))), (50, (.iaload, (sv_N, (51, (0, []))))), (51, (.iload_n 2, (sv_N, (52, (0, []))))), (52, (.invokestatic 129, (sv_N, (55, (0, []))))), (55, (.ifCond .eq 12, (sv_N, (58, (67, []))))), (58, (.aload_n 0, (sv_N, (59, (0, []))))), (59, (.getfield 34, (sv_N, (62, (0, []))))), (62, (.iload_n 1, (sv_N, (63, (0, []))))), (63, (.iaload, (sv_N, (64, (0, []))))), (64, (.goto 5, (sv_N, (67, (69, []))))), (67, (.ldc 133, (sv_N, (69, (0, []))))), (69, (.ireturn, (sv_N, (70, (0, [])))))]
noncomputable def ev_Mo_ask : sv_E := (fun i => sv_lk i fl_12, (fun i => sv_lk i kc_12, (fun _ => false, (true, fun pc => sv_lk pc [(1, (1, .inl n_Mo_isSlot)), (13, (3, .inl n_Mo_isIn)), (52, (2, .inl n_Mo_isOf))]))))
noncomputable def kk_Mo_ask : sv_K (Int32 × sv_S) := fun pc => sv_lk pc []
set_option maxRecDepth 20000 in
theorem e_Mo_ask (a1 : Int32) (a2 : Int32) (σ : sv_S) : sv_ex ev_Mo_ask sv_rI kk_Mo_ask cd_Mo_ask 40 0 [some (.inr (.inr (some (30, 0)))), some (.inl a1), some (.inl a2)] [] σ = f_Mo_ask a1 a2 σ := by
  unfold f_Mo_ask
  delta ev_Mo_ask kk_Mo_ask n_Mo_isSlot n_Mo_isIn n_Mo_isOf
  generalize f_Mo_isSlot = c0
  generalize f_Mo_isIn = c1
  generalize f_Mo_isOf = c2
  rfl
theorem d_Mo_ask : cd_Mo_ask.all (sv_dk cX12_ask) = true := by decide +kernel
set_option maxRecDepth 20000 in
theorem b_Mo_ask (Γ : sv_Ga) (res : Int32 × sv_S) (X : sv_Ok Γ ev_Mo_ask cX12_ask sv_rI res) (as : List sv_V) (σ : sv_S) (h : n_Mo_ask as σ = some res) : sv_T Γ 0 (sv_e0 3 as) [] σ := by
  unfold n_Mo_ask at h
  split at h
  · refine sv_run X d_Mo_ask (K := kk_Mo_ask) (sv_lk_all (P := fun pc (k : sv_Lo → List sv_V → sv_S → Option (Int32 × sv_S)) => ∀ lo st σ, k lo st σ = some res → sv_T Γ pc lo st σ) ?_) _ _ _ _ _ ((e_Mo_ask _ _ _).trans h)
    clear h
    exact fun _ h => absurd h List.not_mem_nil
  · cases h
theorem a_Mo_ask (as : List sv_V) (σ : sv_S) (x : Int32 × sv_S) (h : n_Mo_ask as σ = some x) : sv_args 3 ev_Mo_ask.2.2.2.1 as := by
  unfold n_Mo_ask at h
  split at h
  · exact ⟨Nat.le_of_ble_eq_true rfl, fun _ v hv => by
      simp only [List.mem_cons, List.not_mem_nil, or_false] at hv
      rcases hv with rfl | rfl | rfl <;> trivial⟩
  · cases h
theorem g_Mo_ask (as : List sv_V) (σ : sv_S) (x : Option sv_V × sv_S) (h : sv_gI n_Mo_ask as σ = some x) : ∃ r i as', as = sv_R r i :: as' ∧ sv_kd r i = .inl 12 := by
  obtain ⟨_, _, h, -⟩ := sv_b_some h
  unfold n_Mo_ask at h
  split at h
  · exact ⟨_, _, _, rfl, rfl⟩
  · cases h

set_option maxRecDepth 20000 in
theorem m_Mo_ask (l : Launch) : sv_M l yX12_ask cX12_ask 3 (some .int) (sv_gI n_Mo_ask) 2 := by
  refine sv_mI (E := ev_Mo_ask) (by decide +kernel) (ln_gen fk_12 kk_12 (sv_ns _ (fun _ => rfl) _)) ?_ a_Mo_ask b_Mo_ask
  intro p e R s m args below meth c cells slots Q base ad dC dI cA n0 S hkn hR hf pc n f h
  refine sv_lk_all (P := fun pc (x : Nat × sv_F) => sv_cok p l e R s m args below meth c cells slots Q base ad dC dI cA true 3 n0 pc x.1 x.2) ?_ pc (n, f) h
  exact List.forall_mem_cons.mpr ⟨(sv_cS S hkn (m_Mo_isSlot l) ⟨Nat.le_trans (by decide) hR.1, Nat.le_trans (by decide) hR.2⟩ (by decide) hf (sv_w4 tw_1445 tw_1446 tw_65 tw_1447) (by decide +kernel) (sv_dc3 d_Mo_ask (pc := 1) rfl rfl)).I,
      List.forall_mem_cons.mpr ⟨(sv_cS S hkn (m_Mo_isIn l) ⟨Nat.le_trans (by decide) hR.1, Nat.le_trans (by decide) hR.2⟩ (by decide) hf (sv_w4 tw_1098 tw_1099 tw_65 tw_1100) (by decide +kernel) (sv_dc3 d_Mo_ask (pc := 13) rfl rfl)).I,
      List.forall_mem_cons.mpr ⟨(sv_cS S hkn (m_Mo_isOf l) ⟨Nat.le_trans (by decide) hR.1, Nat.le_trans (by decide) hR.2⟩ (by decide) hf (sv_w4 tw_1175 tw_1176 tw_65 tw_1177) (by decide +kernel) (sv_dc3 d_Mo_ask (pc := 52) rfl rfl)).I,
      fun _ h => absurd h List.not_mem_nil⟩⟩⟩
noncomputable def f_Mo_item (a1 : Int32) (a2 : Int32) (σ : sv_S) : Option (Int32 × sv_S) :=
  sv_b (f_Mo_isSlot a1 σ) (fun v1 σ2 =>
    sv_if (v1 = 0)
      (some ((-1000000001 : Int32), σ2))
      (sv_g (sv_in a1 5) (sv_if ((σ2 31 7 (a1.toNatClampNeg)) = (2 : Int32))
        (sv_g (sv_in a1 5) (sv_b (f_Mo_isIn (a2.toInt64) (0 : Int64) (((σ2 31 10 (a1.toNatClampNeg)) - (1 : Int32)).toInt64) σ2) (fun v3 σ4 =>
          sv_if (v3 = 0)
            (some ((-1000000013 : Int32), σ4))
            (sv_g (sv_in (((24 : Int32) * a1) + a2) 120) (sv_if ((σ4 31 11 ((((24 : Int32) * a1) + a2).toNatClampNeg)) = (-1000000005 : Int32))
              (some ((-1000000012 : Int32), σ4))
              (some (σ4 31 11 ((((24 : Int32) * a1) + a2).toNatClampNeg), σ4)))))))
        (sv_g (sv_in a1 5) (sv_if ((σ2 31 7 (a1.toNatClampNeg)) = 0)
          (some ((-1000000011 : Int32), σ2))
          (some ((-1000000012 : Int32), σ2)))))))
noncomputable def n_Mo_item : List sv_V → sv_S → Option (Int32 × sv_S)
  | [.inr (.inr (some (30, 0))), .inl a1, .inl a2], σ => f_Mo_item a1 a2 σ
  | _, _ => none
def cd_Mo_item : sv_C := [(0, (.iload_n 1, (sv_N, (1, (0, []))))), (1, (.invokestatic 314, (sv_N, (4, (0, []))))), (4, (.ifCond .ne 6, (sv_N, (7, (10, []))))), (7, (.ldc 84, (sv_N, (9, (0, []))))), (9, (.ireturn, (sv_N, (10, (0, []))))), (10, (.aload_n 0, (sv_N, (11, (0, []))))), (11, (.getfield 28, (sv_N, (14, (0, []))))), (14, (.iload_n 1, (sv_N, (15, (0, []))))), (15, (.iaload, (sv_N, (16, (0, []))))), (16, (.iconst 2, (.inl (2 : Int32), (17, (0, []))))), (17, (.if_icmp .eq 21, (sv_N, (20, (38, []))))), (20, (.aload_n 0, (sv_N, (21, (0, []))))), (21, (.getfield 28, (sv_N, (24, (0, []))))), (24, (.iload_n 1, (sv_N, (25, (0, []))))), (25, (.iaload, (sv_N, (26, (0, []))))), (26, (.ifCond .ne 9, (sv_N, (29, (35, []))))), (29, (.ldc_w 303, (sv_N, (32, (0, []))))), (32, (.goto 5, (sv_N, (35, (37, []))))), (35, (.ldc 133, (sv_N, (37, (0, []))))), (37, (.ireturn, (sv_N, (38, (0, []))))), (38, (.iload_n 2, (sv_N, (39, (0, []))))), (39, (.i2l, (sv_N, (40, (0, []))))), (40, (.lconst 0, (.inr (.inl (0 : Int64)), (41, (0, []))))), (41, (.aload_n 0, (sv_N, (42, (0, []))))), (42, (.getfield 37, (sv_N, (45, (0, []))))), (45, (.iload_n 1, (sv_N, (46, (0, []))))), (46, (.iaload, (sv_N, (47, (0, []))))), (47, (.iconst 1, (.inl (1 : Int32), (48, (0, []))))), (48, (.isub, (sv_N, (49, (0, []))))), (49, (.i2l, (sv_N, (50, (0, []))))), (50, (.invokestatic 71, (sv_N, (53, (0, []))))), (53, (.ifCond .ne 7, (sv_N, (56, (60, []))))), (56, (.ldc_w 304, (sv_N, (59, (0, []))))), (59, (.ireturn, (sv_N, (60, (0, []))))), (60, (.aload_n 0, (sv_N, (61, (0, []))))), (61, (.getfield 40, (sv_N, (64, (0, []))))), (64, (.bipush 24, (.inl (24 : Int32), (66, (0, []))))), (66, (.iload_n 1, (sv_N, (67, (0, []))))), (67, (.imul, (sv_N, (68, (0, []))))), (68, (.iload_n 2, (sv_N, (69, (0, []))))), (69, (.iadd, (sv_N, (70, (0, []))))), (70, (.iaload, (sv_N, (71, (0, []))))), (71, (.istore_n 3, (sv_N, (72, (0, []))))), (72, (.iload_n 3, (sv_N, (73, (0, []))))), (73, (.ldc 70, (sv_N, (75, (0, []))))), (75, (.if_icmp .ne 8, (sv_N, (78, (83, []))))), (78, (.ldc 133, (sv_N, (80, (0, []))))), (80, (.goto 4, (sv_N, (83, (84, []))))), (83, (.iload_n 3, (sv_N, (84, (0, []))))), (84, (.ireturn, (sv_N, (85, (0, [])))))]
noncomputable def ev_Mo_item : sv_E := (fun i => sv_lk i fl_12, (fun i => sv_lk i kc_12, (fun _ => false, (true, fun pc => sv_lk pc [(1, (1, .inl n_Mo_isSlot)), (50, (3, .inl n_Mo_isIn))]))))
noncomputable def kk_Mo_item : sv_K (Int32 × sv_S) := fun pc => sv_lk pc []
set_option maxRecDepth 20000 in
theorem e_Mo_item (a1 : Int32) (a2 : Int32) (σ : sv_S) : sv_ex ev_Mo_item sv_rI kk_Mo_item cd_Mo_item 52 0 [some (.inr (.inr (some (30, 0)))), some (.inl a1), some (.inl a2), none] [] σ = f_Mo_item a1 a2 σ := by
  unfold f_Mo_item
  delta ev_Mo_item kk_Mo_item n_Mo_isSlot n_Mo_isIn
  generalize f_Mo_isSlot = c0
  generalize f_Mo_isIn = c1
  rfl
theorem d_Mo_item : cd_Mo_item.all (sv_dk cX12_item) = true := by decide +kernel
set_option maxRecDepth 20000 in
theorem b_Mo_item (Γ : sv_Ga) (res : Int32 × sv_S) (X : sv_Ok Γ ev_Mo_item cX12_item sv_rI res) (as : List sv_V) (σ : sv_S) (h : n_Mo_item as σ = some res) : sv_T Γ 0 (sv_e0 4 as) [] σ := by
  unfold n_Mo_item at h
  split at h
  · refine sv_run X d_Mo_item (K := kk_Mo_item) (sv_lk_all (P := fun pc (k : sv_Lo → List sv_V → sv_S → Option (Int32 × sv_S)) => ∀ lo st σ, k lo st σ = some res → sv_T Γ pc lo st σ) ?_) _ _ _ _ _ ((e_Mo_item _ _ _).trans h)
    clear h
    exact fun _ h => absurd h List.not_mem_nil
  · cases h
theorem a_Mo_item (as : List sv_V) (σ : sv_S) (x : Int32 × sv_S) (h : n_Mo_item as σ = some x) : sv_args 4 ev_Mo_item.2.2.2.1 as := by
  unfold n_Mo_item at h
  split at h
  · exact ⟨Nat.le_of_ble_eq_true rfl, fun _ v hv => by
      simp only [List.mem_cons, List.not_mem_nil, or_false] at hv
      rcases hv with rfl | rfl | rfl <;> trivial⟩
  · cases h
theorem g_Mo_item (as : List sv_V) (σ : sv_S) (x : Option sv_V × sv_S) (h : sv_gI n_Mo_item as σ = some x) : ∃ r i as', as = sv_R r i :: as' ∧ sv_kd r i = .inl 12 := by
  obtain ⟨_, _, h, -⟩ := sv_b_some h
  unfold n_Mo_item at h
  split at h
  · exact ⟨_, _, _, rfl, rfl⟩
  · cases h

set_option maxRecDepth 20000 in
theorem m_Mo_item (l : Launch) : sv_M l yX12_item cX12_item 4 (some .int) (sv_gI n_Mo_item) 2 := by
  refine sv_mI (E := ev_Mo_item) (by decide +kernel) (ln_gen fk_12 kk_12 (sv_ns _ (fun _ => rfl) _)) ?_ a_Mo_item b_Mo_item
  intro p e R s m args below meth c cells slots Q base ad dC dI cA n0 S hkn hR hf pc n f h
  refine sv_lk_all (P := fun pc (x : Nat × sv_F) => sv_cok p l e R s m args below meth c cells slots Q base ad dC dI cA true 4 n0 pc x.1 x.2) ?_ pc (n, f) h
  exact List.forall_mem_cons.mpr ⟨(sv_cS S hkn (m_Mo_isSlot l) ⟨Nat.le_trans (by decide) hR.1, Nat.le_trans (by decide) hR.2⟩ (by decide) hf (sv_w4 tw_1445 tw_1446 tw_65 tw_1447) (by decide +kernel) (sv_dc3 d_Mo_item (pc := 1) rfl rfl)).I,
      List.forall_mem_cons.mpr ⟨(sv_cS S hkn (m_Mo_isIn l) ⟨Nat.le_trans (by decide) hR.1, Nat.le_trans (by decide) hR.2⟩ (by decide) hf (sv_w4 tw_1098 tw_1099 tw_65 tw_1100) (by decide +kernel) (sv_dc3 d_Mo_item (pc := 50) rfl rfl)).I,
      fun _ h => absurd h List.not_mem_nil⟩⟩
noncomputable def f_Mo_rest (a1 : Int32) (a2 : Int32) (σ : sv_S) : Option (Int32 × sv_S) :=
  sv_b (f_Mo_isSlot a1 σ) (fun v1 σ2 =>
    sv_if (v1 = 0)
      (some ((-1000000001 : Int32), σ2))
      (sv_g (sv_in a1 5) (sv_if ((σ2 31 7 (a1.toNatClampNeg)) = (3 : Int32))
        (sv_if (a2 = 0)
          (some ((-1000000002 : Int32), σ2))
          (sv_g (sv_in a1 5) (sv_g (¬ a2 = 0) (some ((σ2 31 8 (a1.toNatClampNeg)) - (σ2 31 8 (a1.toNatClampNeg)) / a2 * a2, σ2)))))
        (sv_g (sv_in a1 5) (sv_if ((σ2 31 7 (a1.toNatClampNeg)) = 0)
          (some ((-1000000011 : Int32), σ2))
          (some ((-1000000012 : Int32), σ2)))))))
noncomputable def n_Mo_rest : List sv_V → sv_S → Option (Int32 × sv_S)
  | [.inr (.inr (some (30, 0))), .inl a1, .inl a2], σ => f_Mo_rest a1 a2 σ
  | _, _ => none
def cd_Mo_rest : sv_C := [(0, (.iload_n 1, (sv_N, (1, (0, []))))), (1, (.invokestatic 314, (sv_N, (4, (0, []))))), (4, (.ifCond .ne 6, (sv_N, (7, (10, []))))), (7, (.ldc 84, (sv_N, (9, (0, []))))), (9, (.ireturn, (sv_N, (10, (0, []))))), (10, (.aload_n 0, (sv_N, (11, (0, []))))), (11, (.getfield 28, (sv_N, (14, (0, []))))), (14, (.iload_n 1, (sv_N, (15, (0, []))))), (15, (.iaload, (sv_N, (16, (0, []))))), (16, (.iconst 3, (.inl (3 : Int32), (17, (0, []))))), (17, (.if_icmp .eq 21, (sv_N, (20, (38, []))))), (20, (.aload_n 0, (sv_N, (21, (0, []))))), (21, (.getfield 28, (sv_N, (24, (0, []))))), (24, (.iload_n 1, (sv_N, (25, (0, []))))), (25, (.iaload, (sv_N, (26, (0, []))))), (26, (.ifCond .ne 9, (sv_N, (29, (35, []))))), (29, (.ldc_w 303, (sv_N, (32, (0, []))))), (32, (.goto 5, (sv_N, (35, (37, []))))), (35, (.ldc 133, (sv_N, (37, (0, []))))), (37, (.ireturn, (sv_N, (38, (0, []))))), (38, (.iload_n 2, (sv_N, (39, (0, []))))), (39, (.ifCond .ne 8, (sv_N, (42, (47, []))))), (42, (.ldc 153, (sv_N, (44, (0, []))))), (44, (.goto 11, (sv_N, (47, (55, []))))), (47, (.aload_n 0, (sv_N, (48, (0, []))))), (48, (.getfield 31, (sv_N, (51, (0, []))))), (51, (.iload_n 1, (sv_N, (52, (0, []))))), (52, (.iaload, (sv_N, (53, (0, []))))), (53, (.iload_n 2, (sv_N, (54, (0, []))))), (54, (.irem, (sv_N, (55, (0, []))))), (55, (.ireturn, (sv_N, (56, (0, [])))))]
noncomputable def ev_Mo_rest : sv_E := (fun i => sv_lk i fl_12, (fun i => sv_lk i kc_12, (fun _ => false, (true, fun pc => sv_lk pc [(1, (1, .inl n_Mo_isSlot))]))))
noncomputable def kk_Mo_rest : sv_K (Int32 × sv_S) := fun pc => sv_lk pc []
set_option maxRecDepth 20000 in
theorem e_Mo_rest (a1 : Int32) (a2 : Int32) (σ : sv_S) : sv_ex ev_Mo_rest sv_rI kk_Mo_rest cd_Mo_rest 33 0 [some (.inr (.inr (some (30, 0)))), some (.inl a1), some (.inl a2)] [] σ = f_Mo_rest a1 a2 σ := by
  unfold f_Mo_rest
  delta ev_Mo_rest kk_Mo_rest n_Mo_isSlot
  generalize f_Mo_isSlot = c0
  rfl
theorem d_Mo_rest : cd_Mo_rest.all (sv_dk cX12_rest) = true := by decide +kernel
set_option maxRecDepth 20000 in
theorem b_Mo_rest (Γ : sv_Ga) (res : Int32 × sv_S) (X : sv_Ok Γ ev_Mo_rest cX12_rest sv_rI res) (as : List sv_V) (σ : sv_S) (h : n_Mo_rest as σ = some res) : sv_T Γ 0 (sv_e0 3 as) [] σ := by
  unfold n_Mo_rest at h
  split at h
  · refine sv_run X d_Mo_rest (K := kk_Mo_rest) (sv_lk_all (P := fun pc (k : sv_Lo → List sv_V → sv_S → Option (Int32 × sv_S)) => ∀ lo st σ, k lo st σ = some res → sv_T Γ pc lo st σ) ?_) _ _ _ _ _ ((e_Mo_rest _ _ _).trans h)
    clear h
    exact fun _ h => absurd h List.not_mem_nil
  · cases h
theorem a_Mo_rest (as : List sv_V) (σ : sv_S) (x : Int32 × sv_S) (h : n_Mo_rest as σ = some x) : sv_args 3 ev_Mo_rest.2.2.2.1 as := by
  unfold n_Mo_rest at h
  split at h
  · exact ⟨Nat.le_of_ble_eq_true rfl, fun _ v hv => by
      simp only [List.mem_cons, List.not_mem_nil, or_false] at hv
      rcases hv with rfl | rfl | rfl <;> trivial⟩
  · cases h
theorem g_Mo_rest (as : List sv_V) (σ : sv_S) (x : Option sv_V × sv_S) (h : sv_gI n_Mo_rest as σ = some x) : ∃ r i as', as = sv_R r i :: as' ∧ sv_kd r i = .inl 12 := by
  obtain ⟨_, _, h, -⟩ := sv_b_some h
  unfold n_Mo_rest at h
  split at h
  · exact ⟨_, _, _, rfl, rfl⟩
  · cases h

set_option maxRecDepth 20000 in
theorem m_Mo_rest (l : Launch) : sv_M l yX12_rest cX12_rest 3 (some .int) (sv_gI n_Mo_rest) 2 := by
  refine sv_mI (E := ev_Mo_rest) (by decide +kernel) (ln_gen fk_12 kk_12 (sv_ns _ (fun _ => rfl) _)) ?_ a_Mo_rest b_Mo_rest
  intro p e R s m args below meth c cells slots Q base ad dC dI cA n0 S hkn hR hf pc n f h
  refine sv_lk_all (P := fun pc (x : Nat × sv_F) => sv_cok p l e R s m args below meth c cells slots Q base ad dC dI cA true 3 n0 pc x.1 x.2) ?_ pc (n, f) h
  exact List.forall_mem_cons.mpr ⟨(sv_cS S hkn (m_Mo_isSlot l) ⟨Nat.le_trans (by decide) hR.1, Nat.le_trans (by decide) hR.2⟩ (by decide) hf (sv_w4 tw_1445 tw_1446 tw_65 tw_1447) (by decide +kernel) (sv_dc3 d_Mo_rest (pc := 1) rfl rfl)).I,
      fun _ h => absurd h List.not_mem_nil⟩
noncomputable def f_Mo_tell (a1 : Int32) (σ : sv_S) : Option (Int32 × sv_S) :=
  sv_if ((σ 30 0 32) = (60 : Int32))
    (some ((-1000000003 : Int32), σ))
    (sv_g (sv_in (σ 30 0 32) 60) (let σ1 := sv_up (sv_up σ 31 31 ((σ 30 0 32).toNatClampNeg) a1) 30 0 32 (((sv_up σ 31 31 ((σ 30 0 32).toNatClampNeg) a1) 30 0 32) + (1 : Int32))
    some (σ1 30 0 32, σ1)))
noncomputable def n_Mo_tell : List sv_V → sv_S → Option (Int32 × sv_S)
  | [.inr (.inr (some (30, 0))), .inl a1], σ => f_Mo_tell a1 σ
  | _, _ => none
def cd_Mo_tell : sv_C := [(0, (.aload_n 0, (sv_N, (1, (0, []))))), (1, (.getfield 317, (sv_N, (4, (0, []))))), (4, (.bipush 60, (.inl (60 : Int32), (6, (0, []))))), (6, (.if_icmp .ne 6, (sv_N, (9, (12, []))))), (9, (.ldc 85, (sv_N, (11, (0, []))))), (11, (.ireturn, (sv_N, (12, (0, []))))), (12, (.aload_n 0, (sv_N, (13, (0, []))))), (13, (.getfield 64, (sv_N, (16, (0, []))))), (16, (.aload_n 0, (sv_N, (17, (0, []))))), (17, (.getfield 317, (sv_N, (20, (0, []))))), (20, (.iload_n 1, (sv_N, (21, (0, []))))), (21, (.iastore, (sv_N, (22, (0, []))))), (22, (.aload_n 0, (sv_N, (23, (0, []))))), (23, (.dup, (sv_N, (24, (0, []))))), (24, (.getfield 317, (sv_N, (27, (0, []))))), (27, (.iconst 1, (.inl (1 : Int32), (28, (0, []))))), (28, (.iadd, (sv_N, (29, (0, []))))), (29, (.putfield 317, (sv_N, (32, (0, []))))), (32, (.aload_n 0, (sv_N, (33, (0, []))))), (33, (.getfield 317, (sv_N, (36, (0, []))))), (36, (.ireturn, (sv_N, (37, (0, [])))))]
noncomputable def ev_Mo_tell : sv_E := (fun i => sv_lk i fl_12, (fun i => sv_lk i kc_12, (fun _ => false, (true, fun pc => sv_lk pc []))))
noncomputable def kk_Mo_tell : sv_K (Int32 × sv_S) := fun pc => sv_lk pc []
set_option maxRecDepth 20000 in
theorem e_Mo_tell (a1 : Int32) (σ : sv_S) : sv_ex ev_Mo_tell sv_rI kk_Mo_tell cd_Mo_tell 23 0 [some (.inr (.inr (some (30, 0)))), some (.inl a1)] [] σ = f_Mo_tell a1 σ := by
  unfold f_Mo_tell
  delta ev_Mo_tell kk_Mo_tell
  rfl
theorem d_Mo_tell : cd_Mo_tell.all (sv_dk cX12_tell) = true := by decide +kernel
set_option maxRecDepth 20000 in
theorem b_Mo_tell (Γ : sv_Ga) (res : Int32 × sv_S) (X : sv_Ok Γ ev_Mo_tell cX12_tell sv_rI res) (as : List sv_V) (σ : sv_S) (h : n_Mo_tell as σ = some res) : sv_T Γ 0 (sv_e0 2 as) [] σ := by
  unfold n_Mo_tell at h
  split at h
  · refine sv_run X d_Mo_tell (K := kk_Mo_tell) (sv_lk_all (P := fun pc (k : sv_Lo → List sv_V → sv_S → Option (Int32 × sv_S)) => ∀ lo st σ, k lo st σ = some res → sv_T Γ pc lo st σ) ?_) _ _ _ _ _ ((e_Mo_tell _ _).trans h)
    clear h
    exact fun _ h => absurd h List.not_mem_nil
  · cases h
theorem a_Mo_tell (as : List sv_V) (σ : sv_S) (x : Int32 × sv_S) (h : n_Mo_tell as σ = some x) : sv_args 2 ev_Mo_tell.2.2.2.1 as := by
  unfold n_Mo_tell at h
  split at h
  · exact ⟨Nat.le_of_ble_eq_true rfl, fun _ v hv => by
      simp only [List.mem_cons, List.not_mem_nil, or_false] at hv
      rcases hv with rfl | rfl <;> trivial⟩
  · cases h
theorem g_Mo_tell (as : List sv_V) (σ : sv_S) (x : Option sv_V × sv_S) (h : sv_gI n_Mo_tell as σ = some x) : ∃ r i as', as = sv_R r i :: as' ∧ sv_kd r i = .inl 12 := by
  obtain ⟨_, _, h, -⟩ := sv_b_some h
  unfold n_Mo_tell at h
  split at h
  · exact ⟨_, _, _, rfl, rfl⟩
  · cases h

set_option maxRecDepth 20000 in
theorem m_Mo_tell (l : Launch) : sv_M l yX12_tell cX12_tell 2 (some .int) (sv_gI n_Mo_tell) 0 := by
  refine sv_mI (E := ev_Mo_tell) (by decide +kernel) (ln_gen fk_12 kk_12 (sv_ns _ (fun _ => rfl) _)) ?_ a_Mo_tell b_Mo_tell
  intro p e R s m args below meth c cells slots Q base ad dC dI cA n0 S hkn hR hf pc n f h
  refine sv_lk_all (P := fun pc (x : Nat × sv_F) => sv_cok p l e R s m args below meth c cells slots Q base ad dC dI cA true 2 n0 pc x.1 x.2) ?_ pc (n, f) h
  exact fun _ h => absurd h List.not_mem_nil
noncomputable def f_Mo_setAside_2 : Nat → Nat → Nat → Int32 → sv_S → Option (sv_S)
  | 0, _, _, _, _ => none
  | n + 1, x1, x2, x3, σ =>
    sv_if ((2886 : Int32) ≤ x3)
      (some σ)
      (sv_g (sv_in x3 (sv_ml x1)) (sv_g (sv_in x3 (sv_ml x2)) (f_Mo_setAside_2 n x1 x2 (x3 + (1 : Int32)) (sv_up σ 31 x2 (x3.toNatClampNeg) (σ 31 x1 (x3.toNatClampNeg))))))
noncomputable def f_Mo_setAside (a1 : Nat) (a2 : Nat) (σ : sv_S) : Option (sv_S) :=
  f_Mo_setAside_2 sv_fu a1 a2 (0 : Int32) σ
noncomputable def n_Mo_setAside : List sv_V → sv_S → Option (sv_S)
  | [.inr (.inr (some (30, 0))), .inr (.inr (some (31, a1))), .inr (.inr (some (31, a2)))], σ => f_Mo_setAside a1 a2 σ
  | _, _ => none
def cd_Mo_setAside : sv_C := [(0, (.iconst 0, (.inl (0 : Int32), (1, (0, []))))), (1, (.istore_n 3, (sv_N, (2, (0, []))))), (2, (.iload_n 3, (sv_N, (3, (0, []))))), (3, (.sipush 2886, (.inl (2886 : Int32), (6, (0, []))))), (6, (.if_icmp .ge 15, (sv_N, (9, (21, []))))), (9, (.aload_n 2, (sv_N, (10, (0, []))))), (10, (.iload_n 3, (sv_N, (11, (0, []))))), (11, (.aload_n 1, (sv_N, (12, (0, []))))), (12, (.iload_n 3, (sv_N, (13, (0, []))))), (13, (.iaload, (sv_N, (14, (0, []))))), (14, (.iastore, (sv_N, (15, (0, []))))), (15, (.iinc 3 1, (.inl (1 : Int32), (18, (0, []))))), (18, (.goto (-16), (sv_N, (21, (2, []))))), (21, (.return_, (sv_N, (22, (0, [])))))]
noncomputable def ev_Mo_setAside : sv_E := (fun i => sv_lk i fl_12, (fun i => sv_lk i kc_12, (fun _ => false, (true, fun pc => sv_lk pc []))))
noncomputable def kk_Mo_setAside_2 (n : Nat) : sv_K (sv_S) := fun pc => sv_lk pc [(2, fun lo st σ => match lo, st with
    | [_, some (.inr (.inr (some (31, x1)))), some (.inr (.inr (some (31, x2)))), some (.inl x3)], [] => f_Mo_setAside_2 n x1 x2 x3 σ
    | _, _ => none)]
set_option maxRecDepth 20000 in
theorem e_Mo_setAside_2 (n : Nat) (x1 : Nat) (x2 : Nat) (x3 : Int32) (z0 : Option sv_V) (σ : sv_S) : sv_ex ev_Mo_setAside sv_rV (kk_Mo_setAside_2 n) cd_Mo_setAside 16 2 [z0, some (.inr (.inr (some (31, x1)))), some (.inr (.inr (some (31, x2)))), some (.inl x3)] [] σ = f_Mo_setAside_2 (n + 1) x1 x2 x3 σ := by
  rw [f_Mo_setAside_2.eq_2]
  delta ev_Mo_setAside kk_Mo_setAside_2
  generalize f_Mo_setAside_2 = c0
  rfl
noncomputable def kk_Mo_setAside : sv_K (sv_S) := fun pc => sv_lk pc [(2, fun lo st σ => match lo, st with
    | [_, some (.inr (.inr (some (31, x1)))), some (.inr (.inr (some (31, x2)))), some (.inl x3)], [] => f_Mo_setAside_2 sv_fu x1 x2 x3 σ
    | _, _ => none)]
set_option maxRecDepth 20000 in
theorem e_Mo_setAside (a1 : Nat) (a2 : Nat) (σ : sv_S) : sv_ex ev_Mo_setAside sv_rV kk_Mo_setAside cd_Mo_setAside 16 0 [some (.inr (.inr (some (30, 0)))), some (.inr (.inr (some (31, a1)))), some (.inr (.inr (some (31, a2)))), none] [] σ = f_Mo_setAside a1 a2 σ := by
  unfold f_Mo_setAside
  delta ev_Mo_setAside kk_Mo_setAside
  generalize f_Mo_setAside_2 = c0
  rfl
theorem d_Mo_setAside : cd_Mo_setAside.all (sv_dk cX12_setAside) = true := by decide +kernel
set_option maxRecDepth 20000 in
theorem w_Mo_setAside_2 {Γ : sv_Ga} {res : sv_S} (X : sv_Ok Γ ev_Mo_setAside cX12_setAside sv_rV res) : ∀ (n : Nat) (x1 : Nat) (x2 : Nat) (x3 : Int32) (z0 : Option sv_V) (σ : sv_S), f_Mo_setAside_2 n x1 x2 x3 σ = some res → sv_T Γ 2 [z0, some (.inr (.inr (some (31, x1)))), some (.inr (.inr (some (31, x2)))), some (.inl x3)] [] σ := by
  intro n
  induction n with
  | zero =>
    intro x1 x2 x3 z0 σ h
    rw [f_Mo_setAside_2.eq_1] at h
    cases h
  | succ n ih =>
    intro x1 x2 x3 z0 σ h
    refine sv_run X d_Mo_setAside (K := kk_Mo_setAside_2 n) (sv_lk_all (P := fun pc (k : sv_Lo → List sv_V → sv_S → Option (sv_S)) => ∀ lo st σ, k lo st σ = some res → sv_T Γ pc lo st σ) ?_) _ _ _ _ _ ((e_Mo_setAside_2 n x1 x2 x3 z0 σ).trans h)
    clear h
    refine List.forall_mem_cons.mpr ⟨fun lo st σ h => ?_, fun _ h => absurd h List.not_mem_nil⟩
    · dsimp only at h
      split at h
      · exact ih _ _ _ _ _ h
      · cases h

set_option maxRecDepth 20000 in
theorem b_Mo_setAside (Γ : sv_Ga) (res : sv_S) (X : sv_Ok Γ ev_Mo_setAside cX12_setAside sv_rV res) (as : List sv_V) (σ : sv_S) (h : n_Mo_setAside as σ = some res) : sv_T Γ 0 (sv_e0 4 as) [] σ := by
  unfold n_Mo_setAside at h
  split at h
  · refine sv_run X d_Mo_setAside (K := kk_Mo_setAside) (sv_lk_all (P := fun pc (k : sv_Lo → List sv_V → sv_S → Option (sv_S)) => ∀ lo st σ, k lo st σ = some res → sv_T Γ pc lo st σ) ?_) _ _ _ _ _ ((e_Mo_setAside _ _ _).trans h)
    clear h
    refine List.forall_mem_cons.mpr ⟨fun lo st σ h => ?_, fun _ h => absurd h List.not_mem_nil⟩
    · dsimp only at h
      split at h
      · exact w_Mo_setAside_2 X _ _ _ _ _ _ h
      · cases h
  · cases h
theorem a_Mo_setAside (as : List sv_V) (σ : sv_S) (x : sv_S) (h : n_Mo_setAside as σ = some x) : sv_args 4 ev_Mo_setAside.2.2.2.1 as := by
  unfold n_Mo_setAside at h
  split at h
  · exact ⟨Nat.le_of_ble_eq_true rfl, fun _ v hv => by
      simp only [List.mem_cons, List.not_mem_nil, or_false] at hv
      rcases hv with rfl | rfl | rfl <;> trivial⟩
  · cases h
theorem g_Mo_setAside (as : List sv_V) (σ : sv_S) (x : Option sv_V × sv_S) (h : sv_gV n_Mo_setAside as σ = some x) : ∃ r i as', as = sv_R r i :: as' ∧ sv_kd r i = .inl 12 := by
  obtain ⟨_, h, -⟩ := sv_b0_some h
  unfold n_Mo_setAside at h
  split at h
  · exact ⟨_, _, _, rfl, rfl⟩
  · cases h

set_option maxRecDepth 20000 in
theorem m_Mo_setAside (l : Launch) : sv_M l yX12_setAside cX12_setAside 4 none (sv_gV n_Mo_setAside) 0 := by
  refine sv_mV (E := ev_Mo_setAside) (by decide +kernel) (ln_gen fk_12 kk_12 (sv_ns _ (fun _ => rfl) _)) ?_ a_Mo_setAside b_Mo_setAside
  intro p e R s m args below meth c cells slots Q base ad dC dI cA n0 S hkn hR hf pc n f h
  refine sv_lk_all (P := fun pc (x : Nat × sv_F) => sv_cok p l e R s m args below meth c cells slots Q base ad dC dI cA true 4 n0 pc x.1 x.2) ?_ pc (n, f) h
  exact fun _ h => absurd h List.not_mem_nil
noncomputable def f_Mo_countsOfAll_4 : Nat → Int32 → Int32 → sv_S → Option (Int32 × sv_S)
  | 0, _, _, _ => none
  | n + 1, x1, x2, σ =>
    sv_g (sv_in (0 : Int32) 3086) (sv_if ((σ 31 0 ((0 : Int32).toNatClampNeg)) ≤ x2)
      (some (x1, σ))
      (sv_b (f_Mo_of x2 (2 : Int32) σ) (fun v1 σ2 =>
        f_Mo_countsOfAll_4 n (x1 + v1) (x2 + (1 : Int32)) σ2)))
noncomputable def f_Mo_countsOfAll (σ : sv_S) : Option (Int32 × sv_S) :=
  f_Mo_countsOfAll_4 sv_fu (0 : Int32) (0 : Int32) σ
noncomputable def n_Mo_countsOfAll : List sv_V → sv_S → Option (Int32 × sv_S)
  | [.inr (.inr (some (30, 0)))], σ => f_Mo_countsOfAll σ
  | _, _ => none
def cd_Mo_countsOfAll : sv_C := [(0, (.iconst 0, (.inl (0 : Int32), (1, (0, []))))), (1, (.istore_n 1, (sv_N, (2, (0, []))))), (2, (.iconst 0, (.inl (0 : Int32), (3, (0, []))))), (3, (.istore_n 2, (sv_N, (4, (0, []))))), (4, (.iload_n 2, (sv_N, (5, (0, []))))), (5, (.aload_n 0, (sv_N, (6, (0, []))))), (6, (.getfield 7, (sv_N, (9, (0, []))))), (9, (.iconst 0, (.inl (0 : Int32), (10, (0, []))))), (10, (.iaload, (sv_N, (11, (0, []))))), (11, (.if_icmp .ge 18, (sv_N, (14, (29, []))))), (14, (.iload_n 1, (sv_N, (15, (0, []))))), (15, (.aload_n 0, (sv_N, (16, (0, []))))), (16, (.iload_n 2, (sv_N, (17, (0, []))))), (17, (.iconst 2, (.inl (2 : Int32), (18, (0, []))))), (18, (.invokevirtual 90, (sv_N, (21, (0, []))))), (21, (.iadd, (sv_N, (22, (0, []))))), (22, (.istore_n 1, (sv_N, (23, (0, []))))), (23, (.iinc 2 1, (.inl (1 : Int32), (26, (0, []))))), (26, (.goto (-22), (sv_N, (29, (4, []))))), (29, (.iload_n 1, (sv_N, (30, (0, []))))), (30, (.ireturn, (sv_N, (31, (0, [])))))]
noncomputable def ev_Mo_countsOfAll : sv_E := (fun i => sv_lk i fl_12, (fun i => sv_lk i kc_12, (fun _ => false, (true, fun pc => sv_lk pc [(18, (3, .inl n_Mo_of))]))))
noncomputable def kk_Mo_countsOfAll_4 (n : Nat) : sv_K (Int32 × sv_S) := fun pc => sv_lk pc [(4, fun lo st σ => match lo, st with
    | [some (.inr (.inr (some (30, 0)))), some (.inl x1), some (.inl x2)], [] => f_Mo_countsOfAll_4 n x1 x2 σ
    | _, _ => none)]
set_option maxRecDepth 20000 in
theorem e_Mo_countsOfAll_4 (n : Nat) (x1 : Int32) (x2 : Int32) (σ : sv_S) : sv_ex ev_Mo_countsOfAll sv_rI (kk_Mo_countsOfAll_4 n) cd_Mo_countsOfAll 23 4 [some (.inr (.inr (some (30, 0)))), some (.inl x1), some (.inl x2)] [] σ = f_Mo_countsOfAll_4 (n + 1) x1 x2 σ := by
  rw [f_Mo_countsOfAll_4.eq_2]
  delta ev_Mo_countsOfAll kk_Mo_countsOfAll_4 n_Mo_of
  generalize f_Mo_of = c0
  generalize f_Mo_countsOfAll_4 = c1
  rfl
noncomputable def kk_Mo_countsOfAll : sv_K (Int32 × sv_S) := fun pc => sv_lk pc [(4, fun lo st σ => match lo, st with
    | [some (.inr (.inr (some (30, 0)))), some (.inl x1), some (.inl x2)], [] => f_Mo_countsOfAll_4 sv_fu x1 x2 σ
    | _, _ => none)]
set_option maxRecDepth 20000 in
theorem e_Mo_countsOfAll (σ : sv_S) : sv_ex ev_Mo_countsOfAll sv_rI kk_Mo_countsOfAll cd_Mo_countsOfAll 23 0 [some (.inr (.inr (some (30, 0)))), none, none] [] σ = f_Mo_countsOfAll σ := by
  unfold f_Mo_countsOfAll
  delta ev_Mo_countsOfAll kk_Mo_countsOfAll n_Mo_of
  generalize f_Mo_of = c0
  generalize f_Mo_countsOfAll_4 = c1
  rfl
theorem d_Mo_countsOfAll : cd_Mo_countsOfAll.all (sv_dk cX12_countsOfAll) = true := by decide +kernel
set_option maxRecDepth 20000 in
theorem w_Mo_countsOfAll_4 {Γ : sv_Ga} {res : Int32 × sv_S} (X : sv_Ok Γ ev_Mo_countsOfAll cX12_countsOfAll sv_rI res) : ∀ (n : Nat) (x1 : Int32) (x2 : Int32) (σ : sv_S), f_Mo_countsOfAll_4 n x1 x2 σ = some res → sv_T Γ 4 [some (.inr (.inr (some (30, 0)))), some (.inl x1), some (.inl x2)] [] σ := by
  intro n
  induction n with
  | zero =>
    intro x1 x2 σ h
    rw [f_Mo_countsOfAll_4.eq_1] at h
    cases h
  | succ n ih =>
    intro x1 x2 σ h
    refine sv_run X d_Mo_countsOfAll (K := kk_Mo_countsOfAll_4 n) (sv_lk_all (P := fun pc (k : sv_Lo → List sv_V → sv_S → Option (Int32 × sv_S)) => ∀ lo st σ, k lo st σ = some res → sv_T Γ pc lo st σ) ?_) _ _ _ _ _ ((e_Mo_countsOfAll_4 n x1 x2 σ).trans h)
    clear h
    refine List.forall_mem_cons.mpr ⟨fun lo st σ h => ?_, fun _ h => absurd h List.not_mem_nil⟩
    · dsimp only at h
      split at h
      · exact ih _ _ _ h
      · cases h

set_option maxRecDepth 20000 in
theorem b_Mo_countsOfAll (Γ : sv_Ga) (res : Int32 × sv_S) (X : sv_Ok Γ ev_Mo_countsOfAll cX12_countsOfAll sv_rI res) (as : List sv_V) (σ : sv_S) (h : n_Mo_countsOfAll as σ = some res) : sv_T Γ 0 (sv_e0 3 as) [] σ := by
  unfold n_Mo_countsOfAll at h
  split at h
  · refine sv_run X d_Mo_countsOfAll (K := kk_Mo_countsOfAll) (sv_lk_all (P := fun pc (k : sv_Lo → List sv_V → sv_S → Option (Int32 × sv_S)) => ∀ lo st σ, k lo st σ = some res → sv_T Γ pc lo st σ) ?_) _ _ _ _ _ ((e_Mo_countsOfAll _).trans h)
    clear h
    refine List.forall_mem_cons.mpr ⟨fun lo st σ h => ?_, fun _ h => absurd h List.not_mem_nil⟩
    · dsimp only at h
      split at h
      · exact w_Mo_countsOfAll_4 X _ _ _ _ h
      · cases h
  · cases h
theorem a_Mo_countsOfAll (as : List sv_V) (σ : sv_S) (x : Int32 × sv_S) (h : n_Mo_countsOfAll as σ = some x) : sv_args 3 ev_Mo_countsOfAll.2.2.2.1 as := by
  unfold n_Mo_countsOfAll at h
  split at h
  · exact ⟨Nat.le_of_ble_eq_true rfl, fun _ v hv => by
      simp only [List.mem_cons, List.not_mem_nil, or_false] at hv
      rcases hv with rfl <;> trivial⟩
  · cases h
theorem g_Mo_countsOfAll (as : List sv_V) (σ : sv_S) (x : Option sv_V × sv_S) (h : sv_gI n_Mo_countsOfAll as σ = some x) : ∃ r i as', as = sv_R r i :: as' ∧ sv_kd r i = .inl 12 := by
  obtain ⟨_, _, h, -⟩ := sv_b_some h
  unfold n_Mo_countsOfAll at h
  split at h
  · exact ⟨_, _, _, rfl, rfl⟩
  · cases h

set_option maxRecDepth 20000 in
theorem m_Mo_countsOfAll (l : Launch) : sv_M l yX12_countsOfAll cX12_countsOfAll 3 (some .int) (sv_gI n_Mo_countsOfAll) 1 := by
  refine sv_mI (E := ev_Mo_countsOfAll) (by decide +kernel) (ln_gen fk_12 kk_12 (sv_ns _ (fun _ => rfl) _)) ?_ a_Mo_countsOfAll b_Mo_countsOfAll
  intro p e R s m args below meth c cells slots Q base ad dC dI cA n0 S hkn hR hf pc n f h
  refine sv_lk_all (P := fun pc (x : Nat × sv_F) => sv_cok p l e R s m args below meth c cells slots Q base ad dC dI cA true 3 n0 pc x.1 x.2) ?_ pc (n, f) h
  exact List.forall_mem_cons.mpr ⟨(sv_cV S hkn (m_Mo_of l) ⟨Nat.le_trans (by decide) hR.1, Nat.le_trans (by decide) hR.2⟩ (by decide) hf rfl g_Mo_of (sv_w5 tw_1120 tw_1122 tw_10 tw_65 tw_1123) (by decide +kernel) (sv_dc3 d_Mo_countsOfAll (pc := 18) rfl rfl)).I,
      fun _ h => absurd h List.not_mem_nil⟩
noncomputable def f_Mo_check_166 (x2 : Int32) (x3 : Int32) (x4 : Int32) (σ : sv_S) : Option (Int32 × sv_S) :=
    sv_if (x4 = x2)
      (sv_if (x4 = x3)
        (some ((0 : Int32), σ))
        (some ((1 : Int32) + x4, σ)))
      (some ((1 : Int32) + x4, σ))
noncomputable def f_Mo_check_131 : Nat → Int32 → Int32 → Int32 → sv_S → Option (Int32 × sv_S)
  | 0, _, _, _, _ => none
  | n + 1, x2, x3, x4, σ =>
    sv_if (x2 ≤ x4)
      (f_Mo_check_166 x2 x3 x4 σ)
      (sv_if (x3 ≤ x4)
        (f_Mo_check_166 x2 x3 x4 σ)
        (sv_g (sv_in x4 60) (sv_g (sv_in x4 60) (sv_if ((σ 31 31 (x4.toNatClampNeg)) = (σ 31 33 (x4.toNatClampNeg)))
          (f_Mo_check_131 n x2 x3 (x4 + (1 : Int32)) σ)
          (f_Mo_check_166 x2 x3 x4 σ)))))
noncomputable def f_Mo_check_116 (x2 : Int32) (x3 : Int32) (σ : sv_S) : Option (Int32 × sv_S) :=
    sv_b0 (f_Mo_setAside 2 0 σ) (fun σ1 =>
      f_Mo_check_131 sv_fu x2 x3 (0 : Int32) σ1)
noncomputable def f_Mo_check_64 : Nat → Int32 → Int32 → Int32 → Int32 → sv_S → Option (Int32 × sv_S)
  | 0, _, _, _, _, _ => none
  | n + 1, x1, x2, x3, x4, σ =>
    sv_if (x1 ≤ x4)
      (f_Mo_check_116 x2 x3 σ)
      (sv_g (sv_in (3 : Int32) 3086) (sv_if ((9999 : Int32) ≤ (σ 31 0 ((3 : Int32).toNatClampNeg)))
        (f_Mo_check_116 x2 x3 σ)
        (sv_b (f_Mo_goesOn σ) (fun v1 σ2 =>
          sv_b (f_Mo_ones v1 σ2) (fun v3 σ4 =>
            sv_g (sv_in x3 60) (sv_b (f_Mo_countsOfAll (sv_up σ4 31 33 (x3.toNatClampNeg) v3)) (fun v5 σ6 =>
              sv_g (sv_in (x3 + (1 : Int32)) 60) (f_Mo_check_64 n x1 x2 (x3 + (2 : Int32)) (x4 + (1 : Int32)) (sv_up σ6 31 33 ((x3 + (1 : Int32)).toNatClampNeg) v5)))))))))
noncomputable def f_Mo_check (a1 : Int32) (σ : sv_S) : Option (Int32 × sv_S) :=
  let σ1 := sv_up σ 30 0 32 (0 : Int32)
  sv_b (f_Mo_isIn (a1.toInt64) (1 : Int64) (30 : Int64) σ1) (fun v2 σ3 =>
    sv_if (v2 = 0)
      (some ((-1000000001 : Int32), σ3))
      (sv_if ((σ3 30 0 3) = 0)
        (some ((-1000000002 : Int32), σ3))
        (sv_b0 (f_Mo_setAside 0 2 σ3) (fun σ4 =>
          sv_b0 (f_Mo_setAside 1 0 σ4) (fun σ5 =>
            f_Mo_check_64 sv_fu a1 (σ 30 0 32) (0 : Int32) (0 : Int32) σ5)))))
noncomputable def n_Mo_check : List sv_V → sv_S → Option (Int32 × sv_S)
  | [.inr (.inr (some (30, 0))), .inl a1], σ => f_Mo_check a1 σ
  | _, _ => none
def cd_Mo_check : sv_C := [(0, (.aload_n 0, (sv_N, (1, (0, []))))), (1, (.getfield 317, (sv_N, (4, (0, []))))), (4, (.istore_n 2, (sv_N, (5, (0, []))))), (5, (.aload_n 0, (sv_N, (6, (0, []))))), (6, (.iconst 0, (.inl (0 : Int32), (7, (0, []))))), (7, (.putfield 317, (sv_N, (10, (0, []))))), (10, (.iload_n 1, (sv_N, (11, (0, []))))), (11, (.i2l, (sv_N, (12, (0, []))))), (12, (.lconst 1, (.inr (.inl (1 : Int64)), (13, (0, []))))), (13, (.ldc2_w 192, (sv_N, (16, (0, []))))), (16, (.invokestatic 71, (sv_N, (19, (0, []))))), (19, (.ifCond .ne 6, (sv_N, (22, (25, []))))), (22, (.ldc 84, (sv_N, (24, (0, []))))), (24, (.ireturn, (sv_N, (25, (0, []))))), (25, (.aload_n 0, (sv_N, (26, (0, []))))), (26, (.getfield 320, (sv_N, (29, (0, []))))), (29, (.ifCond .ne 6, (sv_N, (32, (35, []))))), (32, (.ldc 153, (sv_N, (34, (0, []))))), (34, (.ireturn, (sv_N, (35, (0, []))))), (35, (.aload_n 0, (sv_N, (36, (0, []))))), (36, (.aload_n 0, (sv_N, (37, (0, []))))), (37, (.getfield 7, (sv_N, (40, (0, []))))), (40, (.aload_n 0, (sv_N, (41, (0, []))))), (41, (.getfield 16, (sv_N, (44, (0, []))))), (44, (.invokevirtual 324, (sv_N, (47, (0, []))))), (47, (.aload_n 0, (sv_N, (48, (0, []))))), (48, (.aload_n 0, (sv_N, (49, (0, []))))), (49, (.getfield 13, (sv_N, (52, (0, []))))), (52, (.aload_n 0, (sv_N, (53, (0, []))))), (53, (.getfield 7, (sv_N, (56, (0, []))))), (56, (.invokevirtual 324, (sv_N, (59, (0, []))))), (59, (.iconst 0, (.inl (0 : Int32), (60, (0, []))))), (60, (.istore_n 3, (sv_N, (61, (0, []))))), (61, (.iconst 0, (.inl (0 : Int32), (62, (0, []))))), (62, (.istore 4, (sv_N, (64, (0, []))))), (64, (.iload 4, (sv_N, (66, (0, []))))), (66, (.iload_n 1, (sv_N, (67, (0, []))))), (67, (.if_icmp .ge 49, (sv_N, (70, (116, []))))), (70, (.aload_n 0, (sv_N, (71, (0, []))))), (71, (.getfield 7, (sv_N, (74, (0, []))))), (74, (.iconst 3, (.inl (3 : Int32), (75, (0, []))))), (75, (.iaload, (sv_N, (76, (0, []))))), (76, (.sipush 9999, (.inl (9999 : Int32), (79, (0, []))))), (79, (.if_icmp .ge 37, (sv_N, (82, (116, []))))), (82, (.aload_n 0, (sv_N, (83, (0, []))))), (83, (.getfield 67, (sv_N, (86, (0, []))))), (86, (.iload_n 3, (sv_N, (87, (0, []))))), (87, (.aload_n 0, (sv_N, (88, (0, []))))), (88, (.invokevirtual 154, (sv_N, (91, (0, []))))), (91, (.invokestatic 157, (sv_N, (94, (0, []))))), (94, (.iastore, (sv_N, (95, (0, []))))), (95, (.aload_n 0, (sv_N, (96, (0, []))))), (96, (.getfield 67, (sv_N, (99, (0, []))))), (99, (.iload_n 3, (sv_N, (100, (0, []))))), (100, (.iconst 1, (.inl (1 : Int32), (101, (0, []))))), (101, (.iadd, (sv_N, (102, (0, []))))), (102, (.aload_n 0, (sv_N, (103, (0, []))))), (103, (.invokevirtual 328, (sv_N, (106, (0, []))))), (106, (.iastore, (sv_N, (107, (0, []))))), (107, (.iinc 3 2, (.inl (2 : Int32), (110, (0, []))))), (110, (.iinc 4 1, (.inl (1 : Int32), (113, (0, []))))), (113, (.goto (-49), (sv_N, (116, (64, []))))), (116, (.aload_n 0, (sv_N, (117, (0, []))))), (117, (.aload_n 0, (sv_N, (118, (0, []))))), (118, (.getfield 16, (sv_N, (121, (0, []))))), (121, (.aload_n 0, (sv_N, (122, (0, []))))), (122, (.getfield 7, (sv_N, (125, (0, []))))), (125, (.invokevirtual 324, (sv_N, (128, (0, []))))), (128, (.iconst 0, (.inl (0 : Int32), (129, (0, []))))), (129, (.istore 4, (sv_N, (131, (0, []))))), (131, (.iload 4, (sv_N, (133, (0, []))))), (133, (.iload_n 2, (sv_N, (134, (0, []))))), (134, (.if_icmp .ge 32, (sv_N, (137, (166, []))))), (137, (.iload 4, (sv_N, (139, (0, []))))), (139, (.iload_n 3, (sv_N, (140, (0, []))))), (140, (.if_icmp .ge 26, (sv_N, (143, (166, []))))), (143, (.aload_n 0, (sv_N, (144, (0, []))))), (144, (.getfield 64, (sv_N, (147, (0, []))))), (147, (.iload 4, (sv_N, (149, (0, []))))), (149, (.iaload, (sv_N, (150, (0, []))))), (150, (.aload_n 0, (sv_N, (151, (0, []))))), (151, (.getfield 67, (sv_N, (154, (0, []))))), (154, (.iload 4, (sv_N, (156, (0, []))))), (156, (.iaload, (sv_N, (157, (0, []))))), (157, (.if_icmp .ne 9, (sv_N, (160, (166, []))))), (160, (.iinc 4 1, (.inl (1 : Int32), (163, (0, []))))), (163, (.goto (-32), (sv_N, (166, (131, []))))), (166, (.iload 4, (sv_N, (168, (0, []))))), (168, (.iload_n 2, (sv_N, (169, (0, []))))), (169, (.if_icmp .ne 13, (sv_N, (172, (182, []))))), (172, (.iload 4, (sv_N, (174, (0, []))))), (174, (.iload_n 3, (sv_N, (175, (0, []))))), (175, (.if_icmp .ne 7, (sv_N, (178, (182, []))))), (178, (.iconst 0, (.inl (0 : Int32), (179, (0, []))))), (179, (.goto 7, (sv_N, (182, (186, []))))), (182, (.iconst 1, (.inl (1 : Int32), (183, (0, []))))), (183, (.iload 4, (sv_N, (185, (0, []))))), (185, (.iadd, (sv_N, (186, (0, []))))), (186, (.ireturn, (sv_N, (187, (0, [])))))]
noncomputable def ev_Mo_check : sv_E := (fun i => sv_lk i fl_12, (fun i => sv_lk i kc_12, (fun _ => false, (true, fun pc => sv_lk pc [(16, (3, .inl n_Mo_isIn)), (44, (3, .inr (.inl n_Mo_setAside))), (56, (3, .inr (.inl n_Mo_setAside))), (88, (1, .inl n_Mo_goesOn)), (91, (1, .inl n_Mo_ones)), (103, (1, .inl n_Mo_countsOfAll)), (125, (3, .inr (.inl n_Mo_setAside)))]))))
noncomputable def kk_Mo_check_166 : sv_K (Int32 × sv_S) := fun pc => sv_lk pc []
set_option maxRecDepth 20000 in
theorem e_Mo_check_166 (x2 : Int32) (x3 : Int32) (x4 : Int32) (z0 z1 : Option sv_V) (σ : sv_S) : sv_ex ev_Mo_check sv_rI (kk_Mo_check_166) cd_Mo_check 101 166 [z0, z1, some (.inl x2), some (.inl x3), some (.inl x4)] [] σ = f_Mo_check_166 x2 x3 x4 σ := by
  unfold f_Mo_check_166
  delta ev_Mo_check kk_Mo_check_166 n_Mo_isIn n_Mo_setAside n_Mo_goesOn n_Mo_ones n_Mo_countsOfAll
  generalize f_Mo_isIn = c0
  generalize f_Mo_setAside = c1
  generalize f_Mo_goesOn = c2
  generalize f_Mo_ones = c3
  generalize f_Mo_countsOfAll = c4
  rfl
noncomputable def kk_Mo_check_131 (n : Nat) : sv_K (Int32 × sv_S) := fun pc => sv_lk pc [(131, fun lo st σ => match lo, st with
    | [some (.inr (.inr (some (30, 0)))), _, some (.inl x2), some (.inl x3), some (.inl x4)], [] => f_Mo_check_131 n x2 x3 x4 σ
    | _, _ => none),
  (166, fun lo st σ => match lo, st with
    | [_, _, some (.inl x2), some (.inl x3), some (.inl x4)], [] => f_Mo_check_166 x2 x3 x4 σ
    | _, _ => none)]
set_option maxRecDepth 20000 in
theorem e_Mo_check_131 (n : Nat) (x2 : Int32) (x3 : Int32) (x4 : Int32) (z1 : Option sv_V) (σ : sv_S) : sv_ex ev_Mo_check sv_rI (kk_Mo_check_131 n) cd_Mo_check 101 131 [some (.inr (.inr (some (30, 0)))), z1, some (.inl x2), some (.inl x3), some (.inl x4)] [] σ = f_Mo_check_131 (n + 1) x2 x3 x4 σ := by
  rw [f_Mo_check_131.eq_2]
  delta ev_Mo_check kk_Mo_check_131 n_Mo_isIn n_Mo_setAside n_Mo_goesOn n_Mo_ones n_Mo_countsOfAll
  generalize f_Mo_isIn = c0
  generalize f_Mo_setAside = c1
  generalize f_Mo_goesOn = c2
  generalize f_Mo_ones = c3
  generalize f_Mo_countsOfAll = c4
  generalize f_Mo_check_131 = c5
  generalize f_Mo_check_166 = c6
  rfl
noncomputable def kk_Mo_check_116 : sv_K (Int32 × sv_S) := fun pc => sv_lk pc [(131, fun lo st σ => match lo, st with
    | [some (.inr (.inr (some (30, 0)))), _, some (.inl x2), some (.inl x3), some (.inl x4)], [] => f_Mo_check_131 sv_fu x2 x3 x4 σ
    | _, _ => none)]
set_option maxRecDepth 20000 in
theorem e_Mo_check_116 (x2 : Int32) (x3 : Int32) (z1 z4 : Option sv_V) (σ : sv_S) : sv_ex ev_Mo_check sv_rI (kk_Mo_check_116) cd_Mo_check 101 116 [some (.inr (.inr (some (30, 0)))), z1, some (.inl x2), some (.inl x3), z4] [] σ = f_Mo_check_116 x2 x3 σ := by
  unfold f_Mo_check_116
  delta ev_Mo_check kk_Mo_check_116 n_Mo_isIn n_Mo_setAside n_Mo_goesOn n_Mo_ones n_Mo_countsOfAll
  generalize f_Mo_isIn = c0
  generalize f_Mo_setAside = c1
  generalize f_Mo_goesOn = c2
  generalize f_Mo_ones = c3
  generalize f_Mo_countsOfAll = c4
  generalize f_Mo_check_131 = c5
  rfl
noncomputable def kk_Mo_check_64 (n : Nat) : sv_K (Int32 × sv_S) := fun pc => sv_lk pc [(64, fun lo st σ => match lo, st with
    | [some (.inr (.inr (some (30, 0)))), some (.inl x1), some (.inl x2), some (.inl x3), some (.inl x4)], [] => f_Mo_check_64 n x1 x2 x3 x4 σ
    | _, _ => none),
  (116, fun lo st σ => match lo, st with
    | [some (.inr (.inr (some (30, 0)))), _, some (.inl x2), some (.inl x3), _], [] => f_Mo_check_116 x2 x3 σ
    | _, _ => none)]
set_option maxRecDepth 20000 in
theorem e_Mo_check_64 (n : Nat) (x1 : Int32) (x2 : Int32) (x3 : Int32) (x4 : Int32) (σ : sv_S) : sv_ex ev_Mo_check sv_rI (kk_Mo_check_64 n) cd_Mo_check 101 64 [some (.inr (.inr (some (30, 0)))), some (.inl x1), some (.inl x2), some (.inl x3), some (.inl x4)] [] σ = f_Mo_check_64 (n + 1) x1 x2 x3 x4 σ := by
  rw [f_Mo_check_64.eq_2]
  delta ev_Mo_check kk_Mo_check_64 n_Mo_isIn n_Mo_setAside n_Mo_goesOn n_Mo_ones n_Mo_countsOfAll
  generalize f_Mo_isIn = c0
  generalize f_Mo_setAside = c1
  generalize f_Mo_goesOn = c2
  generalize f_Mo_ones = c3
  generalize f_Mo_countsOfAll = c4
  generalize f_Mo_check_64 = c5
  generalize f_Mo_check_116 = c6
  rfl
noncomputable def kk_Mo_check : sv_K (Int32 × sv_S) := fun pc => sv_lk pc [(64, fun lo st σ => match lo, st with
    | [some (.inr (.inr (some (30, 0)))), some (.inl x1), some (.inl x2), some (.inl x3), some (.inl x4)], [] => f_Mo_check_64 sv_fu x1 x2 x3 x4 σ
    | _, _ => none)]
set_option maxRecDepth 20000 in
theorem e_Mo_check (a1 : Int32) (σ : sv_S) : sv_ex ev_Mo_check sv_rI kk_Mo_check cd_Mo_check 101 0 [some (.inr (.inr (some (30, 0)))), some (.inl a1), none, none, none] [] σ = f_Mo_check a1 σ := by
  unfold f_Mo_check
  delta ev_Mo_check kk_Mo_check n_Mo_isIn n_Mo_setAside n_Mo_goesOn n_Mo_ones n_Mo_countsOfAll
  generalize f_Mo_isIn = c0
  generalize f_Mo_setAside = c1
  generalize f_Mo_goesOn = c2
  generalize f_Mo_ones = c3
  generalize f_Mo_countsOfAll = c4
  generalize f_Mo_check_64 = c5
  rfl
theorem d_Mo_check : cd_Mo_check.all (sv_dk cX12_check) = true := by decide +kernel
set_option maxRecDepth 20000 in
theorem w_Mo_check_166 {Γ : sv_Ga} {res : Int32 × sv_S} (X : sv_Ok Γ ev_Mo_check cX12_check sv_rI res) : ∀ (x2 : Int32) (x3 : Int32) (x4 : Int32) (z0 z1 : Option sv_V) (σ : sv_S), f_Mo_check_166 x2 x3 x4 σ = some res → sv_T Γ 166 [z0, z1, some (.inl x2), some (.inl x3), some (.inl x4)] [] σ := by
  intro x2 x3 x4 z0 z1 σ h
  refine sv_run X d_Mo_check (K := kk_Mo_check_166) (sv_lk_all (P := fun pc (k : sv_Lo → List sv_V → sv_S → Option (Int32 × sv_S)) => ∀ lo st σ, k lo st σ = some res → sv_T Γ pc lo st σ) ?_) _ _ _ _ _ ((e_Mo_check_166 x2 x3 x4 z0 z1 σ).trans h)
  clear h
  exact fun _ h => absurd h List.not_mem_nil

set_option maxRecDepth 20000 in
theorem w_Mo_check_131 {Γ : sv_Ga} {res : Int32 × sv_S} (X : sv_Ok Γ ev_Mo_check cX12_check sv_rI res) : ∀ (n : Nat) (x2 : Int32) (x3 : Int32) (x4 : Int32) (z1 : Option sv_V) (σ : sv_S), f_Mo_check_131 n x2 x3 x4 σ = some res → sv_T Γ 131 [some (.inr (.inr (some (30, 0)))), z1, some (.inl x2), some (.inl x3), some (.inl x4)] [] σ := by
  intro n
  induction n with
  | zero =>
    intro x2 x3 x4 z1 σ h
    rw [f_Mo_check_131.eq_1] at h
    cases h
  | succ n ih =>
    intro x2 x3 x4 z1 σ h
    refine sv_run X d_Mo_check (K := kk_Mo_check_131 n) (sv_lk_all (P := fun pc (k : sv_Lo → List sv_V → sv_S → Option (Int32 × sv_S)) => ∀ lo st σ, k lo st σ = some res → sv_T Γ pc lo st σ) ?_) _ _ _ _ _ ((e_Mo_check_131 n x2 x3 x4 z1 σ).trans h)
    clear h
    refine List.forall_mem_cons.mpr ⟨fun lo st σ h => ?_, List.forall_mem_cons.mpr ⟨fun lo st σ h => ?_, fun _ h => absurd h List.not_mem_nil⟩⟩
    · dsimp only at h
      split at h
      · exact ih _ _ _ _ _ h
      · cases h
    · dsimp only at h
      split at h
      · exact w_Mo_check_166 X _ _ _ _ _ _ h
      · cases h

set_option maxRecDepth 20000 in
theorem w_Mo_check_116 {Γ : sv_Ga} {res : Int32 × sv_S} (X : sv_Ok Γ ev_Mo_check cX12_check sv_rI res) : ∀ (x2 : Int32) (x3 : Int32) (z1 z4 : Option sv_V) (σ : sv_S), f_Mo_check_116 x2 x3 σ = some res → sv_T Γ 116 [some (.inr (.inr (some (30, 0)))), z1, some (.inl x2), some (.inl x3), z4] [] σ := by
  intro x2 x3 z1 z4 σ h
  refine sv_run X d_Mo_check (K := kk_Mo_check_116) (sv_lk_all (P := fun pc (k : sv_Lo → List sv_V → sv_S → Option (Int32 × sv_S)) => ∀ lo st σ, k lo st σ = some res → sv_T Γ pc lo st σ) ?_) _ _ _ _ _ ((e_Mo_check_116 x2 x3 z1 z4 σ).trans h)
  clear h
  refine List.forall_mem_cons.mpr ⟨fun lo st σ h => ?_, fun _ h => absurd h List.not_mem_nil⟩
  · dsimp only at h
    split at h
    · exact w_Mo_check_131 X _ _ _ _ _ _ h
    · cases h

set_option maxRecDepth 20000 in
theorem w_Mo_check_64 {Γ : sv_Ga} {res : Int32 × sv_S} (X : sv_Ok Γ ev_Mo_check cX12_check sv_rI res) : ∀ (n : Nat) (x1 : Int32) (x2 : Int32) (x3 : Int32) (x4 : Int32) (σ : sv_S), f_Mo_check_64 n x1 x2 x3 x4 σ = some res → sv_T Γ 64 [some (.inr (.inr (some (30, 0)))), some (.inl x1), some (.inl x2), some (.inl x3), some (.inl x4)] [] σ := by
  intro n
  induction n with
  | zero =>
    intro x1 x2 x3 x4 σ h
    rw [f_Mo_check_64.eq_1] at h
    cases h
  | succ n ih =>
    intro x1 x2 x3 x4 σ h
    refine sv_run X d_Mo_check (K := kk_Mo_check_64 n) (sv_lk_all (P := fun pc (k : sv_Lo → List sv_V → sv_S → Option (Int32 × sv_S)) => ∀ lo st σ, k lo st σ = some res → sv_T Γ pc lo st σ) ?_) _ _ _ _ _ ((e_Mo_check_64 n x1 x2 x3 x4 σ).trans h)
    clear h
    refine List.forall_mem_cons.mpr ⟨fun lo st σ h => ?_, List.forall_mem_cons.mpr ⟨fun lo st σ h => ?_, fun _ h => absurd h List.not_mem_nil⟩⟩
    · dsimp only at h
      split at h
      · exact ih _ _ _ _ _ h
      · cases h
    · dsimp only at h
      split at h
      · exact w_Mo_check_116 X _ _ _ _ _ h
      · cases h

set_option maxRecDepth 20000 in
theorem b_Mo_check (Γ : sv_Ga) (res : Int32 × sv_S) (X : sv_Ok Γ ev_Mo_check cX12_check sv_rI res) (as : List sv_V) (σ : sv_S) (h : n_Mo_check as σ = some res) : sv_T Γ 0 (sv_e0 5 as) [] σ := by
  unfold n_Mo_check at h
  split at h
  · refine sv_run X d_Mo_check (K := kk_Mo_check) (sv_lk_all (P := fun pc (k : sv_Lo → List sv_V → sv_S → Option (Int32 × sv_S)) => ∀ lo st σ, k lo st σ = some res → sv_T Γ pc lo st σ) ?_) _ _ _ _ _ ((e_Mo_check _ _).trans h)
    clear h
    refine List.forall_mem_cons.mpr ⟨fun lo st σ h => ?_, fun _ h => absurd h List.not_mem_nil⟩
    · dsimp only at h
      split at h
      · exact w_Mo_check_64 X _ _ _ _ _ _ h
      · cases h
  · cases h
theorem a_Mo_check (as : List sv_V) (σ : sv_S) (x : Int32 × sv_S) (h : n_Mo_check as σ = some x) : sv_args 5 ev_Mo_check.2.2.2.1 as := by
  unfold n_Mo_check at h
  split at h
  · exact ⟨Nat.le_of_ble_eq_true rfl, fun _ v hv => by
      simp only [List.mem_cons, List.not_mem_nil, or_false] at hv
      rcases hv with rfl | rfl <;> trivial⟩
  · cases h
theorem g_Mo_check (as : List sv_V) (σ : sv_S) (x : Option sv_V × sv_S) (h : sv_gI n_Mo_check as σ = some x) : ∃ r i as', as = sv_R r i :: as' ∧ sv_kd r i = .inl 12 := by
  obtain ⟨_, _, h, -⟩ := sv_b_some h
  unfold n_Mo_check at h
  split at h
  · exact ⟨_, _, _, rfl, rfl⟩
  · cases h
theorem tw_49 : Cond.selects RX12 yX12_setAside yX12_setAside ∈ gw_tbl := gw_at 49 (by decide +kernel) rfl
theorem tw_50 : Cond.selects RX12 yX12_countsOfAll yX12_countsOfAll ∈ gw_tbl := gw_at 50 (by decide +kernel) rfl
theorem tw_1469 : Cond.methodLink RX12 324 yX12_setAside ∈ gw_tbl := gw_at 1469 (by decide +kernel) rfl
theorem tw_1471 : Cond.instanceMethod yX12_setAside ∈ gw_tbl := gw_at 1471 (by decide +kernel) rfl
theorem tw_1472 : Cond.code yX12_setAside cX12_setAside 4 none ∈ gw_tbl := gw_at 1472 (by decide +kernel) rfl
theorem tw_1473 : Cond.methodLink RX12 328 yX12_countsOfAll ∈ gw_tbl := gw_at 1473 (by decide +kernel) rfl
theorem tw_1475 : Cond.instanceMethod yX12_countsOfAll ∈ gw_tbl := gw_at 1475 (by decide +kernel) rfl
theorem tw_1476 : Cond.code yX12_countsOfAll cX12_countsOfAll 3 (some .int) ∈ gw_tbl := gw_at 1476 (by decide +kernel) rfl
set_option maxRecDepth 20000 in
theorem m_Mo_check (l : Launch) : sv_M l yX12_check cX12_check 5 (some .int) (sv_gI n_Mo_check) 5 := by
  refine sv_mI (E := ev_Mo_check) (by decide +kernel) (ln_gen fk_12 kk_12 (sv_ns _ (fun _ => rfl) _)) ?_ a_Mo_check b_Mo_check
  intro p e R s m args below meth c cells slots Q base ad dC dI cA n0 S hkn hR hf pc n f h
  refine sv_lk_all (P := fun pc (x : Nat × sv_F) => sv_cok p l e R s m args below meth c cells slots Q base ad dC dI cA true 5 n0 pc x.1 x.2) ?_ pc (n, f) h
  exact List.forall_mem_cons.mpr ⟨(sv_cS S hkn (m_Mo_isIn l) ⟨Nat.le_trans (by decide) hR.1, Nat.le_trans (by decide) hR.2⟩ (by decide) hf (sv_w4 tw_1098 tw_1099 tw_65 tw_1100) (by decide +kernel) (sv_dc3 d_Mo_check (pc := 16) rfl rfl)).I,
      List.forall_mem_cons.mpr ⟨(sv_cV S hkn (m_Mo_setAside l) ⟨Nat.le_trans (by decide) hR.1, Nat.le_trans (by decide) hR.2⟩ (by decide) hf rfl g_Mo_setAside (sv_w5 tw_1469 tw_1471 tw_49 tw_65 tw_1472) (by decide +kernel) (sv_dc3 d_Mo_check (pc := 44) rfl rfl)).V,
      List.forall_mem_cons.mpr ⟨(sv_cV S hkn (m_Mo_setAside l) ⟨Nat.le_trans (by decide) hR.1, Nat.le_trans (by decide) hR.2⟩ (by decide) hf rfl g_Mo_setAside (sv_w5 tw_1469 tw_1471 tw_49 tw_65 tw_1472) (by decide +kernel) (sv_dc3 d_Mo_check (pc := 56) rfl rfl)).V,
      List.forall_mem_cons.mpr ⟨(sv_cV S hkn (m_Mo_goesOn l) ⟨Nat.le_trans (by decide) hR.1, Nat.le_trans (by decide) hR.2⟩ (by decide) hf rfl g_Mo_goesOn (sv_w5 tw_1232 tw_1234 tw_25 tw_65 tw_1235) (by decide +kernel) (sv_dc3 d_Mo_check (pc := 88) rfl rfl)).I,
      List.forall_mem_cons.mpr ⟨(sv_cS S hkn (m_Mo_ones l) ⟨Nat.le_trans (by decide) hR.1, Nat.le_trans (by decide) hR.2⟩ (by decide) hf (sv_w4 tw_1236 tw_1237 tw_65 tw_1238) (by decide +kernel) (sv_dc3 d_Mo_check (pc := 91) rfl rfl)).I,
      List.forall_mem_cons.mpr ⟨(sv_cV S hkn (m_Mo_countsOfAll l) ⟨Nat.le_trans (by decide) hR.1, Nat.le_trans (by decide) hR.2⟩ (by decide) hf rfl g_Mo_countsOfAll (sv_w5 tw_1473 tw_1475 tw_50 tw_65 tw_1476) (by decide +kernel) (sv_dc3 d_Mo_check (pc := 103) rfl rfl)).I,
      List.forall_mem_cons.mpr ⟨(sv_cV S hkn (m_Mo_setAside l) ⟨Nat.le_trans (by decide) hR.1, Nat.le_trans (by decide) hR.2⟩ (by decide) hf rfl g_Mo_setAside (sv_w5 tw_1469 tw_1471 tw_49 tw_65 tw_1472) (by decide +kernel) (sv_dc3 d_Mo_check (pc := 125) rfl rfl)).V,
      fun _ h => absurd h List.not_mem_nil⟩⟩⟩⟩⟩⟩⟩
noncomputable def f_Mo_keep (σ : sv_S) : Option (Int32 × sv_S) :=
  sv_g ((1 : Int32) = 0 ∨ (1 : Int32) = 1) (sv_b0 (f_Mo_setAside 0 1 (sv_up σ 30 0 3 (1 : Int32))) (fun σ1 =>
    sv_g (sv_in (0 : Int32) 3086) (some (σ1 31 0 ((0 : Int32).toNatClampNeg), σ1))))
noncomputable def n_Mo_keep : List sv_V → sv_S → Option (Int32 × sv_S)
  | [.inr (.inr (some (30, 0)))], σ => f_Mo_keep σ
  | _, _ => none
def cd_Mo_keep : sv_C := [(0, (.aload_n 0, (sv_N, (1, (0, []))))), (1, (.iconst 1, (.inl (1 : Int32), (2, (0, []))))), (2, (.putfield 320, (sv_N, (5, (0, []))))), (5, (.aload_n 0, (sv_N, (6, (0, []))))), (6, (.aload_n 0, (sv_N, (7, (0, []))))), (7, (.getfield 7, (sv_N, (10, (0, []))))), (10, (.aload_n 0, (sv_N, (11, (0, []))))), (11, (.getfield 13, (sv_N, (14, (0, []))))), (14, (.invokevirtual 324, (sv_N, (17, (0, []))))), (17, (.aload_n 0, (sv_N, (18, (0, []))))), (18, (.getfield 7, (sv_N, (21, (0, []))))), (21, (.iconst 0, (.inl (0 : Int32), (22, (0, []))))), (22, (.iaload, (sv_N, (23, (0, []))))), (23, (.ireturn, (sv_N, (24, (0, [])))))]
noncomputable def ev_Mo_keep : sv_E := (fun i => sv_lk i fl_12, (fun i => sv_lk i kc_12, (fun _ => false, (true, fun pc => sv_lk pc [(14, (3, .inr (.inl n_Mo_setAside)))]))))
noncomputable def kk_Mo_keep : sv_K (Int32 × sv_S) := fun pc => sv_lk pc []
set_option maxRecDepth 20000 in
theorem e_Mo_keep (σ : sv_S) : sv_ex ev_Mo_keep sv_rI kk_Mo_keep cd_Mo_keep 16 0 [some (.inr (.inr (some (30, 0))))] [] σ = f_Mo_keep σ := by
  unfold f_Mo_keep
  delta ev_Mo_keep kk_Mo_keep n_Mo_setAside
  generalize f_Mo_setAside = c0
  rfl
theorem d_Mo_keep : cd_Mo_keep.all (sv_dk cX12_keep) = true := by decide +kernel
set_option maxRecDepth 20000 in
theorem b_Mo_keep (Γ : sv_Ga) (res : Int32 × sv_S) (X : sv_Ok Γ ev_Mo_keep cX12_keep sv_rI res) (as : List sv_V) (σ : sv_S) (h : n_Mo_keep as σ = some res) : sv_T Γ 0 (sv_e0 1 as) [] σ := by
  unfold n_Mo_keep at h
  split at h
  · refine sv_run X d_Mo_keep (K := kk_Mo_keep) (sv_lk_all (P := fun pc (k : sv_Lo → List sv_V → sv_S → Option (Int32 × sv_S)) => ∀ lo st σ, k lo st σ = some res → sv_T Γ pc lo st σ) ?_) _ _ _ _ _ ((e_Mo_keep _).trans h)
    clear h
    exact fun _ h => absurd h List.not_mem_nil
  · cases h
theorem a_Mo_keep (as : List sv_V) (σ : sv_S) (x : Int32 × sv_S) (h : n_Mo_keep as σ = some x) : sv_args 1 ev_Mo_keep.2.2.2.1 as := by
  unfold n_Mo_keep at h
  split at h
  · exact ⟨Nat.le_of_ble_eq_true rfl, fun _ v hv => by
      simp only [List.mem_cons, List.not_mem_nil, or_false] at hv
      rcases hv with rfl <;> trivial⟩
  · cases h
theorem g_Mo_keep (as : List sv_V) (σ : sv_S) (x : Option sv_V × sv_S) (h : sv_gI n_Mo_keep as σ = some x) : ∃ r i as', as = sv_R r i :: as' ∧ sv_kd r i = .inl 12 := by
  obtain ⟨_, _, h, -⟩ := sv_b_some h
  unfold n_Mo_keep at h
  split at h
  · exact ⟨_, _, _, rfl, rfl⟩
  · cases h

set_option maxRecDepth 20000 in
theorem m_Mo_keep (l : Launch) : sv_M l yX12_keep cX12_keep 1 (some .int) (sv_gI n_Mo_keep) 1 := by
  refine sv_mI (E := ev_Mo_keep) (by decide +kernel) (ln_gen fk_12 kk_12 (sv_ns _ (fun _ => rfl) _)) ?_ a_Mo_keep b_Mo_keep
  intro p e R s m args below meth c cells slots Q base ad dC dI cA n0 S hkn hR hf pc n f h
  refine sv_lk_all (P := fun pc (x : Nat × sv_F) => sv_cok p l e R s m args below meth c cells slots Q base ad dC dI cA true 1 n0 pc x.1 x.2) ?_ pc (n, f) h
  exact List.forall_mem_cons.mpr ⟨(sv_cV S hkn (m_Mo_setAside l) ⟨Nat.le_trans (by decide) hR.1, Nat.le_trans (by decide) hR.2⟩ (by decide) hf rfl g_Mo_setAside (sv_w5 tw_1469 tw_1471 tw_49 tw_65 tw_1472) (by decide +kernel) (sv_dc3 d_Mo_keep (pc := 14) rfl rfl)).V,
      fun _ h => absurd h List.not_mem_nil⟩
noncomputable def f_Mo_back (σ : sv_S) : Option (Int32 × sv_S) :=
  sv_if ((σ 30 0 3) = 0)
    (some ((-1000000002 : Int32), σ))
    (sv_b0 (f_Mo_setAside 1 0 σ) (fun σ1 =>
      sv_g (sv_in (0 : Int32) 3086) (some (σ1 31 0 ((0 : Int32).toNatClampNeg), σ1))))
noncomputable def n_Mo_back : List sv_V → sv_S → Option (Int32 × sv_S)
  | [.inr (.inr (some (30, 0)))], σ => f_Mo_back σ
  | _, _ => none
def cd_Mo_back : sv_C := [(0, (.aload_n 0, (sv_N, (1, (0, []))))), (1, (.getfield 320, (sv_N, (4, (0, []))))), (4, (.ifCond .ne 6, (sv_N, (7, (10, []))))), (7, (.ldc 153, (sv_N, (9, (0, []))))), (9, (.ireturn, (sv_N, (10, (0, []))))), (10, (.aload_n 0, (sv_N, (11, (0, []))))), (11, (.aload_n 0, (sv_N, (12, (0, []))))), (12, (.getfield 13, (sv_N, (15, (0, []))))), (15, (.aload_n 0, (sv_N, (16, (0, []))))), (16, (.getfield 7, (sv_N, (19, (0, []))))), (19, (.invokevirtual 324, (sv_N, (22, (0, []))))), (22, (.aload_n 0, (sv_N, (23, (0, []))))), (23, (.getfield 7, (sv_N, (26, (0, []))))), (26, (.iconst 0, (.inl (0 : Int32), (27, (0, []))))), (27, (.iaload, (sv_N, (28, (0, []))))), (28, (.ireturn, (sv_N, (29, (0, [])))))]
noncomputable def ev_Mo_back : sv_E := (fun i => sv_lk i fl_12, (fun i => sv_lk i kc_12, (fun _ => false, (true, fun pc => sv_lk pc [(19, (3, .inr (.inl n_Mo_setAside)))]))))
noncomputable def kk_Mo_back : sv_K (Int32 × sv_S) := fun pc => sv_lk pc []
set_option maxRecDepth 20000 in
theorem e_Mo_back (σ : sv_S) : sv_ex ev_Mo_back sv_rI kk_Mo_back cd_Mo_back 18 0 [some (.inr (.inr (some (30, 0))))] [] σ = f_Mo_back σ := by
  unfold f_Mo_back
  delta ev_Mo_back kk_Mo_back n_Mo_setAside
  generalize f_Mo_setAside = c0
  rfl
theorem d_Mo_back : cd_Mo_back.all (sv_dk cX12_back) = true := by decide +kernel
set_option maxRecDepth 20000 in
theorem b_Mo_back (Γ : sv_Ga) (res : Int32 × sv_S) (X : sv_Ok Γ ev_Mo_back cX12_back sv_rI res) (as : List sv_V) (σ : sv_S) (h : n_Mo_back as σ = some res) : sv_T Γ 0 (sv_e0 1 as) [] σ := by
  unfold n_Mo_back at h
  split at h
  · refine sv_run X d_Mo_back (K := kk_Mo_back) (sv_lk_all (P := fun pc (k : sv_Lo → List sv_V → sv_S → Option (Int32 × sv_S)) => ∀ lo st σ, k lo st σ = some res → sv_T Γ pc lo st σ) ?_) _ _ _ _ _ ((e_Mo_back _).trans h)
    clear h
    exact fun _ h => absurd h List.not_mem_nil
  · cases h
theorem a_Mo_back (as : List sv_V) (σ : sv_S) (x : Int32 × sv_S) (h : n_Mo_back as σ = some x) : sv_args 1 ev_Mo_back.2.2.2.1 as := by
  unfold n_Mo_back at h
  split at h
  · exact ⟨Nat.le_of_ble_eq_true rfl, fun _ v hv => by
      simp only [List.mem_cons, List.not_mem_nil, or_false] at hv
      rcases hv with rfl <;> trivial⟩
  · cases h
theorem g_Mo_back (as : List sv_V) (σ : sv_S) (x : Option sv_V × sv_S) (h : sv_gI n_Mo_back as σ = some x) : ∃ r i as', as = sv_R r i :: as' ∧ sv_kd r i = .inl 12 := by
  obtain ⟨_, _, h, -⟩ := sv_b_some h
  unfold n_Mo_back at h
  split at h
  · exact ⟨_, _, _, rfl, rfl⟩
  · cases h

set_option maxRecDepth 20000 in
theorem m_Mo_back (l : Launch) : sv_M l yX12_back cX12_back 1 (some .int) (sv_gI n_Mo_back) 1 := by
  refine sv_mI (E := ev_Mo_back) (by decide +kernel) (ln_gen fk_12 kk_12 (sv_ns _ (fun _ => rfl) _)) ?_ a_Mo_back b_Mo_back
  intro p e R s m args below meth c cells slots Q base ad dC dI cA n0 S hkn hR hf pc n f h
  refine sv_lk_all (P := fun pc (x : Nat × sv_F) => sv_cok p l e R s m args below meth c cells slots Q base ad dC dI cA true 1 n0 pc x.1 x.2) ?_ pc (n, f) h
  exact List.forall_mem_cons.mpr ⟨(sv_cV S hkn (m_Mo_setAside l) ⟨Nat.le_trans (by decide) hR.1, Nat.le_trans (by decide) hR.2⟩ (by decide) hf rfl g_Mo_setAside (sv_w5 tw_1469 tw_1471 tw_49 tw_65 tw_1472) (by decide +kernel) (sv_dc3 d_Mo_back (pc := 19) rfl rfl)).V,
      fun _ h => absurd h List.not_mem_nil⟩
noncomputable def f_Mo_counting_4 : Nat → Int32 → Int32 → sv_S → Option (Int32 × sv_S)
  | 0, _, _, _ => none
  | n + 1, x1, x2, σ =>
    sv_g (sv_in (0 : Int32) 3086) (sv_if ((σ 31 0 ((0 : Int32).toNatClampNeg)) ≤ x2)
      (some (x1, σ))
      (sv_b (f_Mo_of x2 (2 : Int32) σ) (fun v1 σ2 =>
        sv_if (v1 ≤ 0)
          (f_Mo_counting_4 n (x1 + (0 : Int32)) (x2 + (1 : Int32)) σ2)
          (f_Mo_counting_4 n (x1 + (1 : Int32)) (x2 + (1 : Int32)) σ2))))
noncomputable def f_Mo_counting (σ : sv_S) : Option (Int32 × sv_S) :=
  f_Mo_counting_4 sv_fu (0 : Int32) (0 : Int32) σ
noncomputable def n_Mo_counting : List sv_V → sv_S → Option (Int32 × sv_S)
  | [.inr (.inr (some (30, 0)))], σ => f_Mo_counting σ
  | _, _ => none
def cd_Mo_counting : sv_C := [(0, (.iconst 0, (.inl (0 : Int32), (1, (0, []))))), (1, (.istore_n 1, (sv_N, (2, (0, []))))), (2, (.iconst 0, (.inl (0 : Int32), (3, (0, []))))), (3, (.istore_n 2, (sv_N, (4, (0, []))))), (4, (.iload_n 2, (sv_N, (5, (0, []))))), (5, (.aload_n 0, (sv_N, (6, (0, []))))), (6, (.getfield 7, (sv_N, (9, (0, []))))), (9, (.iconst 0, (.inl (0 : Int32), (10, (0, []))))), (10, (.iaload, (sv_N, (11, (0, []))))), (11, (.if_icmp .ge 26, (sv_N, (14, (37, []))))), (14, (.iload_n 1, (sv_N, (15, (0, []))))), (15, (.aload_n 0, (sv_N, (16, (0, []))))), (16, (.iload_n 2, (sv_N, (17, (0, []))))), (17, (.iconst 2, (.inl (2 : Int32), (18, (0, []))))), (18, (.invokevirtual 90, (sv_N, (21, (0, []))))), (21, (.ifCond .le 7, (sv_N, (24, (28, []))))), (24, (.iconst 1, (.inl (1 : Int32), (25, (0, []))))), (25, (.goto 4, (sv_N, (28, (29, []))))), (28, (.iconst 0, (.inl (0 : Int32), (29, (0, []))))), (29, (.iadd, (sv_N, (30, (0, []))))), (30, (.istore_n 1, (sv_N, (31, (0, []))))), (31, (.iinc 2 1, (.inl (1 : Int32), (34, (0, []))))), (34, (.goto (-30), (sv_N, (37, (4, []))))), (37, (.iload_n 1, (sv_N, (38, (0, []))))), (38, (.ireturn, (sv_N, (39, (0, [])))))]
noncomputable def ev_Mo_counting : sv_E := (fun i => sv_lk i fl_12, (fun i => sv_lk i kc_12, (fun _ => false, (true, fun pc => sv_lk pc [(18, (3, .inl n_Mo_of))]))))
noncomputable def kk_Mo_counting_4 (n : Nat) : sv_K (Int32 × sv_S) := fun pc => sv_lk pc [(4, fun lo st σ => match lo, st with
    | [some (.inr (.inr (some (30, 0)))), some (.inl x1), some (.inl x2)], [] => f_Mo_counting_4 n x1 x2 σ
    | _, _ => none)]
set_option maxRecDepth 20000 in
theorem e_Mo_counting_4 (n : Nat) (x1 : Int32) (x2 : Int32) (σ : sv_S) : sv_ex ev_Mo_counting sv_rI (kk_Mo_counting_4 n) cd_Mo_counting 27 4 [some (.inr (.inr (some (30, 0)))), some (.inl x1), some (.inl x2)] [] σ = f_Mo_counting_4 (n + 1) x1 x2 σ := by
  rw [f_Mo_counting_4.eq_2]
  delta ev_Mo_counting kk_Mo_counting_4 n_Mo_of
  generalize f_Mo_of = c0
  generalize f_Mo_counting_4 = c1
  rfl
noncomputable def kk_Mo_counting : sv_K (Int32 × sv_S) := fun pc => sv_lk pc [(4, fun lo st σ => match lo, st with
    | [some (.inr (.inr (some (30, 0)))), some (.inl x1), some (.inl x2)], [] => f_Mo_counting_4 sv_fu x1 x2 σ
    | _, _ => none)]
set_option maxRecDepth 20000 in
theorem e_Mo_counting (σ : sv_S) : sv_ex ev_Mo_counting sv_rI kk_Mo_counting cd_Mo_counting 27 0 [some (.inr (.inr (some (30, 0)))), none, none] [] σ = f_Mo_counting σ := by
  unfold f_Mo_counting
  delta ev_Mo_counting kk_Mo_counting n_Mo_of
  generalize f_Mo_of = c0
  generalize f_Mo_counting_4 = c1
  rfl
theorem d_Mo_counting : cd_Mo_counting.all (sv_dk cX12_counting) = true := by decide +kernel
set_option maxRecDepth 20000 in
theorem w_Mo_counting_4 {Γ : sv_Ga} {res : Int32 × sv_S} (X : sv_Ok Γ ev_Mo_counting cX12_counting sv_rI res) : ∀ (n : Nat) (x1 : Int32) (x2 : Int32) (σ : sv_S), f_Mo_counting_4 n x1 x2 σ = some res → sv_T Γ 4 [some (.inr (.inr (some (30, 0)))), some (.inl x1), some (.inl x2)] [] σ := by
  intro n
  induction n with
  | zero =>
    intro x1 x2 σ h
    rw [f_Mo_counting_4.eq_1] at h
    cases h
  | succ n ih =>
    intro x1 x2 σ h
    refine sv_run X d_Mo_counting (K := kk_Mo_counting_4 n) (sv_lk_all (P := fun pc (k : sv_Lo → List sv_V → sv_S → Option (Int32 × sv_S)) => ∀ lo st σ, k lo st σ = some res → sv_T Γ pc lo st σ) ?_) _ _ _ _ _ ((e_Mo_counting_4 n x1 x2 σ).trans h)
    clear h
    refine List.forall_mem_cons.mpr ⟨fun lo st σ h => ?_, fun _ h => absurd h List.not_mem_nil⟩
    · dsimp only at h
      split at h
      · exact ih _ _ _ h
      · cases h

set_option maxRecDepth 20000 in
theorem b_Mo_counting (Γ : sv_Ga) (res : Int32 × sv_S) (X : sv_Ok Γ ev_Mo_counting cX12_counting sv_rI res) (as : List sv_V) (σ : sv_S) (h : n_Mo_counting as σ = some res) : sv_T Γ 0 (sv_e0 3 as) [] σ := by
  unfold n_Mo_counting at h
  split at h
  · refine sv_run X d_Mo_counting (K := kk_Mo_counting) (sv_lk_all (P := fun pc (k : sv_Lo → List sv_V → sv_S → Option (Int32 × sv_S)) => ∀ lo st σ, k lo st σ = some res → sv_T Γ pc lo st σ) ?_) _ _ _ _ _ ((e_Mo_counting _).trans h)
    clear h
    refine List.forall_mem_cons.mpr ⟨fun lo st σ h => ?_, fun _ h => absurd h List.not_mem_nil⟩
    · dsimp only at h
      split at h
      · exact w_Mo_counting_4 X _ _ _ _ h
      · cases h
  · cases h
theorem a_Mo_counting (as : List sv_V) (σ : sv_S) (x : Int32 × sv_S) (h : n_Mo_counting as σ = some x) : sv_args 3 ev_Mo_counting.2.2.2.1 as := by
  unfold n_Mo_counting at h
  split at h
  · exact ⟨Nat.le_of_ble_eq_true rfl, fun _ v hv => by
      simp only [List.mem_cons, List.not_mem_nil, or_false] at hv
      rcases hv with rfl <;> trivial⟩
  · cases h
theorem g_Mo_counting (as : List sv_V) (σ : sv_S) (x : Option sv_V × sv_S) (h : sv_gI n_Mo_counting as σ = some x) : ∃ r i as', as = sv_R r i :: as' ∧ sv_kd r i = .inl 12 := by
  obtain ⟨_, _, h, -⟩ := sv_b_some h
  unfold n_Mo_counting at h
  split at h
  · exact ⟨_, _, _, rfl, rfl⟩
  · cases h

set_option maxRecDepth 20000 in
theorem m_Mo_counting (l : Launch) : sv_M l yX12_counting cX12_counting 3 (some .int) (sv_gI n_Mo_counting) 1 := by
  refine sv_mI (E := ev_Mo_counting) (by decide +kernel) (ln_gen fk_12 kk_12 (sv_ns _ (fun _ => rfl) _)) ?_ a_Mo_counting b_Mo_counting
  intro p e R s m args below meth c cells slots Q base ad dC dI cA n0 S hkn hR hf pc n f h
  refine sv_lk_all (P := fun pc (x : Nat × sv_F) => sv_cok p l e R s m args below meth c cells slots Q base ad dC dI cA true 3 n0 pc x.1 x.2) ?_ pc (n, f) h
  exact List.forall_mem_cons.mpr ⟨(sv_cV S hkn (m_Mo_of l) ⟨Nat.le_trans (by decide) hR.1, Nat.le_trans (by decide) hR.2⟩ (by decide) hf rfl g_Mo_of (sv_w5 tw_1120 tw_1122 tw_10 tw_65 tw_1123) (by decide +kernel) (sv_dc3 d_Mo_counting (pc := 18) rfl rfl)).I,
      fun _ h => absurd h List.not_mem_nil⟩
noncomputable def f_Mo_count (a1 : Int32) (σ : sv_S) : Option (Int32 × sv_S) :=
  sv_if (a1.toInt = 0)
    (sv_g (sv_in (0 : Int32) 3086) (some (σ 31 0 ((0 : Int32).toNatClampNeg), σ)))
    (sv_if (a1.toInt = 1)
    (sv_g (sv_in (3 : Int32) 3086) (some (σ 31 0 ((3 : Int32).toNatClampNeg), σ)))
    (sv_if (a1.toInt = 2)
    (sv_g (sv_in (2 : Int32) 3086) (some (σ 31 0 ((2 : Int32).toNatClampNeg), σ)))
    (sv_if (a1.toInt = 3)
    (sv_b (f_Mo_strokesOfAll σ) (fun v1 σ2 =>
      some (v1, σ2)))
    (sv_if (a1.toInt = 4)
    (sv_b (f_Mo_counting σ) (fun v3 σ4 =>
      some (v3, σ4)))
    (sv_if (a1.toInt = 5)
    (sv_b (f_Mo_countsOfAll σ) (fun v5 σ6 =>
      some (v5, σ6)))
    (sv_if (a1.toInt = 6)
    (sv_g (sv_in (1 : Int32) 3086) (some (σ 31 0 ((1 : Int32).toNatClampNeg), σ)))
    (sv_if (a1.toInt = 7)
    (some (σ 30 0 32, σ))
    (sv_if (a1.toInt = 8)
    (some (σ 30 0 17, σ))
    (sv_if (a1.toInt = 9)
    (sv_g (sv_in (4 : Int32) 3086) (some (σ 31 0 ((4 : Int32).toNatClampNeg), σ)))
    (some ((-1000000001 : Int32), σ)))))))))))
noncomputable def n_Mo_count : List sv_V → sv_S → Option (Int32 × sv_S)
  | [.inr (.inr (some (30, 0))), .inl a1], σ => f_Mo_count a1 σ
  | _, _ => none
def cd_Mo_count : sv_C := [(0, (.iload_n 1, (sv_N, (1, (0, []))))), (1, (.tableswitch 115 0 9 #[55, 62, 69, 76, 81, 86, 91, 98, 103, 108], (sv_N, (1, (116, [(0, 56), (1, 63), (2, 70), (3, 77), (4, 82), (5, 87), (6, 92), (7, 99), (8, 104), (9, 109)]))))), (56, (.aload_n 0, (sv_N, (57, (0, []))))), (57, (.getfield 7, (sv_N, (60, (0, []))))), (60, (.iconst 0, (.inl (0 : Int32), (61, (0, []))))), (61, (.iaload, (sv_N, (62, (0, []))))), (62, (.ireturn, (sv_N, (63, (0, []))))), (63, (.aload_n 0, (sv_N, (64, (0, []))))), (64, (.getfield 7, (sv_N, (67, (0, []))))), (67, (.iconst 3, (.inl (3 : Int32), (68, (0, []))))), (68, (.iaload, (sv_N, (69, (0, []))))), (69, (.ireturn, (sv_N, (70, (0, []))))), (70, (.aload_n 0, (sv_N, (71, (0, []))))), (71, (.getfield 7, (sv_N, (74, (0, []))))), (74, (.iconst 2, (.inl (2 : Int32), (75, (0, []))))), (75, (.iaload, (sv_N, (76, (0, []))))), (76, (.ireturn, (sv_N, (77, (0, []))))), (77, (.aload_n 0, (sv_N, (78, (0, []))))), (78, (.invokevirtual 194, (sv_N, (81, (0, []))))), (81, (.ireturn, (sv_N, (82, (0, []))))), (82, (.aload_n 0, (sv_N, (83, (0, []))))), (83, (.invokevirtual 331, (sv_N, (86, (0, []))))), (86, (.ireturn, (sv_N, (87, (0, []))))), (87, (.aload_n 0, (sv_N, (88, (0, []))))), (88, (.invokevirtual 328, (sv_N, (91, (0, []))))), (91, (.ireturn, (sv_N, (92, (0, []))))), (92, (.aload_n 0, (sv_N, (93, (0, []))))), (93, (.getfield 7, (sv_N, (96, (0, []))))), (96, (.iconst 1, (.inl (1 : Int32), (97, (0, []))))), (97, (.iaload, (sv_N, (98, (0, []))))), (98, (.ireturn, (sv_N, (99, (0, []))))), (99, (.aload_n 0, (sv_N, (100, (0, []))))), (100, (.getfield 317, (sv_N, (103, (0, []))))), (103, (.ireturn, (sv_N, (104, (0, []))))), (104, (.aload_n 0, (sv_N, (105, (0, []))))), (105, (.getfield 197, (sv_N, (108, (0, []))))), (108, (.ireturn, (sv_N, (109, (0, []))))), (109, (.aload_n 0, (sv_N, (110, (0, []))))), (110, (.getfield 7, (sv_N, (113, (0, []))))), (113, (.iconst 4, (.inl (4 : Int32), (114, (0, []))))), (114, (.iaload, (sv_N, (115, (0, []))))), (115, (.ireturn, (sv_N, (116, (0, []))))), (116, (.ldc 84, (sv_N, (118, (0, []))))), (118, (.ireturn, (sv_N, (119, (0, [])))))]
noncomputable def ev_Mo_count : sv_E := (fun i => sv_lk i fl_12, (fun i => sv_lk i kc_12, (fun _ => false, (true, fun pc => sv_lk pc [(78, (1, .inl n_Mo_strokesOfAll)), (83, (1, .inl n_Mo_counting)), (88, (1, .inl n_Mo_countsOfAll))]))))
noncomputable def kk_Mo_count : sv_K (Int32 × sv_S) := fun pc => sv_lk pc []
set_option maxRecDepth 20000 in
theorem e_Mo_count (a1 : Int32) (σ : sv_S) : sv_ex ev_Mo_count sv_rI kk_Mo_count cd_Mo_count 46 0 [some (.inr (.inr (some (30, 0)))), some (.inl a1)] [] σ = f_Mo_count a1 σ := by
  unfold f_Mo_count
  delta ev_Mo_count kk_Mo_count n_Mo_strokesOfAll n_Mo_counting n_Mo_countsOfAll
  generalize f_Mo_strokesOfAll = c0
  generalize f_Mo_counting = c1
  generalize f_Mo_countsOfAll = c2
  rfl
theorem d_Mo_count : cd_Mo_count.all (sv_dk cX12_count) = true := by decide +kernel
set_option maxRecDepth 20000 in
theorem b_Mo_count (Γ : sv_Ga) (res : Int32 × sv_S) (X : sv_Ok Γ ev_Mo_count cX12_count sv_rI res) (as : List sv_V) (σ : sv_S) (h : n_Mo_count as σ = some res) : sv_T Γ 0 (sv_e0 2 as) [] σ := by
  unfold n_Mo_count at h
  split at h
  · refine sv_run X d_Mo_count (K := kk_Mo_count) (sv_lk_all (P := fun pc (k : sv_Lo → List sv_V → sv_S → Option (Int32 × sv_S)) => ∀ lo st σ, k lo st σ = some res → sv_T Γ pc lo st σ) ?_) _ _ _ _ _ ((e_Mo_count _ _).trans h)
    clear h
    exact fun _ h => absurd h List.not_mem_nil
  · cases h
theorem a_Mo_count (as : List sv_V) (σ : sv_S) (x : Int32 × sv_S) (h : n_Mo_count as σ = some x) : sv_args 2 ev_Mo_count.2.2.2.1 as := by
  unfold n_Mo_count at h
  split at h
  · exact ⟨Nat.le_of_ble_eq_true rfl, fun _ v hv => by
      simp only [List.mem_cons, List.not_mem_nil, or_false] at hv
      rcases hv with rfl | rfl <;> trivial⟩
  · cases h
theorem g_Mo_count (as : List sv_V) (σ : sv_S) (x : Option sv_V × sv_S) (h : sv_gI n_Mo_count as σ = some x) : ∃ r i as', as = sv_R r i :: as' ∧ sv_kd r i = .inl 12 := by
  obtain ⟨_, _, h, -⟩ := sv_b_some h
  unfold n_Mo_count at h
  split at h
  · exact ⟨_, _, _, rfl, rfl⟩
  · cases h
theorem tw_51 : Cond.selects RX12 yX12_counting yX12_counting ∈ gw_tbl := gw_at 51 (by decide +kernel) rfl
theorem tw_1489 : Cond.methodLink RX12 331 yX12_counting ∈ gw_tbl := gw_at 1489 (by decide +kernel) rfl
theorem tw_1491 : Cond.instanceMethod yX12_counting ∈ gw_tbl := gw_at 1491 (by decide +kernel) rfl
theorem tw_1492 : Cond.code yX12_counting cX12_counting 3 (some .int) ∈ gw_tbl := gw_at 1492 (by decide +kernel) rfl
set_option maxRecDepth 20000 in
theorem m_Mo_count (l : Launch) : sv_M l yX12_count cX12_count 2 (some .int) (sv_gI n_Mo_count) 2 := by
  refine sv_mI (E := ev_Mo_count) (by decide +kernel) (ln_gen fk_12 kk_12 (sv_ns _ (fun _ => rfl) _)) ?_ a_Mo_count b_Mo_count
  intro p e R s m args below meth c cells slots Q base ad dC dI cA n0 S hkn hR hf pc n f h
  refine sv_lk_all (P := fun pc (x : Nat × sv_F) => sv_cok p l e R s m args below meth c cells slots Q base ad dC dI cA true 2 n0 pc x.1 x.2) ?_ pc (n, f) h
  exact List.forall_mem_cons.mpr ⟨(sv_cV S hkn (m_Mo_strokesOfAll l) ⟨Nat.le_trans (by decide) hR.1, Nat.le_trans (by decide) hR.2⟩ (by decide) hf rfl g_Mo_strokesOfAll (sv_w5 tw_1310 tw_1312 tw_32 tw_65 tw_1313) (by decide +kernel) (sv_dc3 d_Mo_count (pc := 78) rfl rfl)).I,
      List.forall_mem_cons.mpr ⟨(sv_cV S hkn (m_Mo_counting l) ⟨Nat.le_trans (by decide) hR.1, Nat.le_trans (by decide) hR.2⟩ (by decide) hf rfl g_Mo_counting (sv_w5 tw_1489 tw_1491 tw_51 tw_65 tw_1492) (by decide +kernel) (sv_dc3 d_Mo_count (pc := 83) rfl rfl)).I,
      List.forall_mem_cons.mpr ⟨(sv_cV S hkn (m_Mo_countsOfAll l) ⟨Nat.le_trans (by decide) hR.1, Nat.le_trans (by decide) hR.2⟩ (by decide) hf rfl g_Mo_countsOfAll (sv_w5 tw_1473 tw_1475 tw_50 tw_65 tw_1476) (by decide +kernel) (sv_dc3 d_Mo_count (pc := 88) rfl rfl)).I,
      fun _ h => absurd h List.not_mem_nil⟩⟩⟩
end
