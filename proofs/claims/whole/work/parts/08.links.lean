/-! ===== the classes by the tables; links ===== -/
theorem ck_u_0 : ∀ w ∈ u_ws RX0 TX0 0, w ∈ gw_tbl := gw_u [] (by decide +kernel) (by decide +kernel)
theorem ck_0 : sv_ck 0 (RX0, TX0, 0) := ⟨rfl, ck_u_0, ⟨tyX0, tyX0_ok⟩, nmX0, by decide +kernel, by decide +kernel⟩
theorem ck_u_1 : ∀ w ∈ u_ws RX1 TX1 8, w ∈ gw_tbl := gw_u [160, 162, 164, 166, 168, 170, 172, 174] (by decide +kernel) (by decide +kernel)
theorem ck_1 : sv_ck 1 (RX1, TX1, 8) := ⟨rfl, ck_u_1, ⟨tyX1, tyX1_ok⟩, nmX1, by decide +kernel, by decide +kernel⟩
theorem ck_u_2 : ∀ w ∈ u_ws RX2 TX2 0, w ∈ gw_tbl := gw_u [] (by decide +kernel) (by decide +kernel)
theorem ck_2 : sv_ck 2 (RX2, TX2, 0) := ⟨rfl, ck_u_2, ⟨tyX2, tyX2_ok⟩, nmX2, by decide +kernel, by decide +kernel⟩
theorem ck_u_3 : ∀ w ∈ u_ws RX3 TX3 0, w ∈ gw_tbl := gw_u [] (by decide +kernel) (by decide +kernel)
theorem ck_3 : sv_ck 3 (RX3, TX3, 0) := ⟨rfl, ck_u_3, ⟨tyX3, tyX3_ok⟩, nmX3, by decide +kernel, by decide +kernel⟩
theorem ck_u_4 : ∀ w ∈ u_ws RX4 TX4 0, w ∈ gw_tbl := gw_u [] (by decide +kernel) (by decide +kernel)
theorem ck_4 : sv_ck 4 (RX4, TX4, 0) := ⟨rfl, ck_u_4, ⟨tyX4, tyX4_ok⟩, nmX4, by decide +kernel, by decide +kernel⟩
theorem ck_u_5 : ∀ w ∈ u_ws RX5 TX5 9, w ∈ gw_tbl := gw_u [199, 201, 203, 205, 207, 209, 211, 213, 215] (by decide +kernel) (by decide +kernel)
theorem ck_5 : sv_ck 5 (RX5, TX5, 9) := ⟨rfl, ck_u_5, ⟨tyX5, tyX5_ok⟩, nmX5, by decide +kernel, by decide +kernel⟩
theorem ck_u_6 : ∀ w ∈ u_ws RX6 TX6 3, w ∈ gw_tbl := gw_u [269, 271, 273] (by decide +kernel) (by decide +kernel)
theorem ck_6 : sv_ck 6 (RX6, TX6, 3) := ⟨rfl, ck_u_6, ⟨tyX6, tyX6_ok⟩, nmX6, by decide +kernel, by decide +kernel⟩
theorem ck_u_7 : ∀ w ∈ u_ws RX7 TX7 0, w ∈ gw_tbl := gw_u [] (by decide +kernel) (by decide +kernel)
theorem ck_7 : sv_ck 7 (RX7, TX7, 0) := ⟨rfl, ck_u_7, ⟨tyX7, tyX7_ok⟩, nmX7, by decide +kernel, by decide +kernel⟩
theorem ck_u_8 : ∀ w ∈ u_ws RX8 TX8 9, w ∈ gw_tbl := gw_u [236, 238, 240, 242, 244, 246, 248, 250, 252] (by decide +kernel) (by decide +kernel)
theorem ck_8 : sv_ck 8 (RX8, TX8, 9) := ⟨rfl, ck_u_8, ⟨tyX8, tyX8_ok⟩, nmX8, by decide +kernel, by decide +kernel⟩
theorem ck_u_9 : ∀ w ∈ u_ws RX9 TX9 4, w ∈ gw_tbl := gw_u [878, 880, 882, 884] (by decide +kernel) (by decide +kernel)
theorem ck_9 : sv_ck 9 (RX9, TX9, 4) := ⟨rfl, ck_u_9, ⟨tyX9, tyX9_ok⟩, nmX9, by decide +kernel, by decide +kernel⟩
theorem ck_u_10 : ∀ w ∈ u_ws RX10 TX10 0, w ∈ gw_tbl := gw_u [] (by decide +kernel) (by decide +kernel)
theorem ck_10 : sv_ck 10 (RX10, TX10, 0) := ⟨rfl, ck_u_10, ⟨tyX10, tyX10_ok⟩, nmX10, by decide +kernel, by decide +kernel⟩
theorem ck_u_11 : ∀ w ∈ u_ws RX11 TX11 13, w ∈ gw_tbl := gw_u [291, 293, 295, 297, 299, 301, 303, 305, 307, 309, 311, 313, 315] (by decide +kernel) (by decide +kernel)
theorem ck_11 : sv_ck 11 (RX11, TX11, 13) := ⟨rfl, ck_u_11, ⟨tyX11, tyX11_ok⟩, nmX11, by decide +kernel, by decide +kernel⟩
theorem ck_u_12 : ∀ w ∈ u_ws RX12 TX12 34, w ∈ gw_tbl := gw_u [1024, 1026, 1028, 1030, 1032, 1034, 1036, 1038, 1040, 1042, 1044, 1046, 1048, 1050, 1052, 1054, 1056, 1058, 1060, 1062, 1064, 1066, 1068, 1070, 1072, 1074, 1076, 1078, 1080, 1082, 1084, 1086, 1088, 1090] (by decide +kernel) (by decide +kernel)
theorem ck_12 : sv_ck 12 (RX12, TX12, 34) := ⟨rfl, ck_u_12, ⟨tyX12, tyX12_ok⟩, nmX12, by decide +kernel, by decide +kernel⟩
theorem ck_all : ∀ ci q, vwCl[ci]? = some q → sv_ck ci q := by
  intro ci q h
  match ci, h with
  | 0, h => exact (Option.some.inj h) ▸ ck_0
  | 1, h => exact (Option.some.inj h) ▸ ck_1
  | 2, h => exact (Option.some.inj h) ▸ ck_2
  | 3, h => exact (Option.some.inj h) ▸ ck_3
  | 4, h => exact (Option.some.inj h) ▸ ck_4
  | 5, h => exact (Option.some.inj h) ▸ ck_5
  | 6, h => exact (Option.some.inj h) ▸ ck_6
  | 7, h => exact (Option.some.inj h) ▸ ck_7
  | 8, h => exact (Option.some.inj h) ▸ ck_8
  | 9, h => exact (Option.some.inj h) ▸ ck_9
  | 10, h => exact (Option.some.inj h) ▸ ck_10
  | 11, h => exact (Option.some.inj h) ▸ ck_11
  | 12, h => exact (Option.some.inj h) ▸ ck_12
  | n + 13, h => simp [vwCl] at h
def fl_0 : List (Nat × (Nat × Nat)) := []
def kc_0 : List (Nat × sv_V) := []
def fl_1 : List (Nat × (Nat × Nat)) := [(9, (1, 0)), (15, (1, 1)), (18, (1, 5)), (21, (1, 7)), (24, (1, 6)), (30, (1, 2)), (33, (1, 3)), (36, (1, 4))]
def kc_1 : List (Nat × sv_V) := []
def fl_2 : List (Nat × (Nat × Nat)) := []
def kc_2 : List (Nat × sv_V) := []
def fl_3 : List (Nat × (Nat × Nat)) := []
def kc_3 : List (Nat × sv_V) := []
def fl_4 : List (Nat × (Nat × Nat)) := []
def kc_4 : List (Nat × sv_V) := []
def fl_5 : List (Nat × (Nat × Nat)) := [(9, (5, 0)), (17, (5, 1)), (24, (5, 2)), (28, (5, 3)), (38, (5, 7)), (42, (5, 4)), (45, (5, 5)), (48, (5, 6)), (51, (5, 8)), (68, (1, 0)), (71, (9, 0)), (81, (1, 6)), (99, (1, 1)), (117, (1, 2)), (149, (1, 7)), (152, (1, 5))]
def kc_5 : List (Nat × sv_V) := [(74, .inl (1103515245 : Int32)), (142, .inl (-1000000005 : Int32))]
def fl_6 : List (Nat × (Nat × Nat)) := [(9, (6, 0)), (15, (6, 2)), (19, (6, 1))]
def kc_6 : List (Nat × sv_V) := [(38, .inl (-1000000005 : Int32))]
def fl_7 : List (Nat × (Nat × Nat)) := []
def kc_7 : List (Nat × sv_V) := []
def fl_8 : List (Nat × (Nat × Nat)) := [(9, (8, 0)), (15, (8, 8)), (19, (8, 1)), (25, (8, 5)), (28, (8, 6)), (31, (8, 7)), (43, (8, 3)), (46, (8, 4)), (68, (8, 2))]
def kc_8 : List (Nat × sv_V) := []
def fl_9 : List (Nat × (Nat × Nat)) := [(9, (9, 0)), (15, (9, 1)), (18, (9, 2)), (22, (9, 3))]
def kc_9 : List (Nat × sv_V) := [(25, sv_R 23 0), (27, sv_R 23 1), (29, sv_R 23 2), (31, sv_R 23 3), (33, sv_R 23 4), (35, sv_R 23 5)]
def fl_10 : List (Nat × (Nat × Nat)) := []
def kc_10 : List (Nat × sv_V) := []
def fl_11 : List (Nat × (Nat × Nat)) := [(30, (11, 0)), (36, (11, 1)), (39, (11, 2)), (45, (11, 4)), (51, (11, 5)), (56, (11, 6)), (60, (11, 7)), (65, (11, 8)), (69, (11, 9)), (73, (11, 10)), (76, (11, 12)), (88, (5, 4)), (100, (5, 1)), (103, (1, 0)), (106, (1, 1)), (109, (1, 2)), (112, (1, 3)), (115, (1, 4)), (118, (1, 5)), (121, (1, 7)), (125, (1, 6)), (140, (5, 5)), (154, (5, 6)), (169, (5, 7)), (232, (8, 1)), (241, (8, 2)), (244, (5, 8)), (255, (5, 2)), (259, (9, 0)), (262, (9, 1)), (265, (5, 3)), (277, (6, 0)), (280, (6, 2)), (291, (6, 1)), (312, (11, 11)), (315, (11, 3))]
def kc_11 : List (Nat × sv_V) := [(87, .inl (-1000000001 : Int32)), (92, .inl (-1000000003 : Int32)), (124, .inl (-1000000005 : Int32)), (153, .inl (-1000000012 : Int32)), (172, .inl (-1000000002 : Int32)), (214, .inl (-1000000011 : Int32)), (268, .inl (-1000000014 : Int32)), (276, .inl (-1000000013 : Int32)), (283, .inl (-99999 : Int32)), (284, .inl (99999 : Int32))]
def fl_12 : List (Nat × (Nat × Nat)) := [(7, (12, 0)), (13, (12, 1)), (16, (12, 2)), (19, (12, 4)), (22, (12, 5)), (25, (12, 6)), (28, (12, 7)), (31, (12, 8)), (34, (12, 9)), (37, (12, 10)), (40, (12, 11)), (43, (12, 12)), (46, (12, 13)), (49, (12, 14)), (52, (12, 16)), (55, (12, 28)), (58, (12, 29)), (61, (12, 30)), (64, (12, 31)), (67, (12, 33)), (174, (12, 15)), (197, (12, 17)), (208, (12, 19)), (211, (12, 20)), (214, (12, 18)), (220, (12, 22)), (226, (12, 21)), (237, (12, 26)), (240, (12, 25)), (267, (12, 27)), (273, (12, 24)), (276, (12, 23)), (317, (12, 32)), (320, (12, 3))]
def kc_12 : List (Nat × sv_V) := [(70, .inl (-1000000005 : Int32)), (75, .inl (1103515245 : Int32)), (80, .inr (.inl (5 : Int64))), (82, .inr (.inl (9 : Int64))), (84, .inl (-1000000001 : Int32)), (85, .inl (-1000000003 : Int32)), (133, .inl (-1000000012 : Int32)), (137, .inr (.inl (3 : Int64))), (139, .inr (.inl (100 : Int64))), (141, .inr (.inl (10 : Int64))), (153, .inl (-1000000002 : Int32)), (160, .inr (.inl (2 : Int64))), (185, .inr (.inl (60 : Int64))), (187, .inr (.inl (40 : Int64))), (192, .inr (.inl (30 : Int64))), (200, .inr (.inl (97 : Int64))), (202, .inr (.inl (122 : Int64))), (204, .inr (.inl (48 : Int64))), (206, .inr (.inl (57 : Int64))), (300, .inr (.inl (-1 : Int64))), (302, .inl (-1000000014 : Int32)), (303, .inl (-1000000011 : Int32)), (304, .inl (-1000000013 : Int32)), (305, .inr (.inl (-99999 : Int64))), (307, .inr (.inl (99999 : Int64))), (312, .inr (.inl (4 : Int64)))]
def fl_13 : List (Nat × (Nat × Nat)) := [(9, (13, 0)), (15, (13, 1))]
def kc_13 : List (Nat × sv_V) := []
def fl_21 : List (Nat × (Nat × Nat)) := []
def kc_21 : List (Nat × sv_V) := []
def fl_22 : List (Nat × (Nat × Nat)) := []
def kc_22 : List (Nat × sv_V) := []
theorem fk_0 : ∀ q ∈ fl_0, sv_fk RX0 q.1 q.2.1 q.2.2 := fun _ h => absurd h List.not_mem_nil
theorem kk_0 : ∀ q ∈ kc_0, sv_1k RX0 q.1 q.2 := fun _ h => absurd h List.not_mem_nil
theorem fk_1 : ∀ q ∈ fl_1, sv_fk RX1 q.1 q.2.1 q.2.2 := List.forall_mem_cons.mpr ⟨Or.inl ⟨_, rfl, by decide, gw_at 138 (by decide +kernel) rfl⟩, List.forall_mem_cons.mpr ⟨Or.inl ⟨_, rfl, by decide, gw_at 141 (by decide +kernel) rfl⟩, List.forall_mem_cons.mpr ⟨Or.inl ⟨_, rfl, by decide, gw_at 151 (by decide +kernel) rfl⟩, List.forall_mem_cons.mpr ⟨Or.inl ⟨_, rfl, by decide, gw_at 157 (by decide +kernel) rfl⟩, List.forall_mem_cons.mpr ⟨Or.inl ⟨_, rfl, by decide, gw_at 154 (by decide +kernel) rfl⟩, List.forall_mem_cons.mpr ⟨Or.inl ⟨_, rfl, by decide, gw_at 144 (by decide +kernel) rfl⟩, List.forall_mem_cons.mpr ⟨Or.inl ⟨_, rfl, by decide, gw_at 147 (by decide +kernel) rfl⟩, List.forall_mem_cons.mpr ⟨Or.inl ⟨_, rfl, by decide, gw_at 149 (by decide +kernel) rfl⟩, fun _ h => absurd h List.not_mem_nil⟩⟩⟩⟩⟩⟩⟩⟩
theorem kk_1 : ∀ q ∈ kc_1, sv_1k RX1 q.1 q.2 := fun _ h => absurd h List.not_mem_nil
theorem fk_2 : ∀ q ∈ fl_2, sv_fk RX2 q.1 q.2.1 q.2.2 := fun _ h => absurd h List.not_mem_nil
theorem kk_2 : ∀ q ∈ kc_2, sv_1k RX2 q.1 q.2 := fun _ h => absurd h List.not_mem_nil
theorem fk_3 : ∀ q ∈ fl_3, sv_fk RX3 q.1 q.2.1 q.2.2 := fun _ h => absurd h List.not_mem_nil
theorem kk_3 : ∀ q ∈ kc_3, sv_1k RX3 q.1 q.2 := fun _ h => absurd h List.not_mem_nil
theorem fk_4 : ∀ q ∈ fl_4, sv_fk RX4 q.1 q.2.1 q.2.2 := fun _ h => absurd h List.not_mem_nil
theorem kk_4 : ∀ q ∈ kc_4, sv_1k RX4 q.1 q.2 := fun _ h => absurd h List.not_mem_nil
theorem fk_5 : ∀ q ∈ fl_5, sv_fk RX5 q.1 q.2.1 q.2.2 := List.forall_mem_cons.mpr ⟨Or.inl ⟨_, rfl, by decide, gw_at 182 (by decide +kernel) rfl⟩, List.forall_mem_cons.mpr ⟨Or.inl ⟨_, rfl, by decide, gw_at 183 (by decide +kernel) rfl⟩, List.forall_mem_cons.mpr ⟨Or.inl ⟨_, rfl, by decide, gw_at 185 (by decide +kernel) rfl⟩, List.forall_mem_cons.mpr ⟨Or.inl ⟨_, rfl, by decide, gw_at 187 (by decide +kernel) rfl⟩, List.forall_mem_cons.mpr ⟨Or.inl ⟨_, rfl, by decide, gw_at 195 (by decide +kernel) rfl⟩, List.forall_mem_cons.mpr ⟨Or.inl ⟨_, rfl, by decide, gw_at 189 (by decide +kernel) rfl⟩, List.forall_mem_cons.mpr ⟨Or.inl ⟨_, rfl, by decide, gw_at 191 (by decide +kernel) rfl⟩, List.forall_mem_cons.mpr ⟨Or.inl ⟨_, rfl, by decide, gw_at 193 (by decide +kernel) rfl⟩, List.forall_mem_cons.mpr ⟨Or.inl ⟨_, rfl, by decide, gw_at 197 (by decide +kernel) rfl⟩, List.forall_mem_cons.mpr ⟨Or.inl ⟨_, rfl, by decide, gw_at 140 (by decide +kernel) rfl⟩, List.forall_mem_cons.mpr ⟨Or.inl ⟨_, rfl, by decide, gw_at 872 (by decide +kernel) rfl⟩, List.forall_mem_cons.mpr ⟨Or.inl ⟨_, rfl, by decide, gw_at 156 (by decide +kernel) rfl⟩, List.forall_mem_cons.mpr ⟨Or.inl ⟨_, rfl, by decide, gw_at 143 (by decide +kernel) rfl⟩, List.forall_mem_cons.mpr ⟨Or.inl ⟨_, rfl, by decide, gw_at 146 (by decide +kernel) rfl⟩, List.forall_mem_cons.mpr ⟨Or.inl ⟨_, rfl, by decide, gw_at 159 (by decide +kernel) rfl⟩, List.forall_mem_cons.mpr ⟨Or.inl ⟨_, rfl, by decide, gw_at 153 (by decide +kernel) rfl⟩, fun _ h => absurd h List.not_mem_nil⟩⟩⟩⟩⟩⟩⟩⟩⟩⟩⟩⟩⟩⟩⟩⟩
theorem kk_5 : ∀ q ∈ kc_5, sv_1k RX5 q.1 q.2 := List.forall_mem_cons.mpr ⟨gw_at 497 (by decide +kernel) rfl, List.forall_mem_cons.mpr ⟨gw_at 572 (by decide +kernel) rfl, fun _ h => absurd h List.not_mem_nil⟩⟩
theorem fk_6 : ∀ q ∈ fl_6, sv_fk RX6 q.1 q.2.1 q.2.2 := List.forall_mem_cons.mpr ⟨Or.inl ⟨_, rfl, by decide, gw_at 263 (by decide +kernel) rfl⟩, List.forall_mem_cons.mpr ⟨Or.inl ⟨_, rfl, by decide, gw_at 267 (by decide +kernel) rfl⟩, List.forall_mem_cons.mpr ⟨Or.inl ⟨_, rfl, by decide, gw_at 265 (by decide +kernel) rfl⟩, fun _ h => absurd h List.not_mem_nil⟩⟩⟩
theorem kk_6 : ∀ q ∈ kc_6, sv_1k RX6 q.1 q.2 := List.forall_mem_cons.mpr ⟨gw_at 647 (by decide +kernel) rfl, fun _ h => absurd h List.not_mem_nil⟩
theorem fk_7 : ∀ q ∈ fl_7, sv_fk RX7 q.1 q.2.1 q.2.2 := fun _ h => absurd h List.not_mem_nil
theorem kk_7 : ∀ q ∈ kc_7, sv_1k RX7 q.1 q.2 := fun _ h => absurd h List.not_mem_nil
theorem fk_8 : ∀ q ∈ fl_8, sv_fk RX8 q.1 q.2.1 q.2.2 := List.forall_mem_cons.mpr ⟨Or.inl ⟨_, rfl, by decide, gw_at 225 (by decide +kernel) rfl⟩, List.forall_mem_cons.mpr ⟨Or.inl ⟨_, rfl, by decide, gw_at 235 (by decide +kernel) rfl⟩, List.forall_mem_cons.mpr ⟨Or.inl ⟨_, rfl, by decide, gw_at 226 (by decide +kernel) rfl⟩, List.forall_mem_cons.mpr ⟨Or.inl ⟨_, rfl, by decide, gw_at 232 (by decide +kernel) rfl⟩, List.forall_mem_cons.mpr ⟨Or.inl ⟨_, rfl, by decide, gw_at 233 (by decide +kernel) rfl⟩, List.forall_mem_cons.mpr ⟨Or.inl ⟨_, rfl, by decide, gw_at 234 (by decide +kernel) rfl⟩, List.forall_mem_cons.mpr ⟨Or.inl ⟨_, rfl, by decide, gw_at 230 (by decide +kernel) rfl⟩, List.forall_mem_cons.mpr ⟨Or.inl ⟨_, rfl, by decide, gw_at 231 (by decide +kernel) rfl⟩, List.forall_mem_cons.mpr ⟨Or.inl ⟨_, rfl, by decide, gw_at 228 (by decide +kernel) rfl⟩, fun _ h => absurd h List.not_mem_nil⟩⟩⟩⟩⟩⟩⟩⟩⟩
theorem kk_8 : ∀ q ∈ kc_8, sv_1k RX8 q.1 q.2 := fun _ h => absurd h List.not_mem_nil
theorem fk_9 : ∀ q ∈ fl_9, sv_fk RX9 q.1 q.2.1 q.2.2 := List.forall_mem_cons.mpr ⟨Or.inl ⟨_, rfl, by decide, gw_at 871 (by decide +kernel) rfl⟩, List.forall_mem_cons.mpr ⟨Or.inl ⟨_, rfl, by decide, gw_at 874 (by decide +kernel) rfl⟩, List.forall_mem_cons.mpr ⟨Or.inl ⟨_, rfl, by decide, gw_at 876 (by decide +kernel) rfl⟩, List.forall_mem_cons.mpr ⟨Or.inl ⟨_, rfl, by decide, gw_at 877 (by decide +kernel) rfl⟩, fun _ h => absurd h List.not_mem_nil⟩⟩⟩⟩
theorem kk_9 : ∀ q ∈ kc_9, sv_1k RX9 q.1 q.2 := List.forall_mem_cons.mpr ⟨⟨rfl, by decide, rfl, rfl⟩, List.forall_mem_cons.mpr ⟨⟨rfl, by decide, rfl, rfl⟩, List.forall_mem_cons.mpr ⟨⟨rfl, by decide, rfl, rfl⟩, List.forall_mem_cons.mpr ⟨⟨rfl, by decide, rfl, rfl⟩, List.forall_mem_cons.mpr ⟨⟨rfl, by decide, rfl, rfl⟩, List.forall_mem_cons.mpr ⟨⟨rfl, by decide, rfl, rfl⟩, fun _ h => absurd h List.not_mem_nil⟩⟩⟩⟩⟩⟩
theorem fk_10 : ∀ q ∈ fl_10, sv_fk RX10 q.1 q.2.1 q.2.2 := fun _ h => absurd h List.not_mem_nil
theorem kk_10 : ∀ q ∈ kc_10, sv_1k RX10 q.1 q.2 := fun _ h => absurd h List.not_mem_nil
theorem fk_11 : ∀ q ∈ fl_11, sv_fk RX11 q.1 q.2.1 q.2.2 := List.forall_mem_cons.mpr ⟨Or.inl ⟨_, rfl, by decide, gw_at 278 (by decide +kernel) rfl⟩, List.forall_mem_cons.mpr ⟨Or.inl ⟨_, rfl, by decide, gw_at 279 (by decide +kernel) rfl⟩, List.forall_mem_cons.mpr ⟨Or.inl ⟨_, rfl, by decide, gw_at 280 (by decide +kernel) rfl⟩, List.forall_mem_cons.mpr ⟨Or.inl ⟨_, rfl, by decide, gw_at 282 (by decide +kernel) rfl⟩, List.forall_mem_cons.mpr ⟨Or.inl ⟨_, rfl, by decide, gw_at 283 (by decide +kernel) rfl⟩, List.forall_mem_cons.mpr ⟨Or.inl ⟨_, rfl, by decide, gw_at 284 (by decide +kernel) rfl⟩, List.forall_mem_cons.mpr ⟨Or.inl ⟨_, rfl, by decide, gw_at 285 (by decide +kernel) rfl⟩, List.forall_mem_cons.mpr ⟨Or.inl ⟨_, rfl, by decide, gw_at 286 (by decide +kernel) rfl⟩, List.forall_mem_cons.mpr ⟨Or.inl ⟨_, rfl, by decide, gw_at 287 (by decide +kernel) rfl⟩, List.forall_mem_cons.mpr ⟨Or.inl ⟨_, rfl, by decide, gw_at 288 (by decide +kernel) rfl⟩, List.forall_mem_cons.mpr ⟨Or.inl ⟨_, rfl, by decide, gw_at 290 (by decide +kernel) rfl⟩, List.forall_mem_cons.mpr ⟨Or.inl ⟨_, rfl, by decide, gw_at 190 (by decide +kernel) rfl⟩, List.forall_mem_cons.mpr ⟨Or.inl ⟨_, rfl, by decide, gw_at 184 (by decide +kernel) rfl⟩, List.forall_mem_cons.mpr ⟨Or.inl ⟨_, rfl, by decide, gw_at 139 (by decide +kernel) rfl⟩, List.forall_mem_cons.mpr ⟨Or.inl ⟨_, rfl, by decide, gw_at 142 (by decide +kernel) rfl⟩, List.forall_mem_cons.mpr ⟨Or.inl ⟨_, rfl, by decide, gw_at 145 (by decide +kernel) rfl⟩, List.forall_mem_cons.mpr ⟨Or.inl ⟨_, rfl, by decide, gw_at 148 (by decide +kernel) rfl⟩, List.forall_mem_cons.mpr ⟨Or.inl ⟨_, rfl, by decide, gw_at 150 (by decide +kernel) rfl⟩, List.forall_mem_cons.mpr ⟨Or.inl ⟨_, rfl, by decide, gw_at 152 (by decide +kernel) rfl⟩, List.forall_mem_cons.mpr ⟨Or.inl ⟨_, rfl, by decide, gw_at 158 (by decide +kernel) rfl⟩, List.forall_mem_cons.mpr ⟨Or.inl ⟨_, rfl, by decide, gw_at 155 (by decide +kernel) rfl⟩, List.forall_mem_cons.mpr ⟨Or.inl ⟨_, rfl, by decide, gw_at 192 (by decide +kernel) rfl⟩, List.forall_mem_cons.mpr ⟨Or.inl ⟨_, rfl, by decide, gw_at 194 (by decide +kernel) rfl⟩, List.forall_mem_cons.mpr ⟨Or.inl ⟨_, rfl, by decide, gw_at 196 (by decide +kernel) rfl⟩, List.forall_mem_cons.mpr ⟨Or.inl ⟨_, rfl, by decide, gw_at 227 (by decide +kernel) rfl⟩, List.forall_mem_cons.mpr ⟨Or.inl ⟨_, rfl, by decide, gw_at 229 (by decide +kernel) rfl⟩, List.forall_mem_cons.mpr ⟨Or.inl ⟨_, rfl, by decide, gw_at 198 (by decide +kernel) rfl⟩, List.forall_mem_cons.mpr ⟨Or.inl ⟨_, rfl, by decide, gw_at 186 (by decide +kernel) rfl⟩, List.forall_mem_cons.mpr ⟨Or.inl ⟨_, rfl, by decide, gw_at 873 (by decide +kernel) rfl⟩, List.forall_mem_cons.mpr ⟨Or.inl ⟨_, rfl, by decide, gw_at 875 (by decide +kernel) rfl⟩, List.forall_mem_cons.mpr ⟨Or.inl ⟨_, rfl, by decide, gw_at 188 (by decide +kernel) rfl⟩, List.forall_mem_cons.mpr ⟨Or.inl ⟨_, rfl, by decide, gw_at 264 (by decide +kernel) rfl⟩, List.forall_mem_cons.mpr ⟨Or.inl ⟨_, rfl, by decide, gw_at 268 (by decide +kernel) rfl⟩, List.forall_mem_cons.mpr ⟨Or.inl ⟨_, rfl, by decide, gw_at 266 (by decide +kernel) rfl⟩, List.forall_mem_cons.mpr ⟨Or.inl ⟨_, rfl, by decide, gw_at 289 (by decide +kernel) rfl⟩, List.forall_mem_cons.mpr ⟨Or.inl ⟨_, rfl, by decide, gw_at 281 (by decide +kernel) rfl⟩, fun _ h => absurd h List.not_mem_nil⟩⟩⟩⟩⟩⟩⟩⟩⟩⟩⟩⟩⟩⟩⟩⟩⟩⟩⟩⟩⟩⟩⟩⟩⟩⟩⟩⟩⟩⟩⟩⟩⟩⟩⟩⟩
theorem kk_11 : ∀ q ∈ kc_11, sv_1k RX11 q.1 q.2 := List.forall_mem_cons.mpr ⟨gw_at 330 (by decide +kernel) rfl, List.forall_mem_cons.mpr ⟨gw_at 331 (by decide +kernel) rfl, List.forall_mem_cons.mpr ⟨gw_at 352 (by decide +kernel) rfl, List.forall_mem_cons.mpr ⟨gw_at 476 (by decide +kernel) rfl, List.forall_mem_cons.mpr ⟨gw_at 506 (by decide +kernel) rfl, List.forall_mem_cons.mpr ⟨gw_at 630 (by decide +kernel) rfl, List.forall_mem_cons.mpr ⟨gw_at 903 (by decide +kernel) rfl, List.forall_mem_cons.mpr ⟨gw_at 914 (by decide +kernel) rfl, List.forall_mem_cons.mpr ⟨gw_at 915 (by decide +kernel) rfl, List.forall_mem_cons.mpr ⟨gw_at 916 (by decide +kernel) rfl, fun _ h => absurd h List.not_mem_nil⟩⟩⟩⟩⟩⟩⟩⟩⟩⟩
theorem gk_11 : ∀ idx, ((bif Nat.beq idx 166 then 1 else 0) = 1 → Cond.fieldLink RX11 idx "OneStroke" "ABOVE" "[I" ∈ gw_tbl) ∧ ((bif Nat.beq idx 166 then 1 else 0) = 2 → Cond.fieldLink RX11 idx "java/lang/String" "COMPACT_STRINGS" "Z" ∈ gw_tbl) := by
  intro idx
  cases h : Nat.beq idx 166 with
  | true =>
    refine ⟨fun _ => (Nat.eq_of_beq_eq_true h) ▸ gw_at 325 (by decide +kernel) rfl, fun q => ?_⟩
    simp at q
  | false => exact ⟨fun q => by simp at q, fun q => by simp at q⟩
theorem fk_12 : ∀ q ∈ fl_12, sv_fk RX12 q.1 q.2.1 q.2.2 := List.forall_mem_cons.mpr ⟨Or.inl ⟨_, rfl, by decide, gw_at 990 (by decide +kernel) rfl⟩, List.forall_mem_cons.mpr ⟨Or.inl ⟨_, rfl, by decide, gw_at 991 (by decide +kernel) rfl⟩, List.forall_mem_cons.mpr ⟨Or.inl ⟨_, rfl, by decide, gw_at 992 (by decide +kernel) rfl⟩, List.forall_mem_cons.mpr ⟨Or.inl ⟨_, rfl, by decide, gw_at 994 (by decide +kernel) rfl⟩, List.forall_mem_cons.mpr ⟨Or.inl ⟨_, rfl, by decide, gw_at 995 (by decide +kernel) rfl⟩, List.forall_mem_cons.mpr ⟨Or.inl ⟨_, rfl, by decide, gw_at 996 (by decide +kernel) rfl⟩, List.forall_mem_cons.mpr ⟨Or.inl ⟨_, rfl, by decide, gw_at 997 (by decide +kernel) rfl⟩, List.forall_mem_cons.mpr ⟨Or.inl ⟨_, rfl, by decide, gw_at 998 (by decide +kernel) rfl⟩, List.forall_mem_cons.mpr ⟨Or.inl ⟨_, rfl, by decide, gw_at 999 (by decide +kernel) rfl⟩, List.forall_mem_cons.mpr ⟨Or.inl ⟨_, rfl, by decide, gw_at 1000 (by decide +kernel) rfl⟩, List.forall_mem_cons.mpr ⟨Or.inl ⟨_, rfl, by decide, gw_at 1001 (by decide +kernel) rfl⟩, List.forall_mem_cons.mpr ⟨Or.inl ⟨_, rfl, by decide, gw_at 1002 (by decide +kernel) rfl⟩, List.forall_mem_cons.mpr ⟨Or.inl ⟨_, rfl, by decide, gw_at 1003 (by decide +kernel) rfl⟩, List.forall_mem_cons.mpr ⟨Or.inl ⟨_, rfl, by decide, gw_at 1004 (by decide +kernel) rfl⟩, List.forall_mem_cons.mpr ⟨Or.inl ⟨_, rfl, by decide, gw_at 1006 (by decide +kernel) rfl⟩, List.forall_mem_cons.mpr ⟨Or.inl ⟨_, rfl, by decide, gw_at 1018 (by decide +kernel) rfl⟩, List.forall_mem_cons.mpr ⟨Or.inl ⟨_, rfl, by decide, gw_at 1019 (by decide +kernel) rfl⟩, List.forall_mem_cons.mpr ⟨Or.inl ⟨_, rfl, by decide, gw_at 1020 (by decide +kernel) rfl⟩, List.forall_mem_cons.mpr ⟨Or.inl ⟨_, rfl, by decide, gw_at 1021 (by decide +kernel) rfl⟩, List.forall_mem_cons.mpr ⟨Or.inl ⟨_, rfl, by decide, gw_at 1023 (by decide +kernel) rfl⟩, List.forall_mem_cons.mpr ⟨Or.inl ⟨_, rfl, by decide, gw_at 1005 (by decide +kernel) rfl⟩, List.forall_mem_cons.mpr ⟨Or.inl ⟨_, rfl, by decide, gw_at 1007 (by decide +kernel) rfl⟩, List.forall_mem_cons.mpr ⟨Or.inl ⟨_, rfl, by decide, gw_at 1009 (by decide +kernel) rfl⟩, List.forall_mem_cons.mpr ⟨Or.inl ⟨_, rfl, by decide, gw_at 1010 (by decide +kernel) rfl⟩, List.forall_mem_cons.mpr ⟨Or.inl ⟨_, rfl, by decide, gw_at 1008 (by decide +kernel) rfl⟩, List.forall_mem_cons.mpr ⟨Or.inl ⟨_, rfl, by decide, gw_at 1012 (by decide +kernel) rfl⟩, List.forall_mem_cons.mpr ⟨Or.inl ⟨_, rfl, by decide, gw_at 1011 (by decide +kernel) rfl⟩, List.forall_mem_cons.mpr ⟨Or.inl ⟨_, rfl, by decide, gw_at 1016 (by decide +kernel) rfl⟩, List.forall_mem_cons.mpr ⟨Or.inl ⟨_, rfl, by decide, gw_at 1015 (by decide +kernel) rfl⟩, List.forall_mem_cons.mpr ⟨Or.inl ⟨_, rfl, by decide, gw_at 1017 (by decide +kernel) rfl⟩, List.forall_mem_cons.mpr ⟨Or.inl ⟨_, rfl, by decide, gw_at 1014 (by decide +kernel) rfl⟩, List.forall_mem_cons.mpr ⟨Or.inl ⟨_, rfl, by decide, gw_at 1013 (by decide +kernel) rfl⟩, List.forall_mem_cons.mpr ⟨Or.inl ⟨_, rfl, by decide, gw_at 1022 (by decide +kernel) rfl⟩, List.forall_mem_cons.mpr ⟨Or.inl ⟨_, rfl, by decide, gw_at 993 (by decide +kernel) rfl⟩, fun _ h => absurd h List.not_mem_nil⟩⟩⟩⟩⟩⟩⟩⟩⟩⟩⟩⟩⟩⟩⟩⟩⟩⟩⟩⟩⟩⟩⟩⟩⟩⟩⟩⟩⟩⟩⟩⟩⟩⟩
theorem kk_12 : ∀ q ∈ kc_12, sv_1k RX12 q.1 q.2 := List.forall_mem_cons.mpr ⟨gw_at 1124 (by decide +kernel) rfl, List.forall_mem_cons.mpr ⟨gw_at 1206 (by decide +kernel) rfl, List.forall_mem_cons.mpr ⟨gw_at 1097 (by decide +kernel) rfl, List.forall_mem_cons.mpr ⟨gw_at 1101 (by decide +kernel) rfl, List.forall_mem_cons.mpr ⟨gw_at 1102 (by decide +kernel) rfl, List.forall_mem_cons.mpr ⟨gw_at 1103 (by decide +kernel) rfl, List.forall_mem_cons.mpr ⟨gw_at 1178 (by decide +kernel) rfl, List.forall_mem_cons.mpr ⟨gw_at 1191 (by decide +kernel) rfl, List.forall_mem_cons.mpr ⟨gw_at 1196 (by decide +kernel) rfl, List.forall_mem_cons.mpr ⟨gw_at 1201 (by decide +kernel) rfl, List.forall_mem_cons.mpr ⟨gw_at 1223 (by decide +kernel) rfl, List.forall_mem_cons.mpr ⟨gw_at 1243 (by decide +kernel) rfl, List.forall_mem_cons.mpr ⟨gw_at 1283 (by decide +kernel) rfl, List.forall_mem_cons.mpr ⟨gw_at 1288 (by decide +kernel) rfl, List.forall_mem_cons.mpr ⟨gw_at 1301 (by decide +kernel) rfl, List.forall_mem_cons.mpr ⟨gw_at 1338 (by decide +kernel) rfl, List.forall_mem_cons.mpr ⟨gw_at 1339 (by decide +kernel) rfl, List.forall_mem_cons.mpr ⟨gw_at 1344 (by decide +kernel) rfl, List.forall_mem_cons.mpr ⟨gw_at 1345 (by decide +kernel) rfl, List.forall_mem_cons.mpr ⟨gw_at 1412 (by decide +kernel) rfl, List.forall_mem_cons.mpr ⟨gw_at 1413 (by decide +kernel) rfl, List.forall_mem_cons.mpr ⟨gw_at 1418 (by decide +kernel) rfl, List.forall_mem_cons.mpr ⟨gw_at 1419 (by decide +kernel) rfl, List.forall_mem_cons.mpr ⟨gw_at 1420 (by decide +kernel) rfl, List.forall_mem_cons.mpr ⟨gw_at 1421 (by decide +kernel) rfl, List.forall_mem_cons.mpr ⟨gw_at 1448 (by decide +kernel) rfl, fun _ h => absurd h List.not_mem_nil⟩⟩⟩⟩⟩⟩⟩⟩⟩⟩⟩⟩⟩⟩⟩⟩⟩⟩⟩⟩⟩⟩⟩⟩⟩⟩
theorem fk_13 : ∀ q ∈ fl_13, sv_fk RJ0 q.1 q.2.1 q.2.2 := List.forall_mem_cons.mpr ⟨Or.inr ⟨rfl, Or.inl ⟨rfl, gw_at 1500 (by decide +kernel) rfl⟩⟩, List.forall_mem_cons.mpr ⟨Or.inr ⟨rfl, Or.inr ⟨rfl, gw_at 1501 (by decide +kernel) rfl⟩⟩, fun _ h => absurd h List.not_mem_nil⟩⟩
theorem kk_13 : ∀ q ∈ kc_13, sv_1k RJ0 q.1 q.2 := fun _ h => absurd h List.not_mem_nil
theorem fk_22 : ∀ q ∈ fl_22, sv_fk RJ1 q.1 q.2.1 q.2.2 := fun _ h => absurd h List.not_mem_nil
theorem kk_22 : ∀ q ∈ kc_22, sv_1k RJ1 q.1 q.2 := fun _ h => absurd h List.not_mem_nil
theorem gk_13 : ∀ idx, ((bif Nat.beq idx 38 then 2 else 0) = 1 → Cond.fieldLink RJ0 idx "OneStroke" "ABOVE" "[I" ∈ gw_tbl) ∧ ((bif Nat.beq idx 38 then 2 else 0) = 2 → Cond.fieldLink RJ0 idx "java/lang/String" "COMPACT_STRINGS" "Z" ∈ gw_tbl) := by
  intro idx
  cases h : Nat.beq idx 38 with
  | true =>
    refine ⟨fun q => ?_, fun _ => (Nat.eq_of_beq_eq_true h) ▸ gw_at 721 (by decide +kernel) rfl⟩
    simp at q
  | false => exact ⟨fun q => by simp at q, fun q => by simp at q⟩
theorem ln_gen {own : String} {fl : List (Nat × (Nat × Nat))} {kc : List (Nat × sv_V)} {gs : Nat → Nat} {nl : Bool} {cs : (Nat → Option (Nat × sv_F)) × Option (Nat × (Nat → Int32))} (h1 : ∀ q ∈ fl, sv_fk own q.1 q.2.1 q.2.2) (h2 : ∀ q ∈ kc, sv_1k own q.1 q.2) (h3 : ∀ idx, (gs idx = 1 → Cond.fieldLink own idx "OneStroke" "ABOVE" "[I" ∈ gw_tbl) ∧ (gs idx = 2 → Cond.fieldLink own idx "java/lang/String" "COMPACT_STRINGS" "Z" ∈ gw_tbl)) : sv_lnk own (fun i => sv_lk i fl, (fun i => sv_lk i kc, (gs, (nl, cs)))) :=
  ⟨fun idx q h => sv_lk_all (P := fun i (x : Nat × Nat) => sv_fk own i x.1 x.2) h1 idx q h, fun idx v h => sv_lk_all (P := fun i x => sv_1k own i x) h2 idx v h, h3⟩
theorem sv_ns (x : Nat → Nat) (h : ∀ i, x i = 0) (own : String) : ∀ idx, (x idx = 1 → Cond.fieldLink own idx "OneStroke" "ABOVE" "[I" ∈ gw_tbl) ∧ (x idx = 2 → Cond.fieldLink own idx "java/lang/String" "COMPACT_STRINGS" "Z" ∈ gw_tbl) := fun idx => ⟨fun q => (by rw [h idx] at q; cases q), fun q => (by rw [h idx] at q; cases q)⟩
/-- a run of a method -/
theorem sv_run {β : Type} {Γ : sv_Ga} {E : sv_E} {cc : ByteArray} {rt : sv_V → sv_S → Option β} {res : β} (X : sv_Ok Γ E cc rt res) {cd : sv_C} (hD : cd.all (sv_dk cc) = true) {K : sv_K β} (hK : ∀ pc k, K pc = some k → ∀ lo st σ, k lo st σ = some res → sv_T Γ pc lo st σ) : ∀ (n pc : Nat) (lo : sv_Lo) (st : List sv_V) (σ : sv_S), sv_ex E rt K cd n pc lo st σ = some res → sv_T Γ pc lo st σ := by
  obtain ⟨p, l, e, R, s, m, args, below, meth, c, cells, slots, Q, base, ad, dC, dI, cA, nl, nL, n0⟩ := Γ
  obtain ⟨rfl, hx, hb, hts, ⟨own, hown, hE1, hE2, hE3⟩, hkn, hE4, hE5, hrI, hrA, hrV⟩ := X
  exact sv_ex_ok hx hb hts hown hkn ck_all hE1 hE2 hE3 hE4 hE5 hrI hrA hrV hD hK
section SVM
variable {l : Launch} {y : MethodName} {cc : ByteArray} {nL h : Nat} {E : sv_E}
/-- what a method's calls are, at height h -/
def sv_calls (l : Launch) (own : String) (cc : ByteArray) (nL h : Nat) (E : sv_E) : Prop := ∀ (p : Program) (e : Env) (R : Room) (s : State) (m : MethodId) (args : Array Value) (below : List Frame) (meth : Method) (c : Code) (cells slots : Nat) (Q : State → Prop) (base : Nat) (ad : Nat → Nat → Nat) (dC : Nat → ClassId) (dI : Nat → Nat → Nat) (cA : Nat → ClassId) (n0 : Nat), CallFix p m c cc nL s args gw_tbl own → sv_kn base ad dC dI cA s → h ≤ R.frames ∧ 64 * h ≤ R.locals → cells ≤ R.cells ∧ slots ≤ R.slots →
  ∀ pc n f, E.2.2.2.2.1 pc = some (n, f) → sv_cok p l e R s m args below meth c cells slots Q base ad dC dI cA E.2.2.2.1 nL n0 pc n f
/-- what a method's answer may be -/
def sv_rok (ret : Option FieldType) (r : Option sv_V) (w : sv_V) : Prop := match ret with
  | none => r = none ∧ ∃ n, w = sv_L n
  | some .int => r = some w ∧ ∃ n, w = .inl n
  | some .boolean => r = some w ∧ (w = .inl 0 ∨ w = .inl 1)
  | some .byte => r = some w ∧ ∃ n, w = .inl n ∧ narrow .byte (.int n) = .int n
  | some .char => r = some w ∧ ∃ n, w = .inl n ∧ narrow .char (.int n) = .int n
  | some (.object _) => r = some w ∧ (w = sv_N ∨ ∃ r i, w = sv_R r i)
  | _ => False
theorem sv_mG {β : Type} {rt : sv_V → sv_S → Option β} {G : sv_D} {F : List sv_V → sv_S → Option β} {ret : Option FieldType} (hy : plainFor y = true) (hlk : sv_lnk y.cls E) (hn5 : E.2.2.2.2.2 = none) (hc : sv_calls l y.cls cc nL h E) (hlen : ∀ as σ x, G as σ = some x → (sv_l0 as).length ≤ nL) (hnl : E.2.2.2.1 = true → ∀ as σ x, G as σ = some x → ∀ v ∈ as, sv_1 v)
    (hGF : ∀ as σ r σ', G as σ = some (r, σ') → ∃ res, F as σ = some res ∧ (∀ w τ, rt w τ = some res → τ = σ' ∧ sv_rok ret r w))
    (body : ∀ (Γ : sv_Ga) (res : β), sv_Ok Γ E cc rt res → ∀ as σ, F as σ = some res → sv_T Γ 0 (sv_e0 nL as) [] σ) : sv_M l y cc nL ret G h := by
  intro base ad dC dI cA as σ r σ' hG has
  obtain ⟨res, hF, hrt⟩ := hGF as σ r σ' hG
  refine va_MetF (cc := cc) (maxL := nL) (ret := ret) hy rfl ?_
  intro p e s m args below meth c s₁ B hml hv
  obtain ⟨rfl, hkn, hrep⟩ := hv
  have hx := B.exec
  have hb := B.bytes
  have hr := B.returns
  have hts := atoms_spec (ws := sv_ws y cc nL ret) B.pre
  have hts' : ∀ w ∈ gw_tbl, w.before (List.map (sv_c ad) as).toArray s = true := fun w hw => hts w (List.mem_cons_of_mem _ hw)
  have hown : s.vm.findClass y.cls = some m.cls := findClass_of_methodNamed B.named
  have hlocks := B.notSynchronized
  have hll := hlen as σ _ hG
  have hl := lv_entry (as.map (sv_c ad)) (n := nL) (by rw [← sv_l0_len ad]; exact hll)
  rw [lg_entry_eq]
  generalize (lg_sl (as.map (sv_c ad)) ++ List.replicate (nL - (lg_sl (as.map (sv_c ad))).length) Slot.unset).toArray = ls at hl ⊢
  have hL : sv_lh ad ls nL (sv_e0 nL as) := by
    refine ⟨?_, ?_⟩
    · unfold sv_e0
      rw [List.length_append, List.length_replicate]
      omega
    · unfold sv_e0
      rw [sv_ll_l0]
      exact hl
  have hS : va_S (fun q => base ≤ q) s.heap s.heap [] := va_S.rf
  have hok : ∀ i v, sv_ga (sv_e0 nL as) i = some v → sv_ok (sv_ct σ) v ∧ (E.2.2.2.1 = true → sv_1 v) := fun i v hi => ⟨has v (sv_ga_l0 as _ i v hi), fun q => hnl q as σ _ hG v (sv_ga_l0 as _ i v hi)⟩
  have key := body (p, (l, (e, ((headSpec (sv_ws y cc nL ret) (sv_rm h)).room, (s, (m, ((List.map (sv_c ad) as).toArray, (below, (meth, (c, (0, (0, (MQ below (sv_Qc base ad dC dI cA (sv_ct σ) r σ') (List.map (sv_c ad) as).toArray s 0 0 (fun q => base ≤ q), (base, (ad, (dC, (dI, (cA, (E.2.2.2.1, (nL, sv_ct σ)))))))))))))))))))) res
    ⟨rfl, hx, hb, hts', ⟨y.cls, hown, hlk⟩, hkn, hc p e _ s m _ below meth c 0 0 _ base ad dC dI cA (sv_ct σ) ⟨hx, hb, hml, hown, hts'⟩ hkn ⟨Nat.le_refl _, Nat.le_refl _⟩ ⟨Nat.le_refl _, Nat.le_refl _⟩, fun q hq => (by rw [hn5] at hq; cases hq), ?_, ?_, ?_⟩ as σ hF
  · exact key s.heap [] ls hrep hS hL rfl (fun v hv => by cases hv) hok
  · intro pc lo n τ hdg hn H locs ls' hR1 hS1 hL1 hct1 hst1 hlo1
    obtain ⟨rfl, hq⟩ := hrt _ _ hn
    unfold sv_rok at hq
    split at hq
    · obtain ⟨-, n', hn'⟩ := hq; cases hn'
    · obtain ⟨rfl, -⟩ := hq
      exact W.iret hx hb hr (fun t ht hW => ⟨rfl, by rw [ht]; exact hR1, hS1.F ht, fun v hv => by cases hv; exact hst1 _ List.mem_cons_self, hct1⟩) hS1.2.2 hdg
    · obtain ⟨rfl, hz⟩ := hq
      refine W.zret hx hb hr ?_ (fun t ht hW => ⟨rfl, by rw [ht]; exact hR1, hS1.F ht, fun v hv => by cases hv; exact hst1 _ List.mem_cons_self, hct1⟩) hS1.2.2 hdg
      rcases hz with hz | hz <;> (cases hz; decide)
    · obtain ⟨rfl, n', hn', hz⟩ := hq
      cases hn'
      exact W.zret hx hb hr hz (fun t ht hW => ⟨rfl, by rw [ht]; exact hR1, hS1.F ht, fun v hv => by cases hv; exact hst1 _ List.mem_cons_self, hct1⟩) hS1.2.2 hdg
    · obtain ⟨rfl, n', hn', hz⟩ := hq
      cases hn'
      exact W.zret hx hb hr hz (fun t ht hW => ⟨rfl, by rw [ht]; exact hR1, hS1.F ht, fun v hv => by cases hv; exact hst1 _ List.mem_cons_self, hct1⟩) hS1.2.2 hdg
    · obtain ⟨-, hz | ⟨r', i', hz⟩⟩ := hq <;> cases hz
    · exact absurd hq (fun q => q)
  · intro pc lo v τ hdg hv hn H locs ls' hR1 hS1 hL1 hct1 hst1 hlo1
    obtain ⟨rfl, hq⟩ := hrt _ _ hn
    unfold sv_rok at hq
    split at hq
    · obtain ⟨-, n', hn'⟩ := hq
      rcases hv with rfl | ⟨r', i', rfl⟩ <;> cases hn'
    · obtain ⟨-, n', hn'⟩ := hq
      rcases hv with rfl | ⟨r', i', rfl⟩ <;> cases hn'
    · obtain ⟨-, hz⟩ := hq
      rcases hv with rfl | ⟨r', i', rfl⟩ <;> (rcases hz with hz | hz <;> cases hz)
    · obtain ⟨-, n', hn', -⟩ := hq
      rcases hv with rfl | ⟨r', i', rfl⟩ <;> cases hn'
    · obtain ⟨-, n', hn', -⟩ := hq
      rcases hv with rfl | ⟨r', i', rfl⟩ <;> cases hn'
    · rename_i C
      obtain ⟨rfl, hz⟩ := hq
      refine W.aret hx hb hr (Or.inl ⟨C, rfl⟩) ?_ (fun t ht hW => ⟨rfl, by rw [ht]; exact hR1, hS1.F ht, fun v hv => by cases hv; exact hst1 _ List.mem_cons_self, hct1⟩) hS1.2.2 hdg
      rcases hz with rfl | ⟨r', i', rfl⟩
      · exact Or.inl rfl
      · exact Or.inr ⟨_, rfl⟩
    · exact absurd hq (fun q => q)
  · intro pc lo τ hdg hn H locs ls' hR1 hS1 hL1 hct1 hst1 hlo1
    obtain ⟨rfl, hq⟩ := hrt _ _ hn
    unfold sv_rok at hq
    split at hq
    · obtain ⟨rfl, -⟩ := hq
      exact W.vret hx hb hr (fun t ht hW => ⟨rfl, by rw [ht]; exact hR1, hS1.F ht, fun v hv => (by cases hv), hct1⟩) hS1.2.2 hdg
    · obtain ⟨-, n', hn'⟩ := hq; cases hn'
    · obtain ⟨-, hz⟩ := hq
      rcases hz with hz | hz <;> cases hz
    · obtain ⟨-, n', hn', -⟩ := hq; cases hn'
    · obtain ⟨-, n', hn', -⟩ := hq; cases hn'
    · obtain ⟨-, hz | ⟨r', i', hz⟩⟩ := hq <;> cases hz
    · exact absurd hq (fun q => q)
/-- the arguments of a function: as many as there is room for, no longs but where it says so -/
def sv_args (nL : Nat) (nl : Bool) (as : List sv_V) : Prop := (sv_l0 as).length ≤ nL ∧ (nl = true → ∀ v ∈ as, sv_1 v)
theorem sv_mI {F : List sv_V → sv_S → Option (Int32 × sv_S)} (hy : plainFor y = true) (hlk : sv_lnk y.cls E) (hn5 : E.2.2.2.2.2 = none) (hc : sv_calls l y.cls cc nL h E) (ha : ∀ as σ x, F as σ = some x → sv_args nL E.2.2.2.1 as) (body : ∀ (Γ : sv_Ga) (res : Int32 × sv_S), sv_Ok Γ E cc sv_rI res → ∀ as σ, F as σ = some res → sv_T Γ 0 (sv_e0 nL as) [] σ) : sv_M l y cc nL (some .int) (sv_gI F) h := by
  have hx : ∀ as σ x, sv_gI F as σ = some x → ∃ z, F as σ = some z := fun as σ x hq => by obtain ⟨a, τ, h1, -⟩ := sv_b_some hq; exact ⟨_, h1⟩
  refine sv_mG (F := F) (rt := sv_rI) hy hlk hn5 hc (fun as σ x hq => by obtain ⟨z, hz⟩ := hx as σ x hq; exact (ha as σ z hz).1) (fun q as σ x hq => by obtain ⟨z, hz⟩ := hx as σ x hq; exact (ha as σ z hz).2 q) (fun as σ r σ' hq => ?_) body
  obtain ⟨a, τ, h1, h2⟩ := sv_b_some hq
  cases h2
  refine ⟨_, h1, fun w τ' hw => ?_⟩
  unfold sv_rI at hw
  split at hw
  · cases hw; exact ⟨rfl, rfl, _, rfl⟩
  · cases hw
theorem sv_mZ {F : List sv_V → sv_S → Option (Int32 × sv_S)} (hy : plainFor y = true) (hlk : sv_lnk y.cls E) (hn5 : E.2.2.2.2.2 = none) (hc : sv_calls l y.cls cc nL h E) (ha : ∀ as σ x, F as σ = some x → sv_args nL E.2.2.2.1 as) (body : ∀ (Γ : sv_Ga) (res : Int32 × sv_S), sv_Ok Γ E cc sv_rZ res → ∀ as σ, F as σ = some res → sv_T Γ 0 (sv_e0 nL as) [] σ) : sv_M l y cc nL (some .boolean) (sv_gI F) h := by
  have hx : ∀ as σ x, sv_gI F as σ = some x → ∃ z, F as σ = some z := fun as σ x hq => by obtain ⟨a, τ, h1, -⟩ := sv_b_some hq; exact ⟨_, h1⟩
  refine sv_mG (F := F) (rt := sv_rZ) hy hlk hn5 hc (fun as σ x hq => by obtain ⟨z, hz⟩ := hx as σ x hq; exact (ha as σ z hz).1) (fun q as σ x hq => by obtain ⟨z, hz⟩ := hx as σ x hq; exact (ha as σ z hz).2 q) (fun as σ r σ' hq => ?_) body
  obtain ⟨a, τ, h1, h2⟩ := sv_b_some hq
  cases h2
  refine ⟨_, h1, fun w τ' hw => ?_⟩
  unfold sv_rZ at hw
  split at hw
  · obtain ⟨hz, hw⟩ := sv_g_some hw
    cases hw
    refine ⟨rfl, rfl, ?_⟩
    rcases hz with rfl | rfl
    · exact Or.inl rfl
    · exact Or.inr rfl
  · cases hw
theorem sv_mN {ty : FieldType} (hty : ty = .byte ∨ ty = .char) {F : List sv_V → sv_S → Option (Int32 × sv_S)} (hy : plainFor y = true) (hlk : sv_lnk y.cls E) (hn5 : E.2.2.2.2.2 = none) (hc : sv_calls l y.cls cc nL h E) (ha : ∀ as σ x, F as σ = some x → sv_args nL E.2.2.2.1 as) (body : ∀ (Γ : sv_Ga) (res : Int32 × sv_S), sv_Ok Γ E cc (sv_rN ty) res → ∀ as σ, F as σ = some res → sv_T Γ 0 (sv_e0 nL as) [] σ) : sv_M l y cc nL (some ty) (sv_gI F) h := by
  have hx : ∀ as σ x, sv_gI F as σ = some x → ∃ z, F as σ = some z := fun as σ x hq => by obtain ⟨a, τ, h1, -⟩ := sv_b_some hq; exact ⟨_, h1⟩
  refine sv_mG (F := F) (rt := sv_rN ty) hy hlk hn5 hc (fun as σ x hq => by obtain ⟨z, hz⟩ := hx as σ x hq; exact (ha as σ z hz).1) (fun q as σ x hq => by obtain ⟨z, hz⟩ := hx as σ x hq; exact (ha as σ z hz).2 q) (fun as σ r σ' hq => ?_) body
  obtain ⟨a, τ, h1, h2⟩ := sv_b_some hq
  cases h2
  refine ⟨_, h1, fun w τ' hw => ?_⟩
  unfold sv_rN at hw
  split at hw
  · obtain ⟨hz, hw⟩ := sv_g_some hw
    cases hw
    refine ⟨rfl, ?_⟩
    rcases hty with rfl | rfl <;> exact ⟨rfl, _, rfl, hz⟩
  · cases hw
theorem sv_mV {F : List sv_V → sv_S → Option sv_S} (hy : plainFor y = true) (hlk : sv_lnk y.cls E) (hn5 : E.2.2.2.2.2 = none) (hc : sv_calls l y.cls cc nL h E) (ha : ∀ as σ x, F as σ = some x → sv_args nL E.2.2.2.1 as) (body : ∀ (Γ : sv_Ga) (res : sv_S), sv_Ok Γ E cc sv_rV res → ∀ as σ, F as σ = some res → sv_T Γ 0 (sv_e0 nL as) [] σ) : sv_M l y cc nL none (sv_gV F) h := by
  have hx : ∀ as σ x, sv_gV F as σ = some x → ∃ z, F as σ = some z := fun as σ x hq => by obtain ⟨τ, h1, -⟩ := sv_b0_some hq; exact ⟨_, h1⟩
  refine sv_mG (F := F) (rt := sv_rV) hy hlk hn5 hc (fun as σ x hq => by obtain ⟨z, hz⟩ := hx as σ x hq; exact (ha as σ z hz).1) (fun q as σ x hq => by obtain ⟨z, hz⟩ := hx as σ x hq; exact (ha as σ z hz).2 q) (fun as σ r σ' hq => ?_) body
  obtain ⟨τ, h1, h2⟩ := sv_b0_some hq
  cases h2
  refine ⟨_, h1, fun w τ' hw => ?_⟩
  unfold sv_rV at hw
  split at hw
  · cases hw; exact ⟨rfl, rfl, _, rfl⟩
  · cases hw
theorem sv_mR {C : String} {q : Nat} {F : List sv_V → sv_S → Option (Nat × sv_S)} (hy : plainFor y = true) (hlk : sv_lnk y.cls E) (hn5 : E.2.2.2.2.2 = none) (hc : sv_calls l y.cls cc nL h E) (ha : ∀ as σ x, F as σ = some x → sv_args nL E.2.2.2.1 as) (body : ∀ (Γ : sv_Ga) (res : Nat × sv_S), sv_Ok Γ E cc (sv_rR q) res → ∀ as σ, F as σ = some res → sv_T Γ 0 (sv_e0 nL as) [] σ) : sv_M l y cc nL (some (.object C)) (sv_gR q F) h := by
  have hx : ∀ as σ x, sv_gR q F as σ = some x → ∃ z, F as σ = some z := fun as σ x hq => by obtain ⟨a, τ, h1, -⟩ := sv_b_some hq; exact ⟨_, h1⟩
  refine sv_mG (F := F) (rt := sv_rR q) hy hlk hn5 hc (fun as σ x hq => by obtain ⟨z, hz⟩ := hx as σ x hq; exact (ha as σ z hz).1) (fun q as σ x hq => by obtain ⟨z, hz⟩ := hx as σ x hq; exact (ha as σ z hz).2 q) (fun as σ r σ' hq => ?_) body
  obtain ⟨a, τ, h1, h2⟩ := sv_b_some hq
  cases h2
  refine ⟨_, h1, fun w τ' hw => ?_⟩
  unfold sv_rR at hw
  split at hw
  · rename_i r0 i0
    cases hb : Nat.beq r0 q with
    | false => rw [hb] at hw; cases hw
    | true =>
      rw [hb] at hw
      cases hw
      rw [Nat.eq_of_beq_eq_true hb]
      exact ⟨rfl, rfl, Or.inr ⟨_, _, rfl⟩⟩
  · cases hw
theorem sv_mT {C : String} {F : List sv_V → sv_S → Option (Option Nat × sv_S)} (hy : plainFor y = true) (hlk : sv_lnk y.cls E) (hn5 : E.2.2.2.2.2 = none) (hc : sv_calls l y.cls cc nL h E) (ha : ∀ as σ x, F as σ = some x → sv_args nL E.2.2.2.1 as) (body : ∀ (Γ : sv_Ga) (res : Option Nat × sv_S), sv_Ok Γ E cc sv_rT res → ∀ as σ, F as σ = some res → sv_T Γ 0 (sv_e0 nL as) [] σ) : sv_M l y cc nL (some (.object C)) (sv_gT F) h := by
  have hx : ∀ as σ x, sv_gT F as σ = some x → ∃ z, F as σ = some z := fun as σ x hq => by rcases sv_bT_some hq with ⟨τ, h1, -⟩ | ⟨t, τ, h1, -⟩ <;> exact ⟨_, h1⟩
  refine sv_mG (F := F) (rt := sv_rT) hy hlk hn5 hc (fun as σ x hq => by obtain ⟨z, hz⟩ := hx as σ x hq; exact (ha as σ z hz).1) (fun q as σ x hq => by obtain ⟨z, hz⟩ := hx as σ x hq; exact (ha as σ z hz).2 q) (fun as σ r σ' hq => ?_) body
  rcases sv_bT_some hq with ⟨τ, h1, h2⟩ | ⟨t, τ, h1, h2⟩
  all_goals
    cases h2
    refine ⟨_, h1, fun w τ' hw => ?_⟩
    unfold sv_rT at hw
    split at hw
  · cases hw; exact ⟨rfl, rfl, Or.inl rfl⟩
  · rename_i r0 i0
    cases hb : Nat.beq r0 18 with
    | false => rw [hb] at hw; cases hw
    | true => rw [hb] at hw; cases hw
  · cases hw
  · cases hw
  · rename_i r0 i0
    cases hb : Nat.beq r0 18 with
    | false => rw [hb] at hw; cases hw
    | true =>
      rw [hb] at hw
      cases hw
      rw [Nat.eq_of_beq_eq_true hb]
      exact ⟨rfl, rfl, Or.inr ⟨_, _, rfl⟩⟩
  · cases hw
end SVM
