def sv_fu : Nat := 4000
def sv_rI (v : sv_V) (σ : sv_S) : Option (Int32 × sv_S) := match v with
  | .inl n => some (n, σ)
  | _ => none
def sv_rV (_ : sv_V) (σ : sv_S) : Option sv_S := some σ
def sv_rR (q : Nat) (v : sv_V) (σ : sv_S) : Option (Nat × sv_S) := match v with
  | .inr (.inr (some (r, i))) => bif Nat.beq r q then some (i, σ) else none
  | _ => none
def sv_rT (v : sv_V) (σ : sv_S) : Option (Option Nat × sv_S) := match v with
  | .inr (.inr none) => some (none, σ)
  | .inr (.inr (some (r, i))) => bif Nat.beq r 18 then some (some i, σ) else none
  | _ => none
def fl_0 : List (Nat × (Nat × Nat)) := []
def kc_0 : List (Nat × sv_V) := []
def fl_1 : List (Nat × (Nat × Nat)) := [(9, (1, 0)), (15, (1, 1)), (18, (1, 5)), (21, (1, 7)), (24, (1, 6)), (30, (1, 2)), (33, (1, 3)), (36, (1, 4))]
def kc_1 : List (Nat × sv_V) := []
def fl_2 : List (Nat × (Nat × Nat)) := []
def kc_2 : List (Nat × sv_V) := []
def fl_3 : List (Nat × (Nat × Nat)) := []
def kc_3 : List (Nat × sv_V) := []
def fl_4 : List (Nat × (Nat × Nat)) := []
def kc_4 : List (Nat × sv_V) := []
def fl_5 : List (Nat × (Nat × Nat)) := [(9, (5, 0)), (17, (5, 1)), (24, (5, 2)), (28, (5, 3)), (38, (5, 7)), (42, (5, 4)), (45, (5, 5)), (48, (5, 6)), (51, (5, 8)), (68, (1, 0)), (71, (9, 0)), (81, (1, 6)), (99, (1, 1)), (117, (1, 2)), (149, (1, 7)), (152, (1, 5))]
def kc_5 : List (Nat × sv_V) := [(74, .inl (1103515245 : Int32)), (142, .inl (-1000000005 : Int32))]
def fl_6 : List (Nat × (Nat × Nat)) := [(9, (6, 0)), (15, (6, 2)), (19, (6, 1))]
def kc_6 : List (Nat × sv_V) := [(38, .inl (-1000000005 : Int32))]
def fl_7 : List (Nat × (Nat × Nat)) := []
def kc_7 : List (Nat × sv_V) := []
def fl_8 : List (Nat × (Nat × Nat)) := [(9, (8, 0)), (15, (8, 8)), (19, (8, 1)), (25, (8, 5)), (28, (8, 6)), (31, (8, 7)), (43, (8, 3)), (46, (8, 4)), (68, (8, 2))]
def kc_8 : List (Nat × sv_V) := []
def fl_9 : List (Nat × (Nat × Nat)) := [(9, (9, 0)), (15, (9, 1)), (18, (9, 2)), (22, (9, 3))]
def kc_9 : List (Nat × sv_V) := [(25, sv_R 23 0), (27, sv_R 23 1), (29, sv_R 23 2), (31, sv_R 23 3), (33, sv_R 23 4), (35, sv_R 23 5)]
def fl_10 : List (Nat × (Nat × Nat)) := []
def kc_10 : List (Nat × sv_V) := []
def fl_11 : List (Nat × (Nat × Nat)) := [(30, (11, 0)), (36, (11, 1)), (39, (11, 2)), (45, (11, 4)), (51, (11, 5)), (56, (11, 6)), (60, (11, 7)), (65, (11, 8)), (69, (11, 9)), (73, (11, 10)), (76, (11, 12)), (88, (5, 4)), (100, (5, 1)), (103, (1, 0)), (106, (1, 1)), (109, (1, 2)), (112, (1, 3)), (115, (1, 4)), (118, (1, 5)), (121, (1, 7)), (125, (1, 6)), (140, (5, 5)), (154, (5, 6)), (169, (5, 7)), (232, (8, 1)), (241, (8, 2)), (244, (5, 8)), (255, (5, 2)), (259, (9, 0)), (262, (9, 1)), (265, (5, 3)), (277, (6, 0)), (280, (6, 2)), (291, (6, 1)), (312, (11, 11)), (315, (11, 3))]
def kc_11 : List (Nat × sv_V) := [(87, .inl (-1000000001 : Int32)), (92, .inl (-1000000003 : Int32)), (124, .inl (-1000000005 : Int32)), (153, .inl (-1000000012 : Int32)), (172, .inl (-1000000002 : Int32)), (214, .inl (-1000000011 : Int32)), (268, .inl (-1000000014 : Int32)), (276, .inl (-1000000013 : Int32)), (283, .inl (-99999 : Int32)), (284, .inl (99999 : Int32))]
def fl_12 : List (Nat × (Nat × Nat)) := [(7, (12, 0)), (13, (12, 1)), (16, (12, 2)), (19, (12, 4)), (22, (12, 5)), (25, (12, 6)), (28, (12, 7)), (31, (12, 8)), (34, (12, 9)), (37, (12, 10)), (40, (12, 11)), (43, (12, 12)), (46, (12, 13)), (49, (12, 14)), (52, (12, 16)), (55, (12, 28)), (58, (12, 29)), (61, (12, 30)), (64, (12, 31)), (67, (12, 33)), (174, (12, 15)), (197, (12, 17)), (208, (12, 19)), (211, (12, 20)), (214, (12, 18)), (220, (12, 22)), (226, (12, 21)), (237, (12, 26)), (240, (12, 25)), (267, (12, 27)), (273, (12, 24)), (276, (12, 23)), (317, (12, 32)), (320, (12, 3))]
def kc_12 : List (Nat × sv_V) := [(70, .inl (-1000000005 : Int32)), (75, .inl (1103515245 : Int32)), (80, .inr (.inl (5 : Int64))), (82, .inr (.inl (9 : Int64))), (84, .inl (-1000000001 : Int32)), (85, .inl (-1000000003 : Int32)), (133, .inl (-1000000012 : Int32)), (137, .inr (.inl (3 : Int64))), (139, .inr (.inl (100 : Int64))), (141, .inr (.inl (10 : Int64))), (153, .inl (-1000000002 : Int32)), (160, .inr (.inl (2 : Int64))), (185, .inr (.inl (60 : Int64))), (187, .inr (.inl (40 : Int64))), (192, .inr (.inl (30 : Int64))), (200, .inr (.inl (97 : Int64))), (202, .inr (.inl (122 : Int64))), (204, .inr (.inl (48 : Int64))), (206, .inr (.inl (57 : Int64))), (300, .inr (.inl (-1 : Int64))), (302, .inl (-1000000014 : Int32)), (303, .inl (-1000000011 : Int32)), (304, .inl (-1000000013 : Int32)), (305, .inr (.inl (-99999 : Int64))), (307, .inr (.inl (99999 : Int64))), (312, .inr (.inl (4 : Int64)))]
















































noncomputable def f_Mo_isIn (a0 : Int64) (a1 : Int64) (a2 : Int64) (σ : sv_S) : Option (Int32 × sv_S) :=
  sv_if ((lg_cmp a0 a1) < 0)
    (some ((0 : Int32), σ))
    (sv_if (0 < (lg_cmp a0 a2))
      (some ((0 : Int32), σ))
      (some ((1 : Int32), σ)))
noncomputable def n_Mo_isIn : List sv_V → sv_S → Option (Int32 × sv_S)
  | [.inr (.inl a0), .inr (.inl a1), .inr (.inl a2)], σ => f_Mo_isIn a0 a1 a2 σ
  | _, _ => none
def cd_Mo_isIn : sv_C := [(0, (.lload_n 0, (sv_N, (1, (0, []))))), (1, (.lload_n 2, (sv_N, (2, (0, []))))), (2, (.lcmp, (sv_N, (3, (0, []))))), (3, (.ifCond .lt 14, (sv_N, (6, (17, []))))), (6, (.lload_n 0, (sv_N, (7, (0, []))))), (7, (.lload 4, (sv_N, (9, (0, []))))), (9, (.lcmp, (sv_N, (10, (0, []))))), (10, (.ifCond .gt 7, (sv_N, (13, (17, []))))), (13, (.iconst 1, (.inl (1 : Int32), (14, (0, []))))), (14, (.goto 4, (sv_N, (17, (18, []))))), (17, (.iconst 0, (.inl (0 : Int32), (18, (0, []))))), (18, (.ireturn, (sv_N, (19, (0, [])))))]
noncomputable def ev_Mo_isIn : sv_E := (fun i => sv_lk i fl_12, (fun i => sv_lk i kc_12, (fun i => Nat.beq i 0, (false, fun pc => sv_lk pc []))))
noncomputable def kk_Mo_isIn : sv_K (Int32 × sv_S) := fun pc => sv_lk pc []
set_option maxRecDepth 20000 in
theorem e_Mo_isIn (a0 : Int64) (a1 : Int64) (a2 : Int64) (σ : sv_S) : sv_ex ev_Mo_isIn sv_rI kk_Mo_isIn cd_Mo_isIn 14 0 [some (sv_L a0), none, some (sv_L a1), none, some (sv_L a2), none] [] σ = f_Mo_isIn a0 a1 a2 σ := by
  unfold f_Mo_isIn
  delta ev_Mo_isIn kk_Mo_isIn
  rfl
noncomputable def f_Mo_orNone (a0 : Int32) (σ : sv_S) : Option (Int32 × sv_S) :=
  sv_if (0 ≤ a0)
    (some (a0, σ))
    (some ((-1000000005 : Int32), σ))
noncomputable def n_Mo_orNone : List sv_V → sv_S → Option (Int32 × sv_S)
  | [.inl a0], σ => f_Mo_orNone a0 σ
  | _, _ => none
def cd_Mo_orNone : sv_C := [(0, (.iload_n 0, (sv_N, (1, (0, []))))), (1, (.ifCond .ge 8, (sv_N, (4, (9, []))))), (4, (.ldc 70, (sv_N, (6, (0, []))))), (6, (.goto 4, (sv_N, (9, (10, []))))), (9, (.iload_n 0, (sv_N, (10, (0, []))))), (10, (.ireturn, (sv_N, (11, (0, [])))))]
noncomputable def ev_Mo_orNone : sv_E := (fun i => sv_lk i fl_12, (fun i => sv_lk i kc_12, (fun i => Nat.beq i 0, (true, fun pc => sv_lk pc []))))
noncomputable def kk_Mo_orNone : sv_K (Int32 × sv_S) := fun pc => sv_lk pc []
set_option maxRecDepth 20000 in
theorem e_Mo_orNone (a0 : Int32) (σ : sv_S) : sv_ex ev_Mo_orNone sv_rI kk_Mo_orNone cd_Mo_orNone 8 0 [some (.inl a0)] [] σ = f_Mo_orNone a0 σ := by
  unfold f_Mo_orNone
  delta ev_Mo_orNone kk_Mo_orNone
  rfl
noncomputable def f_Mo_held (a0 : Int32) (a1 : Int32) (a2 : Int32) (σ : sv_S) : Option (Int32 × sv_S) :=
  sv_if (a1 ≤ a0)
    (sv_if (a0 ≤ a2)
      (some (a0, σ))
      (some (a2, σ)))
    (some (a1, σ))
noncomputable def n_Mo_held : List sv_V → sv_S → Option (Int32 × sv_S)
  | [.inl a0, .inl a1, .inl a2], σ => f_Mo_held a0 a1 a2 σ
  | _, _ => none
def cd_Mo_held : sv_C := [(0, (.iload_n 0, (sv_N, (1, (0, []))))), (1, (.iload_n 1, (sv_N, (2, (0, []))))), (2, (.if_icmp .ge 7, (sv_N, (5, (9, []))))), (5, (.iload_n 1, (sv_N, (6, (0, []))))), (6, (.goto 13, (sv_N, (9, (19, []))))), (9, (.iload_n 0, (sv_N, (10, (0, []))))), (10, (.iload_n 2, (sv_N, (11, (0, []))))), (11, (.if_icmp .le 7, (sv_N, (14, (18, []))))), (14, (.iload_n 2, (sv_N, (15, (0, []))))), (15, (.goto 4, (sv_N, (18, (19, []))))), (18, (.iload_n 0, (sv_N, (19, (0, []))))), (19, (.ireturn, (sv_N, (20, (0, [])))))]
noncomputable def ev_Mo_held : sv_E := (fun i => sv_lk i fl_12, (fun i => sv_lk i kc_12, (fun i => Nat.beq i 0, (true, fun pc => sv_lk pc []))))
noncomputable def kk_Mo_held : sv_K (Int32 × sv_S) := fun pc => sv_lk pc []
set_option maxRecDepth 20000 in
theorem e_Mo_held (a0 : Int32) (a1 : Int32) (a2 : Int32) (σ : sv_S) : sv_ex ev_Mo_held sv_rI kk_Mo_held cd_Mo_held 14 0 [some (.inl a0), some (.inl a1), some (.inl a2)] [] σ = f_Mo_held a0 a1 a2 σ := by
  unfold f_Mo_held
  delta ev_Mo_held kk_Mo_held
  rfl
noncomputable def f_Mo_off (a0 : Int32) (a1 : Int32) (σ : sv_S) : Option (Int32 × sv_S) :=
  sv_if (a1 ≤ a0)
    (some (a0 - a1, σ))
    (some (a1 - a0, σ))
noncomputable def n_Mo_off : List sv_V → sv_S → Option (Int32 × sv_S)
  | [.inl a0, .inl a1], σ => f_Mo_off a0 a1 σ
  | _, _ => none
def cd_Mo_off : sv_C := [(0, (.iload_n 0, (sv_N, (1, (0, []))))), (1, (.iload_n 1, (sv_N, (2, (0, []))))), (2, (.if_icmp .ge 9, (sv_N, (5, (11, []))))), (5, (.iload_n 1, (sv_N, (6, (0, []))))), (6, (.iload_n 0, (sv_N, (7, (0, []))))), (7, (.isub, (sv_N, (8, (0, []))))), (8, (.goto 6, (sv_N, (11, (14, []))))), (11, (.iload_n 0, (sv_N, (12, (0, []))))), (12, (.iload_n 1, (sv_N, (13, (0, []))))), (13, (.isub, (sv_N, (14, (0, []))))), (14, (.ireturn, (sv_N, (15, (0, [])))))]
noncomputable def ev_Mo_off : sv_E := (fun i => sv_lk i fl_12, (fun i => sv_lk i kc_12, (fun i => Nat.beq i 0, (true, fun pc => sv_lk pc []))))
noncomputable def kk_Mo_off : sv_K (Int32 × sv_S) := fun pc => sv_lk pc []
set_option maxRecDepth 20000 in
theorem e_Mo_off (a0 : Int32) (a1 : Int32) (σ : sv_S) : sv_ex ev_Mo_off sv_rI kk_Mo_off cd_Mo_off 13 0 [some (.inl a0), some (.inl a1)] [] σ = f_Mo_off a0 a1 σ := by
  unfold f_Mo_off
  delta ev_Mo_off kk_Mo_off
  rfl
noncomputable def f_Mo_becomes (a1 : Int32) (a2 : Int32) (σ : sv_S) : Option (Int32 × sv_S) :=
  sv_g (sv_in a1 3086) (sv_g (sv_in a1 3086) (some (σ 31 0 (a1.toNatClampNeg), sv_up σ 31 0 (a1.toNatClampNeg) a2)))
noncomputable def n_Mo_becomes : List sv_V → sv_S → Option (Int32 × sv_S)
  | [.inr (.inr (some (30, 0))), .inl a1, .inl a2], σ => f_Mo_becomes a1 a2 σ
  | _, _ => none
def cd_Mo_becomes : sv_C := [(0, (.aload_n 0, (sv_N, (1, (0, []))))), (1, (.getfield 7, (sv_N, (4, (0, []))))), (4, (.iload_n 1, (sv_N, (5, (0, []))))), (5, (.iaload, (sv_N, (6, (0, []))))), (6, (.istore_n 3, (sv_N, (7, (0, []))))), (7, (.aload_n 0, (sv_N, (8, (0, []))))), (8, (.getfield 7, (sv_N, (11, (0, []))))), (11, (.iload_n 1, (sv_N, (12, (0, []))))), (12, (.iload_n 2, (sv_N, (13, (0, []))))), (13, (.iastore, (sv_N, (14, (0, []))))), (14, (.iload_n 3, (sv_N, (15, (0, []))))), (15, (.ireturn, (sv_N, (16, (0, [])))))]
noncomputable def ev_Mo_becomes : sv_E := (fun i => sv_lk i fl_12, (fun i => sv_lk i kc_12, (fun i => Nat.beq i 0, (true, fun pc => sv_lk pc []))))
noncomputable def kk_Mo_becomes : sv_K (Int32 × sv_S) := fun pc => sv_lk pc []
set_option maxRecDepth 20000 in
theorem e_Mo_becomes (a1 : Int32) (a2 : Int32) (σ : sv_S) : sv_ex ev_Mo_becomes sv_rI kk_Mo_becomes cd_Mo_becomes 14 0 [some (.inr (.inr (some (30, 0)))), some (.inl a1), some (.inl a2), none] [] σ = f_Mo_becomes a1 a2 σ := by
  unfold f_Mo_becomes
  delta ev_Mo_becomes kk_Mo_becomes
  rfl
noncomputable def f_Mo_textAt (a1 : Int32) (σ : sv_S) : Option (Int32 × sv_S) :=
  some ((86 : Int32) + ((200 : Int32) * a1), σ)
noncomputable def n_Mo_textAt : List sv_V → sv_S → Option (Int32 × sv_S)
  | [.inr (.inr (some (30, 0))), .inl a1], σ => f_Mo_textAt a1 σ
  | _, _ => none
def cd_Mo_textAt : sv_C := [(0, (.bipush 86, (.inl (86 : Int32), (2, (0, []))))), (2, (.sipush 200, (.inl (200 : Int32), (5, (0, []))))), (5, (.iload_n 1, (sv_N, (6, (0, []))))), (6, (.imul, (sv_N, (7, (0, []))))), (7, (.iadd, (sv_N, (8, (0, []))))), (8, (.ireturn, (sv_N, (9, (0, [])))))]
noncomputable def ev_Mo_textAt : sv_E := (fun i => sv_lk i fl_12, (fun i => sv_lk i kc_12, (fun i => Nat.beq i 0, (true, fun pc => sv_lk pc []))))
noncomputable def kk_Mo_textAt : sv_K (Int32 × sv_S) := fun pc => sv_lk pc []
set_option maxRecDepth 20000 in
theorem e_Mo_textAt (a1 : Int32) (σ : sv_S) : sv_ex ev_Mo_textAt sv_rI kk_Mo_textAt cd_Mo_textAt 8 0 [some (.inr (.inr (some (30, 0)))), some (.inl a1)] [] σ = f_Mo_textAt a1 σ := by
  unfold f_Mo_textAt
  delta ev_Mo_textAt kk_Mo_textAt
  rfl
noncomputable def f_Mo_of (a1 : Int32) (a2 : Int32) (σ : sv_S) : Option (Int32 × sv_S) :=
  sv_g (sv_in (((6 : Int32) + ((8 : Int32) * a1)) + a2) 3086) (some (σ 31 0 ((((6 : Int32) + ((8 : Int32) * a1)) + a2).toNatClampNeg), σ))
noncomputable def n_Mo_of : List sv_V → sv_S → Option (Int32 × sv_S)
  | [.inr (.inr (some (30, 0))), .inl a1, .inl a2], σ => f_Mo_of a1 a2 σ
  | _, _ => none
def cd_Mo_of : sv_C := [(0, (.aload_n 0, (sv_N, (1, (0, []))))), (1, (.getfield 7, (sv_N, (4, (0, []))))), (4, (.bipush 6, (.inl (6 : Int32), (6, (0, []))))), (6, (.bipush 8, (.inl (8 : Int32), (8, (0, []))))), (8, (.iload_n 1, (sv_N, (9, (0, []))))), (9, (.imul, (sv_N, (10, (0, []))))), (10, (.iadd, (sv_N, (11, (0, []))))), (11, (.iload_n 2, (sv_N, (12, (0, []))))), (12, (.iadd, (sv_N, (13, (0, []))))), (13, (.iaload, (sv_N, (14, (0, []))))), (14, (.ireturn, (sv_N, (15, (0, [])))))]
noncomputable def ev_Mo_of : sv_E := (fun i => sv_lk i fl_12, (fun i => sv_lk i kc_12, (fun i => Nat.beq i 0, (true, fun pc => sv_lk pc []))))
noncomputable def kk_Mo_of : sv_K (Int32 × sv_S) := fun pc => sv_lk pc []
set_option maxRecDepth 20000 in
theorem e_Mo_of (a1 : Int32) (a2 : Int32) (σ : sv_S) : sv_ex ev_Mo_of sv_rI kk_Mo_of cd_Mo_of 13 0 [some (.inr (.inr (some (30, 0)))), some (.inl a1), some (.inl a2)] [] σ = f_Mo_of a1 a2 σ := by
  unfold f_Mo_of
  delta ev_Mo_of kk_Mo_of
  rfl
noncomputable def f_Mo_sets (a1 : Int32) (a2 : Int32) (a3 : Int32) (σ : sv_S) : Option (sv_S) :=
  sv_g (sv_in (((6 : Int32) + ((8 : Int32) * a1)) + a2) 3086) (some (sv_up σ 31 0 ((((6 : Int32) + ((8 : Int32) * a1)) + a2).toNatClampNeg) a3))
noncomputable def n_Mo_sets : List sv_V → sv_S → Option (sv_S)
  | [.inr (.inr (some (30, 0))), .inl a1, .inl a2, .inl a3], σ => f_Mo_sets a1 a2 a3 σ
  | _, _ => none
def cd_Mo_sets : sv_C := [(0, (.aload_n 0, (sv_N, (1, (0, []))))), (1, (.getfield 7, (sv_N, (4, (0, []))))), (4, (.bipush 6, (.inl (6 : Int32), (6, (0, []))))), (6, (.bipush 8, (.inl (8 : Int32), (8, (0, []))))), (8, (.iload_n 1, (sv_N, (9, (0, []))))), (9, (.imul, (sv_N, (10, (0, []))))), (10, (.iadd, (sv_N, (11, (0, []))))), (11, (.iload_n 2, (sv_N, (12, (0, []))))), (12, (.iadd, (sv_N, (13, (0, []))))), (13, (.iload_n 3, (sv_N, (14, (0, []))))), (14, (.iastore, (sv_N, (15, (0, []))))), (15, (.return_, (sv_N, (16, (0, [])))))]
noncomputable def ev_Mo_sets : sv_E := (fun i => sv_lk i fl_12, (fun i => sv_lk i kc_12, (fun i => Nat.beq i 0, (true, fun pc => sv_lk pc []))))
noncomputable def kk_Mo_sets : sv_K (sv_S) := fun pc => sv_lk pc []
set_option maxRecDepth 20000 in
theorem e_Mo_sets (a1 : Int32) (a2 : Int32) (a3 : Int32) (σ : sv_S) : sv_ex ev_Mo_sets sv_rV kk_Mo_sets cd_Mo_sets 14 0 [some (.inr (.inr (some (30, 0)))), some (.inl a1), some (.inl a2), some (.inl a3)] [] σ = f_Mo_sets a1 a2 a3 σ := by
  unfold f_Mo_sets
  delta ev_Mo_sets kk_Mo_sets
  rfl
noncomputable def f_Mo_isDrummer (a1 : Int32) (σ : sv_S) : Option (Int32 × sv_S) :=
  sv_g (sv_in (0 : Int32) 3086) (sv_b (f_Mo_isIn (a1.toInt64) (0 : Int64) (((σ 31 0 ((0 : Int32).toNatClampNeg)) - (1 : Int32)).toInt64) σ) (fun v1 σ2 =>
    some (v1, σ2)))
noncomputable def n_Mo_isDrummer : List sv_V → sv_S → Option (Int32 × sv_S)
  | [.inr (.inr (some (30, 0))), .inl a1], σ => f_Mo_isDrummer a1 σ
  | _, _ => none
def cd_Mo_isDrummer : sv_C := [(0, (.iload_n 1, (sv_N, (1, (0, []))))), (1, (.i2l, (sv_N, (2, (0, []))))), (2, (.lconst 0, (.inr (.inl (0 : Int64)), (3, (0, []))))), (3, (.aload_n 0, (sv_N, (4, (0, []))))), (4, (.getfield 7, (sv_N, (7, (0, []))))), (7, (.iconst 0, (.inl (0 : Int32), (8, (0, []))))), (8, (.iaload, (sv_N, (9, (0, []))))), (9, (.iconst 1, (.inl (1 : Int32), (10, (0, []))))), (10, (.isub, (sv_N, (11, (0, []))))), (11, (.i2l, (sv_N, (12, (0, []))))), (12, (.invokestatic 71, (sv_N, (15, (0, []))))), (15, (.ireturn, (sv_N, (16, (0, [])))))]
noncomputable def ev_Mo_isDrummer : sv_E := (fun i => sv_lk i fl_12, (fun i => sv_lk i kc_12, (fun i => Nat.beq i 0, (true, fun pc => sv_lk pc [(12, (3, .inl n_Mo_isIn))]))))
noncomputable def kk_Mo_isDrummer : sv_K (Int32 × sv_S) := fun pc => sv_lk pc []
set_option maxRecDepth 20000 in
theorem e_Mo_isDrummer (a1 : Int32) (σ : sv_S) : sv_ex ev_Mo_isDrummer sv_rI kk_Mo_isDrummer cd_Mo_isDrummer 14 0 [some (.inr (.inr (some (30, 0)))), some (.inl a1)] [] σ = f_Mo_isDrummer a1 σ := by
  unfold f_Mo_isDrummer
  delta ev_Mo_isDrummer kk_Mo_isDrummer n_Mo_isIn
  generalize f_Mo_isIn = c0
  rfl
noncomputable def f_Mo_isText (a1 : Int32) (σ : sv_S) : Option (Int32 × sv_S) :=
  sv_g (sv_in (1 : Int32) 3086) (sv_b (f_Mo_isIn (a1.toInt64) (0 : Int64) (((σ 31 0 ((1 : Int32).toNatClampNeg)) - (1 : Int32)).toInt64) σ) (fun v1 σ2 =>
    some (v1, σ2)))
noncomputable def n_Mo_isText : List sv_V → sv_S → Option (Int32 × sv_S)
  | [.inr (.inr (some (30, 0))), .inl a1], σ => f_Mo_isText a1 σ
  | _, _ => none
def cd_Mo_isText : sv_C := [(0, (.iload_n 1, (sv_N, (1, (0, []))))), (1, (.i2l, (sv_N, (2, (0, []))))), (2, (.lconst 0, (.inr (.inl (0 : Int64)), (3, (0, []))))), (3, (.aload_n 0, (sv_N, (4, (0, []))))), (4, (.getfield 7, (sv_N, (7, (0, []))))), (7, (.iconst 1, (.inl (1 : Int32), (8, (0, []))))), (8, (.iaload, (sv_N, (9, (0, []))))), (9, (.iconst 1, (.inl (1 : Int32), (10, (0, []))))), (10, (.isub, (sv_N, (11, (0, []))))), (11, (.i2l, (sv_N, (12, (0, []))))), (12, (.invokestatic 71, (sv_N, (15, (0, []))))), (15, (.ireturn, (sv_N, (16, (0, [])))))]
noncomputable def ev_Mo_isText : sv_E := (fun i => sv_lk i fl_12, (fun i => sv_lk i kc_12, (fun i => Nat.beq i 0, (true, fun pc => sv_lk pc [(12, (3, .inl n_Mo_isIn))]))))
noncomputable def kk_Mo_isText : sv_K (Int32 × sv_S) := fun pc => sv_lk pc []
set_option maxRecDepth 20000 in
theorem e_Mo_isText (a1 : Int32) (σ : sv_S) : sv_ex ev_Mo_isText sv_rI kk_Mo_isText cd_Mo_isText 14 0 [some (.inr (.inr (some (30, 0)))), some (.inl a1)] [] σ = f_Mo_isText a1 σ := by
  unfold f_Mo_isText
  delta ev_Mo_isText kk_Mo_isText n_Mo_isIn
  generalize f_Mo_isIn = c0
  rfl
noncomputable def f_Mo_drawn (σ : sv_S) : Option (Int32 × sv_S) :=
  sv_g (sv_in (4 : Int32) 3086) (sv_g (sv_in (4 : Int32) 3086) (sv_g (sv_in (4 : Int32) 3086) (some ((((sv_up σ 31 0 ((4 : Int32).toNatClampNeg) (((σ 31 0 ((4 : Int32).toNatClampNeg)) * (1103515245 : Int32)) + (12345 : Int32))) 31 0 ((4 : Int32).toNatClampNeg)).toUInt32 >>> ((8 : Int32).toUInt32 &&& Int32.toUInt32 31)).toInt32, sv_up σ 31 0 ((4 : Int32).toNatClampNeg) (((σ 31 0 ((4 : Int32).toNatClampNeg)) * (1103515245 : Int32)) + (12345 : Int32))))))
noncomputable def n_Mo_drawn : List sv_V → sv_S → Option (Int32 × sv_S)
  | [.inr (.inr (some (30, 0)))], σ => f_Mo_drawn σ
  | _, _ => none
def cd_Mo_drawn : sv_C := [(0, (.aload_n 0, (sv_N, (1, (0, []))))), (1, (.getfield 7, (sv_N, (4, (0, []))))), (4, (.iconst 4, (.inl (4 : Int32), (5, (0, []))))), (5, (.aload_n 0, (sv_N, (6, (0, []))))), (6, (.getfield 7, (sv_N, (9, (0, []))))), (9, (.iconst 4, (.inl (4 : Int32), (10, (0, []))))), (10, (.iaload, (sv_N, (11, (0, []))))), (11, (.ldc 75, (sv_N, (13, (0, []))))), (13, (.imul, (sv_N, (14, (0, []))))), (14, (.sipush 12345, (.inl (12345 : Int32), (17, (0, []))))), (17, (.iadd, (sv_N, (18, (0, []))))), (18, (.iastore, (sv_N, (19, (0, []))))), (19, (.aload_n 0, (sv_N, (20, (0, []))))), (20, (.getfield 7, (sv_N, (23, (0, []))))), (23, (.iconst 4, (.inl (4 : Int32), (24, (0, []))))), (24, (.iaload, (sv_N, (25, (0, []))))), (25, (.bipush 8, (.inl (8 : Int32), (27, (0, []))))), (27, (.iushr, (sv_N, (28, (0, []))))), (28, (.ireturn, (sv_N, (29, (0, [])))))]
noncomputable def ev_Mo_drawn : sv_E := (fun i => sv_lk i fl_12, (fun i => sv_lk i kc_12, (fun i => Nat.beq i 0, (true, fun pc => sv_lk pc []))))
noncomputable def kk_Mo_drawn : sv_K (Int32 × sv_S) := fun pc => sv_lk pc []
set_option maxRecDepth 20000 in
theorem e_Mo_drawn (σ : sv_S) : sv_ex ev_Mo_drawn sv_rI kk_Mo_drawn cd_Mo_drawn 21 0 [some (.inr (.inr (some (30, 0))))] [] σ = f_Mo_drawn σ := by
  unfold f_Mo_drawn
  delta ev_Mo_drawn kk_Mo_drawn
  rfl
noncomputable def f_Mo_comes_20 : Nat → Int32 → Int32 → Int32 → Int32 → sv_S → Option (sv_S)
  | 0, _, _, _, _, _ => none
  | n + 1, x1, x2, x3, x4, σ =>
    sv_if ((8 : Int32) ≤ x4)
      (sv_b0 (f_Mo_sets x3 (0 : Int32) x1 σ) (fun σ1 =>
        sv_b0 (f_Mo_sets x3 (1 : Int32) x2 σ1) (fun σ2 =>
          sv_b0 (f_Mo_sets x3 (7 : Int32) (1 : Int32) σ2) (fun σ3 =>
            some σ3))))
      (sv_b0 (f_Mo_sets x3 x4 (0 : Int32) σ) (fun σ4 =>
        f_Mo_comes_20 n x1 x2 x3 (x4 + (1 : Int32)) σ4))
noncomputable def f_Mo_comes (a1 : Int32) (a2 : Int32) (σ : sv_S) : Option (sv_S) :=
  sv_g (sv_in (0 : Int32) 3086) (sv_g (sv_in (0 : Int32) 3086) (sv_g (sv_in (0 : Int32) 3086) (f_Mo_comes_20 sv_fu a1 a2 (σ 31 0 ((0 : Int32).toNatClampNeg)) (0 : Int32) (sv_up σ 31 0 ((0 : Int32).toNatClampNeg) ((σ 31 0 ((0 : Int32).toNatClampNeg)) + (1 : Int32))))))
noncomputable def n_Mo_comes : List sv_V → sv_S → Option (sv_S)
  | [.inr (.inr (some (30, 0))), .inl a1, .inl a2], σ => f_Mo_comes a1 a2 σ
  | _, _ => none
def cd_Mo_comes : sv_C := [(0, (.aload_n 0, (sv_N, (1, (0, []))))), (1, (.getfield 7, (sv_N, (4, (0, []))))), (4, (.iconst 0, (.inl (0 : Int32), (5, (0, []))))), (5, (.iaload, (sv_N, (6, (0, []))))), (6, (.istore_n 3, (sv_N, (7, (0, []))))), (7, (.aload_n 0, (sv_N, (8, (0, []))))), (8, (.getfield 7, (sv_N, (11, (0, []))))), (11, (.iconst 0, (.inl (0 : Int32), (12, (0, []))))), (12, (.dup2, (sv_N, (13, (0, []))))), (13, (.iaload, (sv_N, (14, (0, []))))), (14, (.iconst 1, (.inl (1 : Int32), (15, (0, []))))), (15, (.iadd, (sv_N, (16, (0, []))))), (16, (.iastore, (sv_N, (17, (0, []))))), (17, (.iconst 0, (.inl (0 : Int32), (18, (0, []))))), (18, (.istore 4, (sv_N, (20, (0, []))))), (20, (.iload 4, (sv_N, (22, (0, []))))), (22, (.bipush 8, (.inl (8 : Int32), (24, (0, []))))), (24, (.if_icmp .ge 17, (sv_N, (27, (41, []))))), (27, (.aload_n 0, (sv_N, (28, (0, []))))), (28, (.iload_n 3, (sv_N, (29, (0, []))))), (29, (.iload 4, (sv_N, (31, (0, []))))), (31, (.iconst 0, (.inl (0 : Int32), (32, (0, []))))), (32, (.invokevirtual 76, (sv_N, (35, (0, []))))), (35, (.iinc 4 1, (.inl (1 : Int32), (38, (0, []))))), (38, (.goto (-18), (sv_N, (41, (20, []))))), (41, (.aload_n 0, (sv_N, (42, (0, []))))), (42, (.iload_n 3, (sv_N, (43, (0, []))))), (43, (.iconst 0, (.inl (0 : Int32), (44, (0, []))))), (44, (.iload_n 1, (sv_N, (45, (0, []))))), (45, (.invokevirtual 76, (sv_N, (48, (0, []))))), (48, (.aload_n 0, (sv_N, (49, (0, []))))), (49, (.iload_n 3, (sv_N, (50, (0, []))))), (50, (.iconst 1, (.inl (1 : Int32), (51, (0, []))))), (51, (.iload_n 2, (sv_N, (52, (0, []))))), (52, (.invokevirtual 76, (sv_N, (55, (0, []))))), (55, (.aload_n 0, (sv_N, (56, (0, []))))), (56, (.iload_n 3, (sv_N, (57, (0, []))))), (57, (.bipush 7, (.inl (7 : Int32), (59, (0, []))))), (59, (.iconst 1, (.inl (1 : Int32), (60, (0, []))))), (60, (.invokevirtual 76, (sv_N, (63, (0, []))))), (63, (.return_, (sv_N, (64, (0, [])))))]
noncomputable def ev_Mo_comes : sv_E := (fun i => sv_lk i fl_12, (fun i => sv_lk i kc_12, (fun i => Nat.beq i 0, (true, fun pc => sv_lk pc [(32, (4, .inr (.inl n_Mo_sets))), (45, (4, .inr (.inl n_Mo_sets))), (52, (4, .inr (.inl n_Mo_sets))), (60, (4, .inr (.inl n_Mo_sets)))]))))
noncomputable def kk_Mo_comes_20 (n : Nat) : sv_K (sv_S) := fun pc => sv_lk pc [(20, fun lo st σ => match lo, st with
    | [some (.inr (.inr (some (30, 0)))), some (.inl x1), some (.inl x2), some (.inl x3), some (.inl x4)], [] => f_Mo_comes_20 n x1 x2 x3 x4 σ
    | _, _ => none)]
set_option maxRecDepth 20000 in
theorem e_Mo_comes_20 (n : Nat) (x1 : Int32) (x2 : Int32) (x3 : Int32) (x4 : Int32) (σ : sv_S) : sv_ex ev_Mo_comes sv_rV (kk_Mo_comes_20 n) cd_Mo_comes 43 20 [some (.inr (.inr (some (30, 0)))), some (.inl x1), some (.inl x2), some (.inl x3), some (.inl x4)] [] σ = f_Mo_comes_20 (n + 1) x1 x2 x3 x4 σ := by
  rw [f_Mo_comes_20.eq_2]
  delta ev_Mo_comes kk_Mo_comes_20 n_Mo_sets
  generalize f_Mo_sets = c0
  generalize f_Mo_comes_20 = c1
  rfl
noncomputable def kk_Mo_comes : sv_K (sv_S) := fun pc => sv_lk pc [(20, fun lo st σ => match lo, st with
    | [some (.inr (.inr (some (30, 0)))), some (.inl x1), some (.inl x2), some (.inl x3), some (.inl x4)], [] => f_Mo_comes_20 sv_fu x1 x2 x3 x4 σ
    | _, _ => none)]
set_option maxRecDepth 20000 in
theorem e_Mo_comes (a1 : Int32) (a2 : Int32) (σ : sv_S) : sv_ex ev_Mo_comes sv_rV kk_Mo_comes cd_Mo_comes 43 0 [some (.inr (.inr (some (30, 0)))), some (.inl a1), some (.inl a2), none, none] [] σ = f_Mo_comes a1 a2 σ := by
  unfold f_Mo_comes
  delta ev_Mo_comes kk_Mo_comes n_Mo_sets
  generalize f_Mo_sets = c0
  generalize f_Mo_comes_20 = c1
  rfl
noncomputable def f_Mo_drummer (a1 : Int32) (a2 : Int32) (σ : sv_S) : Option (Int32 × sv_S) :=
  sv_b (f_Mo_isIn (a1.toInt64) (0 : Int64) (5 : Int64) σ) (fun v1 σ2 =>
    sv_if (v1 = 0)
      (some ((-1000000001 : Int32), σ2))
      (sv_b (f_Mo_isIn (a2.toInt64) (1 : Int64) (9 : Int64) σ2) (fun v3 σ4 =>
        sv_if (v3 = 0)
          (some ((-1000000001 : Int32), σ4))
          (sv_g (sv_in (0 : Int32) 3086) (sv_if ((σ4 31 0 ((0 : Int32).toNatClampNeg)) = (10 : Int32))
            (some ((-1000000003 : Int32), σ4))
            (sv_b0 (f_Mo_comes a1 a2 σ4) (fun σ5 =>
              sv_g (sv_in (0 : Int32) 3086) (some ((σ5 31 0 ((0 : Int32).toNatClampNeg)) - (1 : Int32), σ5)))))))))
noncomputable def n_Mo_drummer : List sv_V → sv_S → Option (Int32 × sv_S)
  | [.inr (.inr (some (30, 0))), .inl a1, .inl a2], σ => f_Mo_drummer a1 a2 σ
  | _, _ => none
def cd_Mo_drummer : sv_C := [(0, (.iload_n 1, (sv_N, (1, (0, []))))), (1, (.i2l, (sv_N, (2, (0, []))))), (2, (.lconst 0, (.inr (.inl (0 : Int64)), (3, (0, []))))), (3, (.ldc2_w 80, (sv_N, (6, (0, []))))), (6, (.invokestatic 71, (sv_N, (9, (0, []))))), (9, (.ifCond .eq 15, (sv_N, (12, (24, []))))), (12, (.iload_n 2, (sv_N, (13, (0, []))))), (13, (.i2l, (sv_N, (14, (0, []))))), (14, (.lconst 1, (.inr (.inl (1 : Int64)), (15, (0, []))))), (15, (.ldc2_w 82, (sv_N, (18, (0, []))))), (18, (.invokestatic 71, (sv_N, (21, (0, []))))), (21, (.ifCond .ne 6, (sv_N, (24, (27, []))))), (24, (.ldc 84, (sv_N, (26, (0, []))))), (26, (.ireturn, (sv_N, (27, (0, []))))), (27, (.aload_n 0, (sv_N, (28, (0, []))))), (28, (.getfield 7, (sv_N, (31, (0, []))))), (31, (.iconst 0, (.inl (0 : Int32), (32, (0, []))))), (32, (.iaload, (sv_N, (33, (0, []))))), (33, (.bipush 10, (.inl (10 : Int32), (35, (0, []))))), (35, (.if_icmp .ne 6, (sv_N, (38, (41, []))))), (38, (.ldc 85, (sv_N, (40, (0, []))))), (40, (.ireturn, (sv_N, (41, (0, []))))), (41, (.aload_n 0, (sv_N, (42, (0, []))))), (42, (.iload_n 1, (sv_N, (43, (0, []))))), (43, (.iload_n 2, (sv_N, (44, (0, []))))), (44, (.invokevirtual 86, (sv_N, (47, (0, []))))), (47, (.aload_n 0, (sv_N, (48, (0, []))))), (48, (.getfield 7, (sv_N, (51, (0, []))))), (51, (.iconst 0, (.inl (0 : Int32), (52, (0, []))))), (52, (.iaload, (sv_N, (53, (0, []))))), (53, (.iconst 1, (.inl (1 : Int32), (54, (0, []))))), (54, (.isub, (sv_N, (55, (0, []))))), (55, (.ireturn, (sv_N, (56, (0, [])))))]
noncomputable def ev_Mo_drummer : sv_E := (fun i => sv_lk i fl_12, (fun i => sv_lk i kc_12, (fun i => Nat.beq i 0, (true, fun pc => sv_lk pc [(6, (3, .inl n_Mo_isIn)), (18, (3, .inl n_Mo_isIn)), (44, (3, .inr (.inl n_Mo_comes)))]))))
noncomputable def kk_Mo_drummer : sv_K (Int32 × sv_S) := fun pc => sv_lk pc []
set_option maxRecDepth 20000 in
theorem e_Mo_drummer (a1 : Int32) (a2 : Int32) (σ : sv_S) : sv_ex ev_Mo_drummer sv_rI kk_Mo_drummer cd_Mo_drummer 35 0 [some (.inr (.inr (some (30, 0)))), some (.inl a1), some (.inl a2)] [] σ = f_Mo_drummer a1 a2 σ := by
  unfold f_Mo_drummer
  delta ev_Mo_drummer kk_Mo_drummer n_Mo_isIn n_Mo_comes
  generalize f_Mo_isIn = c0
  generalize f_Mo_comes = c1
  rfl
noncomputable def f_Mo_ago (a1 : Int32) (a2 : Int32) (σ : sv_S) : Option (Int32 × sv_S) :=
  sv_b (f_Mo_of a1 ((2 : Int32) + a2) σ) (fun v1 σ2 =>
    some (v1, σ2))
noncomputable def n_Mo_ago : List sv_V → sv_S → Option (Int32 × sv_S)
  | [.inr (.inr (some (30, 0))), .inl a1, .inl a2], σ => f_Mo_ago a1 a2 σ
  | _, _ => none
def cd_Mo_ago : sv_C := [(0, (.aload_n 0, (sv_N, (1, (0, []))))), (1, (.iload_n 1, (sv_N, (2, (0, []))))), (2, (.iconst 2, (.inl (2 : Int32), (3, (0, []))))), (3, (.iload_n 2, (sv_N, (4, (0, []))))), (4, (.iadd, (sv_N, (5, (0, []))))), (5, (.invokevirtual 90, (sv_N, (8, (0, []))))), (8, (.ireturn, (sv_N, (9, (0, [])))))]
noncomputable def ev_Mo_ago : sv_E := (fun i => sv_lk i fl_12, (fun i => sv_lk i kc_12, (fun i => Nat.beq i 0, (true, fun pc => sv_lk pc [(5, (3, .inl n_Mo_of))]))))
noncomputable def kk_Mo_ago : sv_K (Int32 × sv_S) := fun pc => sv_lk pc []
set_option maxRecDepth 20000 in
theorem e_Mo_ago (a1 : Int32) (a2 : Int32) (σ : sv_S) : sv_ex ev_Mo_ago sv_rI kk_Mo_ago cd_Mo_ago 9 0 [some (.inr (.inr (some (30, 0)))), some (.inl a1), some (.inl a2)] [] σ = f_Mo_ago a1 a2 σ := by
  unfold f_Mo_ago
  delta ev_Mo_ago kk_Mo_ago n_Mo_of
  generalize f_Mo_of = c0
  rfl
noncomputable def f_Mo_left (a1 : Int32) (σ : sv_S) : Option (Int32 × sv_S) :=
  sv_if (a1 = 0)
    (some ((0 : Int32), σ))
    (sv_b (f_Mo_of (a1 - (1 : Int32)) (7 : Int32) σ) (fun v1 σ2 =>
      sv_b (f_Mo_ago (a1 - (1 : Int32)) (v1 - (1 : Int32)) σ2) (fun v3 σ4 =>
        some (v3, σ4))))
noncomputable def n_Mo_left : List sv_V → sv_S → Option (Int32 × sv_S)
  | [.inr (.inr (some (30, 0))), .inl a1], σ => f_Mo_left a1 σ
  | _, _ => none
def cd_Mo_left : sv_C := [(0, (.iload_n 1, (sv_N, (1, (0, []))))), (1, (.ifCond .ne 7, (sv_N, (4, (8, []))))), (4, (.iconst 0, (.inl (0 : Int32), (5, (0, []))))), (5, (.goto 21, (sv_N, (8, (26, []))))), (8, (.aload_n 0, (sv_N, (9, (0, []))))), (9, (.iload_n 1, (sv_N, (10, (0, []))))), (10, (.iconst 1, (.inl (1 : Int32), (11, (0, []))))), (11, (.isub, (sv_N, (12, (0, []))))), (12, (.aload_n 0, (sv_N, (13, (0, []))))), (13, (.iload_n 1, (sv_N, (14, (0, []))))), (14, (.iconst 1, (.inl (1 : Int32), (15, (0, []))))), (15, (.isub, (sv_N, (16, (0, []))))), (16, (.bipush 7, (.inl (7 : Int32), (18, (0, []))))), (18, (.invokevirtual 90, (sv_N, (21, (0, []))))), (21, (.iconst 1, (.inl (1 : Int32), (22, (0, []))))), (22, (.isub, (sv_N, (23, (0, []))))), (23, (.invokevirtual 94, (sv_N, (26, (0, []))))), (26, (.ireturn, (sv_N, (27, (0, [])))))]
noncomputable def ev_Mo_left : sv_E := (fun i => sv_lk i fl_12, (fun i => sv_lk i kc_12, (fun i => Nat.beq i 0, (true, fun pc => sv_lk pc [(18, (3, .inl n_Mo_of)), (23, (3, .inl n_Mo_ago))]))))
noncomputable def kk_Mo_left : sv_K (Int32 × sv_S) := fun pc => sv_lk pc []
set_option maxRecDepth 20000 in
theorem e_Mo_left (a1 : Int32) (σ : sv_S) : sv_ex ev_Mo_left sv_rI kk_Mo_left cd_Mo_left 20 0 [some (.inr (.inr (some (30, 0)))), some (.inl a1)] [] σ = f_Mo_left a1 σ := by
  unfold f_Mo_left
  delta ev_Mo_left kk_Mo_left n_Mo_of n_Mo_ago
  generalize f_Mo_of = c0
  generalize f_Mo_ago = c1
  rfl
noncomputable def f_Mo_right (a1 : Int32) (σ : sv_S) : Option (Int32 × sv_S) :=
  sv_g (sv_in (0 : Int32) 3086) (sv_if ((a1 + (1 : Int32)) = (σ 31 0 ((0 : Int32).toNatClampNeg)))
    (some ((0 : Int32), σ))
    (sv_b (f_Mo_of a1 (7 : Int32) σ) (fun v1 σ2 =>
      sv_b (f_Mo_ago (a1 + (1 : Int32)) (v1 - (1 : Int32)) σ2) (fun v3 σ4 =>
        some (v3, σ4)))))
noncomputable def n_Mo_right : List sv_V → sv_S → Option (Int32 × sv_S)
  | [.inr (.inr (some (30, 0))), .inl a1], σ => f_Mo_right a1 σ
  | _, _ => none
def cd_Mo_right : sv_C := [(0, (.iload_n 1, (sv_N, (1, (0, []))))), (1, (.iconst 1, (.inl (1 : Int32), (2, (0, []))))), (2, (.iadd, (sv_N, (3, (0, []))))), (3, (.aload_n 0, (sv_N, (4, (0, []))))), (4, (.getfield 7, (sv_N, (7, (0, []))))), (7, (.iconst 0, (.inl (0 : Int32), (8, (0, []))))), (8, (.iaload, (sv_N, (9, (0, []))))), (9, (.if_icmp .ne 7, (sv_N, (12, (16, []))))), (12, (.iconst 0, (.inl (0 : Int32), (13, (0, []))))), (13, (.goto 19, (sv_N, (16, (32, []))))), (16, (.aload_n 0, (sv_N, (17, (0, []))))), (17, (.iload_n 1, (sv_N, (18, (0, []))))), (18, (.iconst 1, (.inl (1 : Int32), (19, (0, []))))), (19, (.iadd, (sv_N, (20, (0, []))))), (20, (.aload_n 0, (sv_N, (21, (0, []))))), (21, (.iload_n 1, (sv_N, (22, (0, []))))), (22, (.bipush 7, (.inl (7 : Int32), (24, (0, []))))), (24, (.invokevirtual 90, (sv_N, (27, (0, []))))), (27, (.iconst 1, (.inl (1 : Int32), (28, (0, []))))), (28, (.isub, (sv_N, (29, (0, []))))), (29, (.invokevirtual 94, (sv_N, (32, (0, []))))), (32, (.ireturn, (sv_N, (33, (0, [])))))]
noncomputable def ev_Mo_right : sv_E := (fun i => sv_lk i fl_12, (fun i => sv_lk i kc_12, (fun i => Nat.beq i 0, (true, fun pc => sv_lk pc [(24, (3, .inl n_Mo_of)), (29, (3, .inl n_Mo_ago))]))))
noncomputable def kk_Mo_right : sv_K (Int32 × sv_S) := fun pc => sv_lk pc []
set_option maxRecDepth 20000 in
theorem e_Mo_right (a1 : Int32) (σ : sv_S) : sv_ex ev_Mo_right sv_rI kk_Mo_right cd_Mo_right 24 0 [some (.inr (.inr (some (30, 0)))), some (.inl a1)] [] σ = f_Mo_right a1 σ := by
  unfold f_Mo_right
  delta ev_Mo_right kk_Mo_right n_Mo_of n_Mo_ago
  generalize f_Mo_of = c0
  generalize f_Mo_ago = c1
  rfl
noncomputable def f_Mo_counts_4 : Nat → Int32 → Int32 → Int32 → sv_S → Option (Int32 × sv_S)
  | 0, _, _, _, _ => none
  | n + 1, x1, x2, x3, σ =>
    sv_g (sv_in (1 : Int32) 3086) (sv_if ((σ 31 0 ((1 : Int32).toNatClampNeg)) ≤ x3)
      (some (x2, σ))
      (sv_b (f_Mo_textAt x3 σ) (fun v1 σ2 =>
        sv_g (sv_in v1 3086) (sv_if ((σ2 31 0 (v1.toNatClampNeg)) = x1)
          (f_Mo_counts_4 n x1 x3 (x3 + (1 : Int32)) σ2)
          (f_Mo_counts_4 n x1 x2 (x3 + (1 : Int32)) σ2)))))
noncomputable def f_Mo_counts (a1 : Int32) (σ : sv_S) : Option (Int32 × sv_S) :=
  f_Mo_counts_4 sv_fu a1 (-1 : Int32) (0 : Int32) σ
noncomputable def n_Mo_counts : List sv_V → sv_S → Option (Int32 × sv_S)
  | [.inr (.inr (some (30, 0))), .inl a1], σ => f_Mo_counts a1 σ
  | _, _ => none
def cd_Mo_counts : sv_C := [(0, (.iconst (-1), (.inl (-1 : Int32), (1, (0, []))))), (1, (.istore_n 2, (sv_N, (2, (0, []))))), (2, (.iconst 0, (.inl (0 : Int32), (3, (0, []))))), (3, (.istore_n 3, (sv_N, (4, (0, []))))), (4, (.iload_n 3, (sv_N, (5, (0, []))))), (5, (.aload_n 0, (sv_N, (6, (0, []))))), (6, (.getfield 7, (sv_N, (9, (0, []))))), (9, (.iconst 1, (.inl (1 : Int32), (10, (0, []))))), (10, (.iaload, (sv_N, (11, (0, []))))), (11, (.if_icmp .ge 29, (sv_N, (14, (40, []))))), (14, (.aload_n 0, (sv_N, (15, (0, []))))), (15, (.getfield 7, (sv_N, (18, (0, []))))), (18, (.aload_n 0, (sv_N, (19, (0, []))))), (19, (.iload_n 3, (sv_N, (20, (0, []))))), (20, (.invokevirtual 282, (sv_N, (23, (0, []))))), (23, (.iaload, (sv_N, (24, (0, []))))), (24, (.iload_n 1, (sv_N, (25, (0, []))))), (25, (.if_icmp .ne 7, (sv_N, (28, (32, []))))), (28, (.iload_n 3, (sv_N, (29, (0, []))))), (29, (.goto 4, (sv_N, (32, (33, []))))), (32, (.iload_n 2, (sv_N, (33, (0, []))))), (33, (.istore_n 2, (sv_N, (34, (0, []))))), (34, (.iinc 3 1, (.inl (1 : Int32), (37, (0, []))))), (37, (.goto (-33), (sv_N, (40, (4, []))))), (40, (.iload_n 2, (sv_N, (41, (0, []))))), (41, (.ireturn, (sv_N, (42, (0, [])))))]
noncomputable def ev_Mo_counts : sv_E := (fun i => sv_lk i fl_12, (fun i => sv_lk i kc_12, (fun i => Nat.beq i 0, (true, fun pc => sv_lk pc [(20, (2, .inl n_Mo_textAt))]))))
noncomputable def kk_Mo_counts_4 (n : Nat) : sv_K (Int32 × sv_S) := fun pc => sv_lk pc [(4, fun lo st σ => match lo, st with
    | [some (.inr (.inr (some (30, 0)))), some (.inl x1), some (.inl x2), some (.inl x3)], [] => f_Mo_counts_4 n x1 x2 x3 σ
    | _, _ => none)]
set_option maxRecDepth 20000 in
theorem e_Mo_counts_4 (n : Nat) (x1 : Int32) (x2 : Int32) (x3 : Int32) (σ : sv_S) : sv_ex ev_Mo_counts sv_rI (kk_Mo_counts_4 n) cd_Mo_counts 28 4 [some (.inr (.inr (some (30, 0)))), some (.inl x1), some (.inl x2), some (.inl x3)] [] σ = f_Mo_counts_4 (n + 1) x1 x2 x3 σ := by
  rw [f_Mo_counts_4.eq_2]
  delta ev_Mo_counts kk_Mo_counts_4 n_Mo_textAt
  generalize f_Mo_textAt = c0
  generalize f_Mo_counts_4 = c1
  rfl
noncomputable def kk_Mo_counts : sv_K (Int32 × sv_S) := fun pc => sv_lk pc [(4, fun lo st σ => match lo, st with
    | [some (.inr (.inr (some (30, 0)))), some (.inl x1), some (.inl x2), some (.inl x3)], [] => f_Mo_counts_4 sv_fu x1 x2 x3 σ
    | _, _ => none)]
set_option maxRecDepth 20000 in
theorem e_Mo_counts (a1 : Int32) (σ : sv_S) : sv_ex ev_Mo_counts sv_rI kk_Mo_counts cd_Mo_counts 28 0 [some (.inr (.inr (some (30, 0)))), some (.inl a1), none, none] [] σ = f_Mo_counts a1 σ := by
  unfold f_Mo_counts
  delta ev_Mo_counts kk_Mo_counts n_Mo_textAt
  generalize f_Mo_textAt = c0
  generalize f_Mo_counts_4 = c1
  rfl
noncomputable def f_Mo_joined (a0 : Int32) (a1 : Int32) (a2 : Int32) (σ : sv_S) : Option (Int32 × sv_S) :=
  sv_if (a0.toInt = 38)
    (sv_if (a1 = 0)
      (some ((0 : Int32), σ))
      (sv_if (a2 = 0)
        (some ((0 : Int32), σ))
        (some ((1 : Int32), σ))))
    (sv_if (a0.toInt = 39)
    (sv_if (a1 = 0)
      (sv_if (a2 = 0)
        (some ((0 : Int32), σ))
        (some ((1 : Int32), σ)))
      (some ((1 : Int32), σ)))
    (sv_if (a0.toInt = 40)
    (sv_if (a1 = 0)
      (sv_if (a2 = 0)
        (some ((0 : Int32), σ))
        (some ((1 : Int32), σ)))
      (some ((1 : Int32), σ)))
    (sv_if (a0.toInt = 41)
    (sv_if (a1 = 0)
      (sv_if (a2 = 0)
        (some ((0 : Int32), σ))
        (some ((1 : Int32), σ)))
      (some ((1 : Int32), σ)))
    (sv_if (a0.toInt = 42)
    (some (a1 * a2, σ))
    (sv_if (a0.toInt = 43)
    (some (a1 + a2, σ))
    (sv_if (a0.toInt = 44)
    (sv_if (a1 = 0)
      (sv_if (a2 = 0)
        (some ((0 : Int32), σ))
        (some ((1 : Int32), σ)))
      (some ((1 : Int32), σ)))
    (sv_if (a0.toInt = 45)
    (some (a1 - a2, σ))
    (sv_if (a0.toInt = 46)
    (sv_if (a1 = 0)
      (sv_if (a2 = 0)
        (some ((0 : Int32), σ))
        (some ((1 : Int32), σ)))
      (some ((1 : Int32), σ)))
    (sv_if (a0.toInt = 47)
    (sv_if (a2 = 0)
      (some ((0 : Int32), σ))
      (sv_if (a2 = (-1 : Int32))
        (some (-a1, σ))
        (sv_g (¬ a2 = 0) (some (a1 / a2, σ)))))
    (sv_if (a0.toInt = 48)
    (sv_if (a1 = 0)
      (sv_if (a2 = 0)
        (some ((0 : Int32), σ))
        (some ((1 : Int32), σ)))
      (some ((1 : Int32), σ)))
    (sv_if (a0.toInt = 49)
    (sv_if (a1 = 0)
      (sv_if (a2 = 0)
        (some ((0 : Int32), σ))
        (some ((1 : Int32), σ)))
      (some ((1 : Int32), σ)))
    (sv_if (a0.toInt = 50)
    (sv_if (a1 = 0)
      (sv_if (a2 = 0)
        (some ((0 : Int32), σ))
        (some ((1 : Int32), σ)))
      (some ((1 : Int32), σ)))
    (sv_if (a0.toInt = 51)
    (sv_if (a1 = 0)
      (sv_if (a2 = 0)
        (some ((0 : Int32), σ))
        (some ((1 : Int32), σ)))
      (some ((1 : Int32), σ)))
    (sv_if (a0.toInt = 52)
    (sv_if (a1 = 0)
      (sv_if (a2 = 0)
        (some ((0 : Int32), σ))
        (some ((1 : Int32), σ)))
      (some ((1 : Int32), σ)))
    (sv_if (a0.toInt = 53)
    (sv_if (a1 = 0)
      (sv_if (a2 = 0)
        (some ((0 : Int32), σ))
        (some ((1 : Int32), σ)))
      (some ((1 : Int32), σ)))
    (sv_if (a0.toInt = 54)
    (sv_if (a1 = 0)
      (sv_if (a2 = 0)
        (some ((0 : Int32), σ))
        (some ((1 : Int32), σ)))
      (some ((1 : Int32), σ)))
    (sv_if (a0.toInt = 55)
    (sv_if (a1 = 0)
      (sv_if (a2 = 0)
        (some ((0 : Int32), σ))
        (some ((1 : Int32), σ)))
      (some ((1 : Int32), σ)))
    (sv_if (a0.toInt = 56)
    (sv_if (a1 = 0)
      (sv_if (a2 = 0)
        (some ((0 : Int32), σ))
        (some ((1 : Int32), σ)))
      (some ((1 : Int32), σ)))
    (sv_if (a0.toInt = 57)
    (sv_if (a1 = 0)
      (sv_if (a2 = 0)
        (some ((0 : Int32), σ))
        (some ((1 : Int32), σ)))
      (some ((1 : Int32), σ)))
    (sv_if (a0.toInt = 58)
    (sv_if (a1 = 0)
      (sv_if (a2 = 0)
        (some ((0 : Int32), σ))
        (some ((1 : Int32), σ)))
      (some ((1 : Int32), σ)))
    (sv_if (a0.toInt = 59)
    (sv_if (a1 = 0)
      (sv_if (a2 = 0)
        (some ((0 : Int32), σ))
        (some ((1 : Int32), σ)))
      (some ((1 : Int32), σ)))
    (sv_if (a0.toInt = 60)
    (sv_if (a2 ≤ a1)
      (some ((0 : Int32), σ))
      (some ((1 : Int32), σ)))
    (sv_if (a0.toInt = 61)
    (sv_if (a1 = a2)
      (some ((1 : Int32), σ))
      (some ((0 : Int32), σ)))
    (sv_if (a0.toInt = 62)
    (sv_if (a1 ≤ a2)
      (some ((0 : Int32), σ))
      (some ((1 : Int32), σ)))
    (sv_if (a1 = 0)
      (sv_if (a2 = 0)
        (some ((0 : Int32), σ))
        (some ((1 : Int32), σ)))
      (some ((1 : Int32), σ)))))))))))))))))))))))))))
noncomputable def n_Mo_joined : List sv_V → sv_S → Option (Int32 × sv_S)
  | [.inl a0, .inl a1, .inl a2], σ => f_Mo_joined a0 a1 a2 σ
  | _, _ => none
def cd_Mo_joined : sv_C := [(0, (.iload_n 0, (sv_N, (1, (0, []))))), (1, (.tableswitch 196 38 62 #[182, 196, 196, 196, 123, 115, 196, 119, 196, 127, 196, 196, 196, 196, 196, 196, 196, 196, 196, 196, 196, 196, 149, 171, 160], (sv_N, (1, (197, [(38, 183), (39, 197), (40, 197), (41, 197), (42, 124), (43, 116), (44, 197), (45, 120), (46, 197), (47, 128), (48, 197), (49, 197), (50, 197), (51, 197), (52, 197), (53, 197), (54, 197), (55, 197), (56, 197), (57, 197), (58, 197), (59, 197), (60, 150), (61, 172), (62, 161)]))))), (116, (.iload_n 1, (sv_N, (117, (0, []))))), (117, (.iload_n 2, (sv_N, (118, (0, []))))), (118, (.iadd, (sv_N, (119, (0, []))))), (119, (.ireturn, (sv_N, (120, (0, []))))), (120, (.iload_n 1, (sv_N, (121, (0, []))))), (121, (.iload_n 2, (sv_N, (122, (0, []))))), (122, (.isub, (sv_N, (123, (0, []))))), (123, (.ireturn, (sv_N, (124, (0, []))))), (124, (.iload_n 1, (sv_N, (125, (0, []))))), (125, (.iload_n 2, (sv_N, (126, (0, []))))), (126, (.imul, (sv_N, (127, (0, []))))), (127, (.ireturn, (sv_N, (128, (0, []))))), (128, (.iload_n 2, (sv_N, (129, (0, []))))), (129, (.ifCond .ne 7, (sv_N, (132, (136, []))))), (132, (.iconst 0, (.inl (0 : Int32), (133, (0, []))))), (133, (.goto 16, (sv_N, (136, (149, []))))), (136, (.iload_n 2, (sv_N, (137, (0, []))))), (137, (.iconst (-1), (.inl (-1 : Int32), (138, (0, []))))), (138, (.if_icmp .ne 8, (sv_N, (141, (146, []))))), (141, (.iload_n 1, (sv_N, (142, (0, []))))), (142, (.ineg, (sv_N, (143, (0, []))))), (143, (.goto 6, (sv_N, (146, (149, []))))), (146, (.iload_n 1, (sv_N, (147, (0, []))))), (147, (.iload_n 2, (sv_N, (148, (0, []))))), (148, (.idiv, (sv_N, (149, (0, []))))), (149, (.ireturn, (sv_N, (150, (0, []))))), (150, (.iload_n 1, (sv_N, (151, (0, []))))), (151, (.iload_n 2, (sv_N, (152, (0, []))))), (152, (.if_icmp .ge 7, (sv_N, (155, (159, []))))), (155, (.iconst 1, (.inl (1 : Int32), (156, (0, []))))), (156, (.goto 4, (sv_N, (159, (160, []))))), (159, (.iconst 0, (.inl (0 : Int32), (160, (0, []))))), (160, (.ireturn, (sv_N, (161, (0, []))))), (161, (.iload_n 1, (sv_N, (162, (0, []))))), (162, (.iload_n 2, (sv_N, (163, (0, []))))), (163, (.if_icmp .le 7, (sv_N, (166, (170, []))))), (166, (.iconst 1, (.inl (1 : Int32), (167, (0, []))))), (167, (.goto 4, (sv_N, (170, (171, []))))), (170, (.iconst 0, (.inl (0 : Int32), (171, (0, []))))), (171, (.ireturn, (sv_N, (172, (0, []))))), (172, (.iload_n 1, (sv_N, (173, (0, []))))), (173, (.iload_n 2, (sv_N, (174, (0, []))))), (174, (.if_icmp .ne 7, (sv_N, (177, (181, []))))), (177, (.iconst 1, (.inl (1 : Int32), (178, (0, []))))), (178, (.goto 4, (sv_N, (181, (182, []))))), (181, (.iconst 0, (.inl (0 : Int32), (182, (0, []))))), (182, (.ireturn, (sv_N, (183, (0, []))))), (183, (.iload_n 1, (sv_N, (184, (0, []))))), (184, (.ifCond .eq 11, (sv_N, (187, (195, []))))), (187, (.iload_n 2, (sv_N, (188, (0, []))))), (188, (.ifCond .eq 7, (sv_N, (191, (195, []))))), (191, (.iconst 1, (.inl (1 : Int32), (192, (0, []))))), (192, (.goto 4, (sv_N, (195, (196, []))))), (195, (.iconst 0, (.inl (0 : Int32), (196, (0, []))))), (196, (.ireturn, (sv_N, (197, (0, []))))), (197, (.iload_n 1, (sv_N, (198, (0, []))))), (198, (.ifCond .ne 7, (sv_N, (201, (205, []))))), (201, (.iload_n 2, (sv_N, (202, (0, []))))), (202, (.ifCond .eq 7, (sv_N, (205, (209, []))))), (205, (.iconst 1, (.inl (1 : Int32), (206, (0, []))))), (206, (.goto 4, (sv_N, (209, (210, []))))), (209, (.iconst 0, (.inl (0 : Int32), (210, (0, []))))), (210, (.ireturn, (sv_N, (211, (0, [])))))]
noncomputable def ev_Mo_joined : sv_E := (fun i => sv_lk i fl_12, (fun i => sv_lk i kc_12, (fun i => Nat.beq i 0, (true, fun pc => sv_lk pc []))))
noncomputable def kk_Mo_joined : sv_K (Int32 × sv_S) := fun pc => sv_lk pc []
set_option maxRecDepth 20000 in
theorem e_Mo_joined (a0 : Int32) (a1 : Int32) (a2 : Int32) (σ : sv_S) : sv_ex ev_Mo_joined sv_rI kk_Mo_joined cd_Mo_joined 67 0 [some (.inl a0), some (.inl a1), some (.inl a2)] [] σ = f_Mo_joined a0 a1 a2 σ := by
  unfold f_Mo_joined
  delta ev_Mo_joined kk_Mo_joined
  rfl
noncomputable def f_Mo_worked_86 (k4 : Int32 → Int32 → Int32 → sv_S → Option (Int32 × sv_S)) (x1 : Int32) (x2 : Int32) (x3 : Int32) (y0 : Int32) (y1 : Int32) (y2 : Nat) (σ : sv_S) : Option (Int32 × sv_S) :=
    sv_g (sv_in y1 (sv_ml y2)) (k4 x1 (x2 + (1 : Int32)) (x3 + (1 : Int32)) (sv_up σ 31 y2 (y1.toNatClampNeg) y0))
noncomputable def f_Mo_worked_4 : Nat → Int32 → Int32 → Int32 → sv_S → Option (Int32 × sv_S)
  | 0, _, _, _, _ => none
  | n + 1, x1, x2, x3, σ =>
    sv_b (f_Mo_textAt x1 σ) (fun v1 σ2 =>
      sv_g (sv_in (v1 + (2 : Int32)) 3086) (sv_if ((σ2 31 0 ((v1 + (2 : Int32)).toNatClampNeg)) ≤ x3)
        (sv_g (sv_in (0 : Int32) 100) (some (σ2 31 29 ((0 : Int32).toNatClampNeg), σ2)))
        (sv_b (f_Mo_textAt x1 σ2) (fun v3 σ4 =>
          sv_g (sv_in ((v3 + (4 : Int32)) + ((2 : Int32) * x3)) 3086) (sv_b (f_Mo_textAt x1 σ4) (fun v5 σ6 =>
            sv_g (sv_in (((v5 + (4 : Int32)) + ((2 : Int32) * x3)) + (1 : Int32)) 3086) (sv_if ((σ4 31 0 (((v3 + (4 : Int32)) + ((2 : Int32) * x3)).toNatClampNeg)) = (2 : Int32))
              (sv_if ((σ6 31 0 ((((v5 + (4 : Int32)) + ((2 : Int32) * x3)) + (1 : Int32)).toNatClampNeg)) = (33 : Int32))
                (sv_g (sv_in (x2 - (1 : Int32)) 100) (sv_if ((σ6 31 29 ((x2 - (1 : Int32)).toNatClampNeg)) = 0)
                  (sv_g (sv_in (x2 - (1 : Int32)) 100) (f_Mo_worked_4 n x1 x2 (x3 + (1 : Int32)) (sv_up σ6 31 29 ((x2 - (1 : Int32)).toNatClampNeg) (1 : Int32))))
                  (sv_g (sv_in (x2 - (1 : Int32)) 100) (f_Mo_worked_4 n x1 x2 (x3 + (1 : Int32)) (sv_up σ6 31 29 ((x2 - (1 : Int32)).toNatClampNeg) (0 : Int32))))))
                (sv_g (sv_in ((x2 + (-1 : Int32)) - (1 : Int32)) 100) (sv_g (sv_in (x2 + (-1 : Int32)) 100) (sv_b (f_Mo_joined (σ6 31 0 ((((v5 + (4 : Int32)) + ((2 : Int32) * x3)) + (1 : Int32)).toNatClampNeg)) (σ6 31 29 (((x2 + (-1 : Int32)) - (1 : Int32)).toNatClampNeg)) (σ6 31 29 ((x2 + (-1 : Int32)).toNatClampNeg)) σ6) (fun v7 σ8 =>
                  sv_g (sv_in ((x2 + (-1 : Int32)) - (1 : Int32)) 100) (f_Mo_worked_4 n x1 (x2 + (-1 : Int32)) (x3 + (1 : Int32)) (sv_up σ8 31 29 (((x2 + (-1 : Int32)) - (1 : Int32)).toNatClampNeg) v7)))))))
              (sv_if ((σ4 31 0 (((v3 + (4 : Int32)) + ((2 : Int32) * x3)).toNatClampNeg)) = 0)
                (f_Mo_worked_86 (f_Mo_worked_4 n) x1 x2 x3 (σ6 31 0 ((((v5 + (4 : Int32)) + ((2 : Int32) * x3)) + (1 : Int32)).toNatClampNeg)) x2 29 σ6)
                (sv_g (sv_in (σ6 31 0 ((((v5 + (4 : Int32)) + ((2 : Int32) * x3)) + (1 : Int32)).toNatClampNeg)) 128) (f_Mo_worked_86 (f_Mo_worked_4 n) x1 x2 x3 (σ6 31 28 ((σ6 31 0 ((((v5 + (4 : Int32)) + ((2 : Int32) * x3)) + (1 : Int32)).toNatClampNeg)).toNatClampNeg)) x2 29 σ6))))))))))
noncomputable def f_Mo_worked (a1 : Int32) (σ : sv_S) : Option (Int32 × sv_S) :=
  f_Mo_worked_4 sv_fu a1 (0 : Int32) (0 : Int32) σ
noncomputable def n_Mo_worked : List sv_V → sv_S → Option (Int32 × sv_S)
  | [.inr (.inr (some (30, 0))), .inl a1], σ => f_Mo_worked a1 σ
  | _, _ => none
def cd_Mo_worked : sv_C := [(0, (.iconst 0, (.inl (0 : Int32), (1, (0, []))))), (1, (.istore_n 2, (sv_N, (2, (0, []))))), (2, (.iconst 0, (.inl (0 : Int32), (3, (0, []))))), (3, (.istore_n 3, (sv_N, (4, (0, []))))), (4, (.iload_n 3, (sv_N, (5, (0, []))))), (5, (.aload_n 0, (sv_N, (6, (0, []))))), (6, (.getfield 7, (sv_N, (9, (0, []))))), (9, (.aload_n 0, (sv_N, (10, (0, []))))), (10, (.iload_n 1, (sv_N, (11, (0, []))))), (11, (.invokevirtual 282, (sv_N, (14, (0, []))))), (14, (.iconst 2, (.inl (2 : Int32), (15, (0, []))))), (15, (.iadd, (sv_N, (16, (0, []))))), (16, (.iaload, (sv_N, (17, (0, []))))), (17, (.if_icmp .ge 146, (sv_N, (20, (163, []))))), (20, (.aload_n 0, (sv_N, (21, (0, []))))), (21, (.getfield 7, (sv_N, (24, (0, []))))), (24, (.aload_n 0, (sv_N, (25, (0, []))))), (25, (.iload_n 1, (sv_N, (26, (0, []))))), (26, (.invokevirtual 282, (sv_N, (29, (0, []))))), (29, (.iconst 4, (.inl (4 : Int32), (30, (0, []))))), (30, (.iadd, (sv_N, (31, (0, []))))), (31, (.iconst 2, (.inl (2 : Int32), (32, (0, []))))), (32, (.iload_n 3, (sv_N, (33, (0, []))))), (33, (.imul, (sv_N, (34, (0, []))))), (34, (.iadd, (sv_N, (35, (0, []))))), (35, (.iaload, (sv_N, (36, (0, []))))), (36, (.istore 4, (sv_N, (38, (0, []))))), (38, (.aload_n 0, (sv_N, (39, (0, []))))), (39, (.getfield 7, (sv_N, (42, (0, []))))), (42, (.aload_n 0, (sv_N, (43, (0, []))))), (43, (.iload_n 1, (sv_N, (44, (0, []))))), (44, (.invokevirtual 282, (sv_N, (47, (0, []))))), (47, (.iconst 4, (.inl (4 : Int32), (48, (0, []))))), (48, (.iadd, (sv_N, (49, (0, []))))), (49, (.iconst 2, (.inl (2 : Int32), (50, (0, []))))), (50, (.iload_n 3, (sv_N, (51, (0, []))))), (51, (.imul, (sv_N, (52, (0, []))))), (52, (.iadd, (sv_N, (53, (0, []))))), (53, (.iconst 1, (.inl (1 : Int32), (54, (0, []))))), (54, (.iadd, (sv_N, (55, (0, []))))), (55, (.iaload, (sv_N, (56, (0, []))))), (56, (.istore 5, (sv_N, (58, (0, []))))), (58, (.iload 4, (sv_N, (60, (0, []))))), (60, (.iconst 2, (.inl (2 : Int32), (61, (0, []))))), (61, (.if_icmp .eq 32, (sv_N, (64, (93, []))))), (64, (.aload_n 0, (sv_N, (65, (0, []))))), (65, (.getfield 58, (sv_N, (68, (0, []))))), (68, (.iload_n 2, (sv_N, (69, (0, []))))), (69, (.iload 4, (sv_N, (71, (0, []))))), (71, (.ifCond .ne 8, (sv_N, (74, (79, []))))), (74, (.iload 5, (sv_N, (76, (0, []))))), (76, (.goto 10, (sv_N, (79, (86, []))))), (79, (.aload_n 0, (sv_N, (80, (0, []))))), (80, (.getfield 55, (sv_N, (83, (0, []))))), (83, (.iload 5, (sv_N, (85, (0, []))))), (85, (.iaload, (sv_N, (86, (0, []))))), (86, (.iastore, (sv_N, (87, (0, []))))), (87, (.iinc 2 1, (.inl (1 : Int32), (90, (0, []))))), (90, (.goto 67, (sv_N, (93, (157, []))))), (93, (.iload 5, (sv_N, (95, (0, []))))), (95, (.bipush 33, (.inl (33 : Int32), (97, (0, []))))), (97, (.if_icmp .ne 30, (sv_N, (100, (127, []))))), (100, (.aload_n 0, (sv_N, (101, (0, []))))), (101, (.getfield 58, (sv_N, (104, (0, []))))), (104, (.iload_n 2, (sv_N, (105, (0, []))))), (105, (.iconst 1, (.inl (1 : Int32), (106, (0, []))))), (106, (.isub, (sv_N, (107, (0, []))))), (107, (.aload_n 0, (sv_N, (108, (0, []))))), (108, (.getfield 58, (sv_N, (111, (0, []))))), (111, (.iload_n 2, (sv_N, (112, (0, []))))), (112, (.iconst 1, (.inl (1 : Int32), (113, (0, []))))), (113, (.isub, (sv_N, (114, (0, []))))), (114, (.iaload, (sv_N, (115, (0, []))))), (115, (.ifCond .ne 7, (sv_N, (118, (122, []))))), (118, (.iconst 1, (.inl (1 : Int32), (119, (0, []))))), (119, (.goto 4, (sv_N, (122, (123, []))))), (122, (.iconst 0, (.inl (0 : Int32), (123, (0, []))))), (123, (.iastore, (sv_N, (124, (0, []))))), (124, (.goto 33, (sv_N, (127, (157, []))))), (127, (.iinc 2 (-1), (.inl (-1 : Int32), (130, (0, []))))), (130, (.aload_n 0, (sv_N, (131, (0, []))))), (131, (.getfield 58, (sv_N, (134, (0, []))))), (134, (.iload_n 2, (sv_N, (135, (0, []))))), (135, (.iconst 1, (.inl (1 : Int32), (136, (0, []))))), (136, (.isub, (sv_N, (137, (0, []))))), (137, (.iload 5, (sv_N, (139, (0, []))))), (139, (.aload_n 0, (sv_N, (140, (0, []))))), (140, (.getfield 58, (sv_N, (143, (0, []))))), (143, (.iload_n 2, (sv_N, (144, (0, []))))), (144, (.iconst 1, (.inl (1 : Int32), (145, (0, []))))), (145, (.isub, (sv_N, (146, (0, []))))), (146, (.iaload, (sv_N, (147, (0, []))))), (147, (.aload_n 0, (sv_N, (148, (0, []))))), (148, (.getfield 58, (sv_N, (151, (0, []))))), (151, (.iload_n 2, (sv_N, (152, (0, []))))), (152, (.iaload, (sv_N, (153, (0, []))))), (153, (.invokestatic 294, (sv_N, (156, (0, []))))), (156, (.iastore, (sv_N, (157, (0, []))))), (157, (.iinc 3 1, (.inl (1 : Int32), (160, (0, []))))), (160, (.goto (-156), (sv_N, (163, (4, []))))), (163, (.aload_n 0, (sv_N, (164, (0, []))))), (164, (.getfield 58, (sv_N, (167, (0, []))))), (167, (.iconst 0, (.inl (0 : Int32), (168, (0, []))))), (168, (.iaload, (sv_N, (169, (0, []))))), (169, (.ireturn, (sv_N, (170, (0, [])))))]
noncomputable def ev_Mo_worked : sv_E := (fun i => sv_lk i fl_12, (fun i => sv_lk i kc_12, (fun i => Nat.beq i 0, (true, fun pc => sv_lk pc [(11, (2, .inl n_Mo_textAt)), (26, (2, .inl n_Mo_textAt)), (44, (2, .inl n_Mo_textAt)), (153, (3, .inl n_Mo_joined))]))))
noncomputable def kk_Mo_worked_86 (k4 : Int32 → Int32 → Int32 → sv_S → Option (Int32 × sv_S)) : sv_K (Int32 × sv_S) := fun pc => sv_lk pc [(4, fun lo st σ => match lo, st with
    | [some (.inr (.inr (some (30, 0)))), some (.inl x1), some (.inl x2), some (.inl x3), _, _], [] => k4 x1 x2 x3 σ
    | _, _ => none)]
set_option maxRecDepth 20000 in
theorem e_Mo_worked_86 (k4 : Int32 → Int32 → Int32 → sv_S → Option (Int32 × sv_S)) (x1 : Int32) (x2 : Int32) (x3 : Int32) (y0 : Int32) (y1 : Int32) (y2 : Nat) (z4 z5 : Option sv_V) (σ : sv_S) : sv_ex ev_Mo_worked sv_rI (kk_Mo_worked_86 k4) cd_Mo_worked 107 86 [some (.inr (.inr (some (30, 0)))), some (.inl x1), some (.inl x2), some (.inl x3), z4, z5] [.inl y0, .inl y1, .inr (.inr (some (31, y2)))] σ = f_Mo_worked_86 k4 x1 x2 x3 y0 y1 y2 σ := by
  unfold f_Mo_worked_86
  delta ev_Mo_worked kk_Mo_worked_86 n_Mo_textAt n_Mo_joined
  generalize f_Mo_textAt = c0
  generalize f_Mo_joined = c1
  generalize f_Mo_worked_4 = c2
  rfl
noncomputable def kk_Mo_worked_4 (n : Nat) : sv_K (Int32 × sv_S) := fun pc => sv_lk pc [(4, fun lo st σ => match lo, st with
    | [some (.inr (.inr (some (30, 0)))), some (.inl x1), some (.inl x2), some (.inl x3), _, _], [] => f_Mo_worked_4 n x1 x2 x3 σ
    | _, _ => none),
  (86, fun lo st σ => match lo, st with
    | [some (.inr (.inr (some (30, 0)))), some (.inl x1), some (.inl x2), some (.inl x3), _, _], [.inl y0, .inl y1, .inr (.inr (some (31, y2)))] => f_Mo_worked_86 (f_Mo_worked_4 n) x1 x2 x3 y0 y1 y2 σ
    | _, _ => none)]
set_option maxRecDepth 20000 in
theorem e_Mo_worked_4 (n : Nat) (x1 : Int32) (x2 : Int32) (x3 : Int32) (z4 z5 : Option sv_V) (σ : sv_S) : sv_ex ev_Mo_worked sv_rI (kk_Mo_worked_4 n) cd_Mo_worked 107 4 [some (.inr (.inr (some (30, 0)))), some (.inl x1), some (.inl x2), some (.inl x3), z4, z5] [] σ = f_Mo_worked_4 (n + 1) x1 x2 x3 σ := by
  rw [f_Mo_worked_4.eq_2]
  delta ev_Mo_worked kk_Mo_worked_4 n_Mo_textAt n_Mo_joined
  generalize f_Mo_textAt = c0
  generalize f_Mo_joined = c1
  generalize f_Mo_worked_4 = c2
  generalize f_Mo_worked_86 = c3
  rfl
noncomputable def kk_Mo_worked : sv_K (Int32 × sv_S) := fun pc => sv_lk pc [(4, fun lo st σ => match lo, st with
    | [some (.inr (.inr (some (30, 0)))), some (.inl x1), some (.inl x2), some (.inl x3), _, _], [] => f_Mo_worked_4 sv_fu x1 x2 x3 σ
    | _, _ => none)]
set_option maxRecDepth 20000 in
theorem e_Mo_worked (a1 : Int32) (σ : sv_S) : sv_ex ev_Mo_worked sv_rI kk_Mo_worked cd_Mo_worked 107 0 [some (.inr (.inr (some (30, 0)))), some (.inl a1), none, none, none, none] [] σ = f_Mo_worked a1 σ := by
  unfold f_Mo_worked
  delta ev_Mo_worked kk_Mo_worked n_Mo_textAt n_Mo_joined
  generalize f_Mo_textAt = c0
  generalize f_Mo_joined = c1
  generalize f_Mo_worked_4 = c2
  rfl
noncomputable def f_Mo_hears (a1 : Int32) (σ : sv_S) : Option (Int32 × sv_S) :=
  sv_b (f_Mo_of a1 (0 : Int32) σ) (fun v1 σ2 =>
    sv_if (v1 = (5 : Int32))
      (sv_b (f_Mo_left a1 σ2) (fun v3 σ4 =>
        sv_if (v3 ≤ 0)
          (some ((0 : Int32), σ4))
          (some ((1 : Int32), σ4))))
      (sv_b (f_Mo_counts (0 : Int32) σ2) (fun v5 σ6 =>
        sv_if (0 ≤ v5)
          (sv_b (f_Mo_left a1 σ6) (fun v7 σ8 =>
            sv_g (sv_in (108 : Int32) 128) (sv_b (f_Mo_right a1 (sv_up σ8 31 28 ((108 : Int32).toNatClampNeg) v7)) (fun v9 σ10 =>
              sv_g (sv_in (114 : Int32) 128) (sv_g (sv_in (110 : Int32) 128) (sv_b (f_Mo_worked v5 (sv_up (sv_up σ10 31 28 ((114 : Int32).toNatClampNeg) v9) 31 28 ((110 : Int32).toNatClampNeg) a1)) (fun v11 σ12 =>
                sv_if (v11 = 0)
                  (some ((0 : Int32), σ12))
                  (some ((1 : Int32), σ12)))))))))
          (sv_b (f_Mo_left a1 σ6) (fun v13 σ14 =>
            sv_if (0 < v13)
              (some ((1 : Int32), σ14))
              (sv_b (f_Mo_right a1 σ14) (fun v15 σ16 =>
                sv_if (v15 ≤ 0)
                  (some ((0 : Int32), σ16))
                  (some ((1 : Int32), σ16)))))))))
noncomputable def n_Mo_hears : List sv_V → sv_S → Option (Int32 × sv_S)
  | [.inr (.inr (some (30, 0))), .inl a1], σ => f_Mo_hears a1 σ
  | _, _ => none
def cd_Mo_hears : sv_C := [(0, (.aload_n 0, (sv_N, (1, (0, []))))), (1, (.iload_n 1, (sv_N, (2, (0, []))))), (2, (.iconst 0, (.inl (0 : Int32), (3, (0, []))))), (3, (.invokevirtual 90, (sv_N, (6, (0, []))))), (6, (.iconst 5, (.inl (5 : Int32), (7, (0, []))))), (7, (.if_icmp .ne 17, (sv_N, (10, (24, []))))), (10, (.aload_n 0, (sv_N, (11, (0, []))))), (11, (.iload_n 1, (sv_N, (12, (0, []))))), (12, (.invokevirtual 97, (sv_N, (15, (0, []))))), (15, (.ifCond .le 7, (sv_N, (18, (22, []))))), (18, (.iconst 1, (.inl (1 : Int32), (19, (0, []))))), (19, (.goto 4, (sv_N, (22, (23, []))))), (22, (.iconst 0, (.inl (0 : Int32), (23, (0, []))))), (23, (.ireturn, (sv_N, (24, (0, []))))), (24, (.aload_n 0, (sv_N, (25, (0, []))))), (25, (.iconst 0, (.inl (0 : Int32), (26, (0, []))))), (26, (.invokevirtual 101, (sv_N, (29, (0, []))))), (29, (.istore_n 2, (sv_N, (30, (0, []))))), (30, (.iload_n 2, (sv_N, (31, (0, []))))), (31, (.ifCond .ge 25, (sv_N, (34, (56, []))))), (34, (.aload_n 0, (sv_N, (35, (0, []))))), (35, (.iload_n 1, (sv_N, (36, (0, []))))), (36, (.invokevirtual 97, (sv_N, (39, (0, []))))), (39, (.ifCond .gt 11, (sv_N, (42, (50, []))))), (42, (.aload_n 0, (sv_N, (43, (0, []))))), (43, (.iload_n 1, (sv_N, (44, (0, []))))), (44, (.invokevirtual 104, (sv_N, (47, (0, []))))), (47, (.ifCond .le 7, (sv_N, (50, (54, []))))), (50, (.iconst 1, (.inl (1 : Int32), (51, (0, []))))), (51, (.goto 4, (sv_N, (54, (55, []))))), (54, (.iconst 0, (.inl (0 : Int32), (55, (0, []))))), (55, (.ireturn, (sv_N, (56, (0, []))))), (56, (.aload_n 0, (sv_N, (57, (0, []))))), (57, (.getfield 55, (sv_N, (60, (0, []))))), (60, (.bipush 108, (.inl (108 : Int32), (62, (0, []))))), (62, (.aload_n 0, (sv_N, (63, (0, []))))), (63, (.iload_n 1, (sv_N, (64, (0, []))))), (64, (.invokevirtual 97, (sv_N, (67, (0, []))))), (67, (.iastore, (sv_N, (68, (0, []))))), (68, (.aload_n 0, (sv_N, (69, (0, []))))), (69, (.getfield 55, (sv_N, (72, (0, []))))), (72, (.bipush 114, (.inl (114 : Int32), (74, (0, []))))), (74, (.aload_n 0, (sv_N, (75, (0, []))))), (75, (.iload_n 1, (sv_N, (76, (0, []))))), (76, (.invokevirtual 104, (sv_N, (79, (0, []))))), (79, (.iastore, (sv_N, (80, (0, []))))), (80, (.aload_n 0, (sv_N, (81, (0, []))))), (81, (.getfield 55, (sv_N, (84, (0, []))))), (84, (.bipush 110, (.inl (110 : Int32), (86, (0, []))))), (86, (.iload_n 1, (sv_N, (87, (0, []))))), (87, (.iastore, (sv_N, (88, (0, []))))), (88, (.aload_n 0, (sv_N, (89, (0, []))))), (89, (.iload_n 2, (sv_N, (90, (0, []))))), (90, (.invokevirtual 107, (sv_N, (93, (0, []))))), (93, (.ifCond .eq 7, (sv_N, (96, (100, []))))), (96, (.iconst 1, (.inl (1 : Int32), (97, (0, []))))), (97, (.goto 4, (sv_N, (100, (101, []))))), (100, (.iconst 0, (.inl (0 : Int32), (101, (0, []))))), (101, (.ireturn, (sv_N, (102, (0, [])))))]
noncomputable def ev_Mo_hears : sv_E := (fun i => sv_lk i fl_12, (fun i => sv_lk i kc_12, (fun i => Nat.beq i 0, (true, fun pc => sv_lk pc [(3, (3, .inl n_Mo_of)), (12, (2, .inl n_Mo_left)), (26, (2, .inl n_Mo_counts)), (36, (2, .inl n_Mo_left)), (44, (2, .inl n_Mo_right)), (64, (2, .inl n_Mo_left)), (76, (2, .inl n_Mo_right)), (90, (2, .inl n_Mo_worked))]))))
noncomputable def kk_Mo_hears : sv_K (Int32 × sv_S) := fun pc => sv_lk pc []
set_option maxRecDepth 20000 in
theorem e_Mo_hears (a1 : Int32) (σ : sv_S) : sv_ex ev_Mo_hears sv_rI kk_Mo_hears cd_Mo_hears 61 0 [some (.inr (.inr (some (30, 0)))), some (.inl a1), none] [] σ = f_Mo_hears a1 σ := by
  unfold f_Mo_hears
  delta ev_Mo_hears kk_Mo_hears n_Mo_of n_Mo_left n_Mo_counts n_Mo_right n_Mo_worked
  generalize f_Mo_of = c0
  generalize f_Mo_left = c1
  generalize f_Mo_counts = c2
  generalize f_Mo_right = c3
  generalize f_Mo_worked = c4
  rfl
noncomputable def f_Mo_wakes_63 (x1 : Int32) (x2 : Int32) (σ : sv_S) : Option (Int32 × sv_S) :=
    sv_b (f_Mo_of x1 (0 : Int32) σ) (fun v1 σ2 =>
      sv_if (v1.toInt = 2)
        (sv_b (f_Mo_held (x2 + (1 : Int32)) (1 : Int32) (9 : Int32) σ2) (fun v3 σ4 =>
          some (v3, σ4)))
        (sv_if (v1.toInt = 3)
        (sv_b (f_Mo_held (x2 - (1 : Int32)) (1 : Int32) (9 : Int32) σ2) (fun v5 σ6 =>
          some (v5, σ6)))
        (sv_if (v1.toInt = 4)
        (sv_b (f_Mo_held (x2 + (1 : Int32)) (1 : Int32) (9 : Int32) σ2) (fun v7 σ8 =>
          some (v7, σ8)))
        (some (x2, σ2)))))
noncomputable def f_Mo_wakes (a1 : Int32) (σ : sv_S) : Option (Int32 × sv_S) :=
  sv_b (f_Mo_of a1 (1 : Int32) σ) (fun v1 σ2 =>
    sv_b (f_Mo_counts (1 : Int32) σ2) (fun v3 σ4 =>
      sv_if (v3 < 0)
        (f_Mo_wakes_63 a1 v1 σ4)
        (sv_b (f_Mo_of a1 (1 : Int32) σ4) (fun v5 σ6 =>
          sv_g (sv_in (115 : Int32) 128) (sv_g (sv_in (110 : Int32) 128) (sv_g (sv_in (3 : Int32) 3086) (sv_g (sv_in (98 : Int32) 128) (sv_b (f_Mo_worked v3 (sv_up (sv_up (sv_up σ6 31 28 ((115 : Int32).toNatClampNeg) v5) 31 28 ((110 : Int32).toNatClampNeg) a1) 31 28 ((98 : Int32).toNatClampNeg) ((sv_up (sv_up σ6 31 28 ((115 : Int32).toNatClampNeg) v5) 31 28 ((110 : Int32).toNatClampNeg) a1) 31 0 ((3 : Int32).toNatClampNeg)))) (fun v7 σ8 =>
            sv_b (f_Mo_held v7 (1 : Int32) (9 : Int32) σ8) (fun v9 σ10 =>
              f_Mo_wakes_63 a1 v9 σ10))))))))))
noncomputable def n_Mo_wakes : List sv_V → sv_S → Option (Int32 × sv_S)
  | [.inr (.inr (some (30, 0))), .inl a1], σ => f_Mo_wakes a1 σ
  | _, _ => none
def cd_Mo_wakes : sv_C := [(0, (.aload_n 0, (sv_N, (1, (0, []))))), (1, (.iload_n 1, (sv_N, (2, (0, []))))), (2, (.iconst 1, (.inl (1 : Int32), (3, (0, []))))), (3, (.invokevirtual 90, (sv_N, (6, (0, []))))), (6, (.istore_n 2, (sv_N, (7, (0, []))))), (7, (.aload_n 0, (sv_N, (8, (0, []))))), (8, (.iconst 1, (.inl (1 : Int32), (9, (0, []))))), (9, (.invokevirtual 101, (sv_N, (12, (0, []))))), (12, (.istore_n 3, (sv_N, (13, (0, []))))), (13, (.iload_n 3, (sv_N, (14, (0, []))))), (14, (.ifCond .lt 49, (sv_N, (17, (63, []))))), (17, (.aload_n 0, (sv_N, (18, (0, []))))), (18, (.getfield 55, (sv_N, (21, (0, []))))), (21, (.bipush 115, (.inl (115 : Int32), (23, (0, []))))), (23, (.aload_n 0, (sv_N, (24, (0, []))))), (24, (.iload_n 1, (sv_N, (25, (0, []))))), (25, (.iconst 1, (.inl (1 : Int32), (26, (0, []))))), (26, (.invokevirtual 90, (sv_N, (29, (0, []))))), (29, (.iastore, (sv_N, (30, (0, []))))), (30, (.aload_n 0, (sv_N, (31, (0, []))))), (31, (.getfield 55, (sv_N, (34, (0, []))))), (34, (.bipush 110, (.inl (110 : Int32), (36, (0, []))))), (36, (.iload_n 1, (sv_N, (37, (0, []))))), (37, (.iastore, (sv_N, (38, (0, []))))), (38, (.aload_n 0, (sv_N, (39, (0, []))))), (39, (.getfield 55, (sv_N, (42, (0, []))))), (42, (.bipush 98, (.inl (98 : Int32), (44, (0, []))))), (44, (.aload_n 0, (sv_N, (45, (0, []))))), (45, (.getfield 7, (sv_N, (48, (0, []))))), (48, (.iconst 3, (.inl (3 : Int32), (49, (0, []))))), (49, (.iaload, (sv_N, (50, (0, []))))), (50, (.iastore, (sv_N, (51, (0, []))))), (51, (.aload_n 0, (sv_N, (52, (0, []))))), (52, (.iload_n 3, (sv_N, (53, (0, []))))), (53, (.invokevirtual 107, (sv_N, (56, (0, []))))), (56, (.iconst 1, (.inl (1 : Int32), (57, (0, []))))), (57, (.bipush 9, (.inl (9 : Int32), (59, (0, []))))), (59, (.invokestatic 110, (sv_N, (62, (0, []))))), (62, (.istore_n 2, (sv_N, (63, (0, []))))), (63, (.aload_n 0, (sv_N, (64, (0, []))))), (64, (.iload_n 1, (sv_N, (65, (0, []))))), (65, (.iconst 0, (.inl (0 : Int32), (66, (0, []))))), (66, (.invokevirtual 90, (sv_N, (69, (0, []))))), (69, (.tableswitch 47 2 4 #[37, 27, 37], (sv_N, (69, (116, [(2, 106), (3, 96), (4, 106)]))))), (96, (.iload_n 2, (sv_N, (97, (0, []))))), (97, (.iconst 1, (.inl (1 : Int32), (98, (0, []))))), (98, (.isub, (sv_N, (99, (0, []))))), (99, (.iconst 1, (.inl (1 : Int32), (100, (0, []))))), (100, (.bipush 9, (.inl (9 : Int32), (102, (0, []))))), (102, (.invokestatic 110, (sv_N, (105, (0, []))))), (105, (.ireturn, (sv_N, (106, (0, []))))), (106, (.iload_n 2, (sv_N, (107, (0, []))))), (107, (.iconst 1, (.inl (1 : Int32), (108, (0, []))))), (108, (.iadd, (sv_N, (109, (0, []))))), (109, (.iconst 1, (.inl (1 : Int32), (110, (0, []))))), (110, (.bipush 9, (.inl (9 : Int32), (112, (0, []))))), (112, (.invokestatic 110, (sv_N, (115, (0, []))))), (115, (.ireturn, (sv_N, (116, (0, []))))), (116, (.iload_n 2, (sv_N, (117, (0, []))))), (117, (.ireturn, (sv_N, (118, (0, [])))))]
noncomputable def ev_Mo_wakes : sv_E := (fun i => sv_lk i fl_12, (fun i => sv_lk i kc_12, (fun i => Nat.beq i 0, (true, fun pc => sv_lk pc [(3, (3, .inl n_Mo_of)), (9, (2, .inl n_Mo_counts)), (26, (3, .inl n_Mo_of)), (53, (2, .inl n_Mo_worked)), (59, (3, .inl n_Mo_held)), (66, (3, .inl n_Mo_of)), (102, (3, .inl n_Mo_held)), (112, (3, .inl n_Mo_held))]))))
noncomputable def kk_Mo_wakes_63 : sv_K (Int32 × sv_S) := fun pc => sv_lk pc []
set_option maxRecDepth 20000 in
theorem e_Mo_wakes_63 (x1 : Int32) (x2 : Int32) (z3 : Option sv_V) (σ : sv_S) : sv_ex ev_Mo_wakes sv_rI (kk_Mo_wakes_63) cd_Mo_wakes 62 63 [some (.inr (.inr (some (30, 0)))), some (.inl x1), some (.inl x2), z3] [] σ = f_Mo_wakes_63 x1 x2 σ := by
  unfold f_Mo_wakes_63
  delta ev_Mo_wakes kk_Mo_wakes_63 n_Mo_of n_Mo_counts n_Mo_worked n_Mo_held
  generalize f_Mo_of = c0
  generalize f_Mo_counts = c1
  generalize f_Mo_worked = c2
  generalize f_Mo_held = c3
  rfl
noncomputable def kk_Mo_wakes : sv_K (Int32 × sv_S) := fun pc => sv_lk pc [(63, fun lo st σ => match lo, st with
    | [some (.inr (.inr (some (30, 0)))), some (.inl x1), some (.inl x2), _], [] => f_Mo_wakes_63 x1 x2 σ
    | _, _ => none)]
set_option maxRecDepth 20000 in
theorem e_Mo_wakes (a1 : Int32) (σ : sv_S) : sv_ex ev_Mo_wakes sv_rI kk_Mo_wakes cd_Mo_wakes 62 0 [some (.inr (.inr (some (30, 0)))), some (.inl a1), none, none] [] σ = f_Mo_wakes a1 σ := by
  unfold f_Mo_wakes
  delta ev_Mo_wakes kk_Mo_wakes n_Mo_of n_Mo_counts n_Mo_worked n_Mo_held
  generalize f_Mo_of = c0
  generalize f_Mo_counts = c1
  generalize f_Mo_worked = c2
  generalize f_Mo_held = c3
  generalize f_Mo_wakes_63 = c4
  rfl
noncomputable def f_Mo_stepFrom_35 (x2 : Int32) (x3 : Int32) (σ : sv_S) : Option (Int32 × sv_S) :=
    sv_if (x2 = (9 : Int32))
      (some ((0 : Int32), σ))
      (sv_if (x2 = (8 : Int32))
        (sv_if (x3 = (4 : Int32))
          (some ((0 : Int32), σ))
          (some (x2 + (1 : Int32), σ)))
        (some (x2 + (1 : Int32), σ)))
noncomputable def f_Mo_stepFrom_21 (x2 : Int32) (x3 : Int32) (σ : sv_S) : Option (Int32 × sv_S) :=
    sv_g (sv_in (3 : Int32) 3086) (sv_g (¬ (4 : Int32) = 0) (sv_if (((σ 31 0 ((3 : Int32).toNatClampNeg)) - (σ 31 0 ((3 : Int32).toNatClampNeg)) / (4 : Int32) * (4 : Int32)) = (3 : Int32))
      (some (x2, σ))
      (f_Mo_stepFrom_35 x2 x3 σ)))
noncomputable def f_Mo_stepFrom (a1 : Int32) (a2 : Int32) (σ : sv_S) : Option (Int32 × sv_S) :=
  sv_b (f_Mo_of a1 (0 : Int32) σ) (fun v1 σ2 =>
    sv_if (a2 = 0)
      (some (a2, σ2))
      (sv_if (v1 = (1 : Int32))
        (f_Mo_stepFrom_21 a2 v1 σ2)
        (sv_if (v1 = (3 : Int32))
          (f_Mo_stepFrom_21 a2 v1 σ2)
          (f_Mo_stepFrom_35 a2 v1 σ2))))
noncomputable def n_Mo_stepFrom : List sv_V → sv_S → Option (Int32 × sv_S)
  | [.inr (.inr (some (30, 0))), .inl a1, .inl a2], σ => f_Mo_stepFrom a1 a2 σ
  | _, _ => none
def cd_Mo_stepFrom : sv_C := [(0, (.aload_n 0, (sv_N, (1, (0, []))))), (1, (.iload_n 1, (sv_N, (2, (0, []))))), (2, (.iconst 0, (.inl (0 : Int32), (3, (0, []))))), (3, (.invokevirtual 90, (sv_N, (6, (0, []))))), (6, (.istore_n 3, (sv_N, (7, (0, []))))), (7, (.iload_n 2, (sv_N, (8, (0, []))))), (8, (.ifCond .eq 25, (sv_N, (11, (33, []))))), (11, (.iload_n 3, (sv_N, (12, (0, []))))), (12, (.iconst 1, (.inl (1 : Int32), (13, (0, []))))), (13, (.if_icmp .eq 8, (sv_N, (16, (21, []))))), (16, (.iload_n 3, (sv_N, (17, (0, []))))), (17, (.iconst 3, (.inl (3 : Int32), (18, (0, []))))), (18, (.if_icmp .ne 17, (sv_N, (21, (35, []))))), (21, (.aload_n 0, (sv_N, (22, (0, []))))), (22, (.getfield 7, (sv_N, (25, (0, []))))), (25, (.iconst 3, (.inl (3 : Int32), (26, (0, []))))), (26, (.iaload, (sv_N, (27, (0, []))))), (27, (.iconst 4, (.inl (4 : Int32), (28, (0, []))))), (28, (.irem, (sv_N, (29, (0, []))))), (29, (.iconst 3, (.inl (3 : Int32), (30, (0, []))))), (30, (.if_icmp .ne 5, (sv_N, (33, (35, []))))), (33, (.iload_n 2, (sv_N, (34, (0, []))))), (34, (.ireturn, (sv_N, (35, (0, []))))), (35, (.iload_n 2, (sv_N, (36, (0, []))))), (36, (.bipush 9, (.inl (9 : Int32), (38, (0, []))))), (38, (.if_icmp .eq 14, (sv_N, (41, (52, []))))), (41, (.iload_n 2, (sv_N, (42, (0, []))))), (42, (.bipush 8, (.inl (8 : Int32), (44, (0, []))))), (44, (.if_icmp .ne 12, (sv_N, (47, (56, []))))), (47, (.iload_n 3, (sv_N, (48, (0, []))))), (48, (.iconst 4, (.inl (4 : Int32), (49, (0, []))))), (49, (.if_icmp .ne 7, (sv_N, (52, (56, []))))), (52, (.iconst 0, (.inl (0 : Int32), (53, (0, []))))), (53, (.goto 6, (sv_N, (56, (59, []))))), (56, (.iload_n 2, (sv_N, (57, (0, []))))), (57, (.iconst 1, (.inl (1 : Int32), (58, (0, []))))), (58, (.iadd, (sv_N, (59, (0, []))))), (59, (.ireturn, (sv_N, (60, (0, [])))))]
noncomputable def ev_Mo_stepFrom : sv_E := (fun i => sv_lk i fl_12, (fun i => sv_lk i kc_12, (fun i => Nat.beq i 0, (true, fun pc => sv_lk pc [(3, (3, .inl n_Mo_of))]))))
noncomputable def kk_Mo_stepFrom_35 : sv_K (Int32 × sv_S) := fun pc => sv_lk pc []
set_option maxRecDepth 20000 in
theorem e_Mo_stepFrom_35 (x2 : Int32) (x3 : Int32) (z0 z1 : Option sv_V) (σ : sv_S) : sv_ex ev_Mo_stepFrom sv_rI (kk_Mo_stepFrom_35) cd_Mo_stepFrom 40 35 [z0, z1, some (.inl x2), some (.inl x3)] [] σ = f_Mo_stepFrom_35 x2 x3 σ := by
  unfold f_Mo_stepFrom_35
  delta ev_Mo_stepFrom kk_Mo_stepFrom_35 n_Mo_of
  generalize f_Mo_of = c0
  rfl
noncomputable def kk_Mo_stepFrom_21 : sv_K (Int32 × sv_S) := fun pc => sv_lk pc [(35, fun lo st σ => match lo, st with
    | [_, _, some (.inl x2), some (.inl x3)], [] => f_Mo_stepFrom_35 x2 x3 σ
    | _, _ => none)]
set_option maxRecDepth 20000 in
theorem e_Mo_stepFrom_21 (x2 : Int32) (x3 : Int32) (z1 : Option sv_V) (σ : sv_S) : sv_ex ev_Mo_stepFrom sv_rI (kk_Mo_stepFrom_21) cd_Mo_stepFrom 40 21 [some (.inr (.inr (some (30, 0)))), z1, some (.inl x2), some (.inl x3)] [] σ = f_Mo_stepFrom_21 x2 x3 σ := by
  unfold f_Mo_stepFrom_21
  delta ev_Mo_stepFrom kk_Mo_stepFrom_21 n_Mo_of
  generalize f_Mo_of = c0
  generalize f_Mo_stepFrom_35 = c1
  rfl
noncomputable def kk_Mo_stepFrom : sv_K (Int32 × sv_S) := fun pc => sv_lk pc [(21, fun lo st σ => match lo, st with
    | [some (.inr (.inr (some (30, 0)))), _, some (.inl x2), some (.inl x3)], [] => f_Mo_stepFrom_21 x2 x3 σ
    | _, _ => none),
  (35, fun lo st σ => match lo, st with
    | [_, _, some (.inl x2), some (.inl x3)], [] => f_Mo_stepFrom_35 x2 x3 σ
    | _, _ => none)]
set_option maxRecDepth 20000 in
theorem e_Mo_stepFrom (a1 : Int32) (a2 : Int32) (σ : sv_S) : sv_ex ev_Mo_stepFrom sv_rI kk_Mo_stepFrom cd_Mo_stepFrom 40 0 [some (.inr (.inr (some (30, 0)))), some (.inl a1), some (.inl a2), none] [] σ = f_Mo_stepFrom a1 a2 σ := by
  unfold f_Mo_stepFrom
  delta ev_Mo_stepFrom kk_Mo_stepFrom n_Mo_of
  generalize f_Mo_of = c0
  generalize f_Mo_stepFrom_21 = c1
  generalize f_Mo_stepFrom_35 = c2
  rfl
noncomputable def f_Mo_worth (a1 : Int32) (σ : sv_S) : Option (Int32 × sv_S) :=
  sv_b (f_Mo_of a1 (1 : Int32) σ) (fun v1 σ2 =>
    sv_b (f_Mo_of a1 (0 : Int32) σ2) (fun v3 σ4 =>
      sv_if (v3.toInt = 1)
        (some (v1 + (4 : Int32), σ4))
        (sv_if (v3.toInt = 2)
        (some ((20 : Int32) - v1, σ4))
        (sv_if (v3.toInt = 3)
        (some ((2 : Int32) * (v1 + (4 : Int32)), σ4))
        (sv_if (v3.toInt = 4)
        (some ((15 : Int32) - v1, σ4))
        (sv_if (v3.toInt = 5)
        (some ((6 : Int32), σ4))
        (some (v1, σ4))))))))
noncomputable def n_Mo_worth : List sv_V → sv_S → Option (Int32 × sv_S)
  | [.inr (.inr (some (30, 0))), .inl a1], σ => f_Mo_worth a1 σ
  | _, _ => none
def cd_Mo_worth : sv_C := [(0, (.aload_n 0, (sv_N, (1, (0, []))))), (1, (.iload_n 1, (sv_N, (2, (0, []))))), (2, (.iconst 1, (.inl (1 : Int32), (3, (0, []))))), (3, (.invokevirtual 90, (sv_N, (6, (0, []))))), (6, (.istore_n 2, (sv_N, (7, (0, []))))), (7, (.aload_n 0, (sv_N, (8, (0, []))))), (8, (.iload_n 1, (sv_N, (9, (0, []))))), (9, (.iconst 0, (.inl (0 : Int32), (10, (0, []))))), (10, (.invokevirtual 90, (sv_N, (13, (0, []))))), (13, (.tableswitch 58 1 5 #[35, 39, 44, 50, 55], (sv_N, (13, (71, [(1, 48), (2, 52), (3, 57), (4, 63), (5, 68)]))))), (48, (.iload_n 2, (sv_N, (49, (0, []))))), (49, (.iconst 4, (.inl (4 : Int32), (50, (0, []))))), (50, (.iadd, (sv_N, (51, (0, []))))), (51, (.ireturn, (sv_N, (52, (0, []))))), (52, (.bipush 20, (.inl (20 : Int32), (54, (0, []))))), (54, (.iload_n 2, (sv_N, (55, (0, []))))), (55, (.isub, (sv_N, (56, (0, []))))), (56, (.ireturn, (sv_N, (57, (0, []))))), (57, (.iconst 2, (.inl (2 : Int32), (58, (0, []))))), (58, (.iload_n 2, (sv_N, (59, (0, []))))), (59, (.iconst 4, (.inl (4 : Int32), (60, (0, []))))), (60, (.iadd, (sv_N, (61, (0, []))))), (61, (.imul, (sv_N, (62, (0, []))))), (62, (.ireturn, (sv_N, (63, (0, []))))), (63, (.bipush 15, (.inl (15 : Int32), (65, (0, []))))), (65, (.iload_n 2, (sv_N, (66, (0, []))))), (66, (.isub, (sv_N, (67, (0, []))))), (67, (.ireturn, (sv_N, (68, (0, []))))), (68, (.bipush 6, (.inl (6 : Int32), (70, (0, []))))), (70, (.ireturn, (sv_N, (71, (0, []))))), (71, (.iload_n 2, (sv_N, (72, (0, []))))), (72, (.ireturn, (sv_N, (73, (0, [])))))]
noncomputable def ev_Mo_worth : sv_E := (fun i => sv_lk i fl_12, (fun i => sv_lk i kc_12, (fun i => Nat.beq i 0, (true, fun pc => sv_lk pc [(3, (3, .inl n_Mo_of)), (10, (3, .inl n_Mo_of))]))))
noncomputable def kk_Mo_worth : sv_K (Int32 × sv_S) := fun pc => sv_lk pc []
set_option maxRecDepth 20000 in
theorem e_Mo_worth (a1 : Int32) (σ : sv_S) : sv_ex ev_Mo_worth sv_rI kk_Mo_worth cd_Mo_worth 34 0 [some (.inr (.inr (some (30, 0)))), some (.inl a1), none] [] σ = f_Mo_worth a1 σ := by
  unfold f_Mo_worth
  delta ev_Mo_worth kk_Mo_worth n_Mo_of
  generalize f_Mo_of = c0
  rfl
noncomputable def f_Mo_told (a1 : Int32) (a2 : Int32) (σ : sv_S) : Option (Int32 × sv_S) :=
  sv_b (f_Mo_isDrummer a1 σ) (fun v1 σ2 =>
    sv_if (v1 = 0)
      (some ((-1000000001 : Int32), σ2))
      (sv_if (a2.toInt = 0)
        (sv_b (f_Mo_of a1 a2 σ2) (fun v3 σ4 =>
          some (v3, σ4)))
        (sv_if (a2.toInt = 1)
        (sv_b (f_Mo_of a1 a2 σ2) (fun v5 σ6 =>
          some (v5, σ6)))
        (sv_if (a2.toInt = 2)
        (sv_b (f_Mo_of a1 a2 σ2) (fun v7 σ8 =>
          some (v7, σ8)))
        (sv_if (a2.toInt = 3)
        (sv_b (f_Mo_of a1 a2 σ2) (fun v9 σ10 =>
          some (v9, σ10)))
        (sv_if (a2.toInt = 4)
        (sv_b (f_Mo_of a1 a2 σ2) (fun v11 σ12 =>
          some (v11, σ12)))
        (sv_if (a2.toInt = 5)
        (sv_b (f_Mo_of a1 a2 σ2) (fun v13 σ14 =>
          some (v13, σ14)))
        (sv_if (a2.toInt = 6)
        (sv_b (f_Mo_of a1 (6 : Int32) σ2) (fun v15 σ16 =>
          sv_if (v15 = 0)
            (some ((-1000000005 : Int32), σ16))
            (sv_b (f_Mo_of a1 (6 : Int32) σ16) (fun v17 σ18 =>
              some (v17, σ18)))))
        (sv_if (a2.toInt = 7)
        (sv_b (f_Mo_of a1 a2 σ2) (fun v19 σ20 =>
          some (v19, σ20)))
        (sv_if (a2.toInt = 8)
        (sv_b (f_Mo_hears a1 σ2) (fun v21 σ22 =>
          sv_if (v21 = 0)
            (some ((0 : Int32), σ22))
            (some ((1 : Int32), σ22))))
        (sv_if (a2.toInt = 9)
        (sv_b (f_Mo_wakes a1 σ2) (fun v23 σ24 =>
          some (v23, σ24)))
        (sv_if (a2.toInt = 10)
        (sv_b (f_Mo_of a1 (2 : Int32) σ2) (fun v25 σ26 =>
          sv_b (f_Mo_stepFrom a1 v25 σ26) (fun v27 σ28 =>
            some (v27, σ28))))
        (sv_if (a2.toInt = 11)
        (sv_b (f_Mo_worth a1 σ2) (fun v29 σ30 =>
          some (v29, σ30)))
        (some ((-1000000001 : Int32), σ2)))))))))))))))
noncomputable def n_Mo_told : List sv_V → sv_S → Option (Int32 × sv_S)
  | [.inr (.inr (some (30, 0))), .inl a1, .inl a2], σ => f_Mo_told a1 a2 σ
  | _, _ => none
def cd_Mo_told : sv_C := [(0, (.aload_n 0, (sv_N, (1, (0, []))))), (1, (.iload_n 1, (sv_N, (2, (0, []))))), (2, (.invokevirtual 113, (sv_N, (5, (0, []))))), (5, (.ifCond .ne 6, (sv_N, (8, (11, []))))), (8, (.ldc 84, (sv_N, (10, (0, []))))), (10, (.ireturn, (sv_N, (11, (0, []))))), (11, (.iload_n 2, (sv_N, (12, (0, []))))), (12, (.tableswitch 132 0 11 #[64, 64, 64, 64, 64, 64, 71, 64, 94, 108, 114, 126], (sv_N, (12, (144, [(0, 76), (1, 76), (2, 76), (3, 76), (4, 76), (5, 76), (6, 83), (7, 76), (8, 106), (9, 120), (10, 126), (11, 138)]))))), (76, (.aload_n 0, (sv_N, (77, (0, []))))), (77, (.iload_n 1, (sv_N, (78, (0, []))))), (78, (.iload_n 2, (sv_N, (79, (0, []))))), (79, (.invokevirtual 90, (sv_N, (82, (0, []))))), (82, (.ireturn, (sv_N, (83, (0, []))))), (83, (.aload_n 0, (sv_N, (84, (0, []))))), (84, (.iload_n 1, (sv_N, (85, (0, []))))), (85, (.bipush 6, (.inl (6 : Int32), (87, (0, []))))), (87, (.invokevirtual 90, (sv_N, (90, (0, []))))), (90, (.ifCond .ne 8, (sv_N, (93, (98, []))))), (93, (.ldc 70, (sv_N, (95, (0, []))))), (95, (.goto 10, (sv_N, (98, (105, []))))), (98, (.aload_n 0, (sv_N, (99, (0, []))))), (99, (.iload_n 1, (sv_N, (100, (0, []))))), (100, (.bipush 6, (.inl (6 : Int32), (102, (0, []))))), (102, (.invokevirtual 90, (sv_N, (105, (0, []))))), (105, (.ireturn, (sv_N, (106, (0, []))))), (106, (.aload_n 0, (sv_N, (107, (0, []))))), (107, (.iload_n 1, (sv_N, (108, (0, []))))), (108, (.invokevirtual 117, (sv_N, (111, (0, []))))), (111, (.ifCond .eq 7, (sv_N, (114, (118, []))))), (114, (.iconst 1, (.inl (1 : Int32), (115, (0, []))))), (115, (.goto 4, (sv_N, (118, (119, []))))), (118, (.iconst 0, (.inl (0 : Int32), (119, (0, []))))), (119, (.ireturn, (sv_N, (120, (0, []))))), (120, (.aload_n 0, (sv_N, (121, (0, []))))), (121, (.iload_n 1, (sv_N, (122, (0, []))))), (122, (.invokevirtual 120, (sv_N, (125, (0, []))))), (125, (.ireturn, (sv_N, (126, (0, []))))), (126, (.aload_n 0, (sv_N, (127, (0, []))))), (127, (.iload_n 1, (sv_N, (128, (0, []))))), (128, (.aload_n 0, (sv_N, (129, (0, []))))), (129, (.iload_n 1, (sv_N, (130, (0, []))))), (130, (.iconst 2, (.inl (2 : Int32), (131, (0, []))))), (131, (.invokevirtual 90, (sv_N, (134, (0, []))))), (134, (.invokevirtual 123, (sv_N, (137, (0, []))))), (137, (.ireturn, (sv_N, (138, (0, []))))), (138, (.aload_n 0, (sv_N, (139, (0, []))))), (139, (.iload_n 1, (sv_N, (140, (0, []))))), (140, (.invokevirtual 126, (sv_N, (143, (0, []))))), (143, (.ireturn, (sv_N, (144, (0, []))))), (144, (.ldc 84, (sv_N, (146, (0, []))))), (146, (.ireturn, (sv_N, (147, (0, [])))))]
noncomputable def ev_Mo_told : sv_E := (fun i => sv_lk i fl_12, (fun i => sv_lk i kc_12, (fun i => Nat.beq i 0, (true, fun pc => sv_lk pc [(2, (2, .inl n_Mo_isDrummer)), (79, (3, .inl n_Mo_of)), (87, (3, .inl n_Mo_of)), (102, (3, .inl n_Mo_of)), (108, (2, .inl n_Mo_hears)), (122, (2, .inl n_Mo_wakes)), (131, (3, .inl n_Mo_of)), (134, (3, .inl n_Mo_stepFrom)), (140, (2, .inl n_Mo_worth))]))))
noncomputable def kk_Mo_told : sv_K (Int32 × sv_S) := fun pc => sv_lk pc []
set_option maxRecDepth 20000 in
theorem e_Mo_told (a1 : Int32) (a2 : Int32) (σ : sv_S) : sv_ex ev_Mo_told sv_rI kk_Mo_told cd_Mo_told 53 0 [some (.inr (.inr (some (30, 0)))), some (.inl a1), some (.inl a2)] [] σ = f_Mo_told a1 a2 σ := by
  unfold f_Mo_told
  delta ev_Mo_told kk_Mo_told n_Mo_isDrummer n_Mo_of n_Mo_hears n_Mo_wakes n_Mo_stepFrom n_Mo_worth
  generalize f_Mo_isDrummer = c0
  generalize f_Mo_of = c1
  generalize f_Mo_hears = c2
  generalize f_Mo_wakes = c3
  generalize f_Mo_stepFrom = c4
  generalize f_Mo_worth = c5
  rfl
