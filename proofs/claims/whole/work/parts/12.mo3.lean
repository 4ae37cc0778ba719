noncomputable def f_Mo_isLong_11 (x1 : Int32) (x2 : Int32) (x3 : Int32) (x4 : Int32) (x5 : Int32) (x6 : Int32) (y0 : Int32) (σ : sv_S) : Option (Int32 × sv_S) :=
    sv_if ((σ 30 0 20) = (1 : Int32))
      (sv_if (((σ 30 0 19) - (σ 30 0 18)) = y0)
        (sv_g (sv_in (σ 30 0 18) 96) (sv_if ((σ 31 16 ((σ 30 0 18).toNatClampNeg)) = x1)
          (sv_g (sv_in ((σ 30 0 18) + (1 : Int32)) 96) (sv_if ((σ 31 16 (((σ 30 0 18) + (1 : Int32)).toNatClampNeg)) = x2)
            (sv_g (sv_in ((σ 30 0 18) + (2 : Int32)) 96) (sv_if ((σ 31 16 (((σ 30 0 18) + (2 : Int32)).toNatClampNeg)) = x3)
              (sv_g (sv_in ((σ 30 0 18) + (3 : Int32)) 96) (sv_if ((σ 31 16 (((σ 30 0 18) + (3 : Int32)).toNatClampNeg)) = x4)
                (sv_g (sv_in ((σ 30 0 18) + (4 : Int32)) 96) (sv_if ((σ 31 16 (((σ 30 0 18) + (4 : Int32)).toNatClampNeg)) = x5)
                  (sv_if (x6 = 0)
                    (sv_g ((1 : Int32) = 0 ∨ (1 : Int32) = 1) (some ((1 : Int32), σ)))
                    (sv_g (sv_in ((σ 30 0 18) + (5 : Int32)) 96) (sv_if ((σ 31 16 (((σ 30 0 18) + (5 : Int32)).toNatClampNeg)) = x6)
                      (sv_g ((1 : Int32) = 0 ∨ (1 : Int32) = 1) (some ((1 : Int32), σ)))
                      (sv_g ((0 : Int32) = 0 ∨ (0 : Int32) = 1) (some ((0 : Int32), σ))))))
                  (sv_g ((0 : Int32) = 0 ∨ (0 : Int32) = 1) (some ((0 : Int32), σ)))))
                (sv_g ((0 : Int32) = 0 ∨ (0 : Int32) = 1) (some ((0 : Int32), σ)))))
              (sv_g ((0 : Int32) = 0 ∨ (0 : Int32) = 1) (some ((0 : Int32), σ)))))
            (sv_g ((0 : Int32) = 0 ∨ (0 : Int32) = 1) (some ((0 : Int32), σ)))))
          (sv_g ((0 : Int32) = 0 ∨ (0 : Int32) = 1) (some ((0 : Int32), σ)))))
        (sv_g ((0 : Int32) = 0 ∨ (0 : Int32) = 1) (some ((0 : Int32), σ))))
      (sv_g ((0 : Int32) = 0 ∨ (0 : Int32) = 1) (some ((0 : Int32), σ)))
noncomputable def f_Mo_isLong (a1 : Int32) (a2 : Int32) (a3 : Int32) (a4 : Int32) (a5 : Int32) (a6 : Int32) (σ : sv_S) : Option (Int32 × sv_S) :=
  sv_if (a6 = 0)
    (f_Mo_isLong_11 a1 a2 a3 a4 a5 a6 (5 : Int32) σ)
    (f_Mo_isLong_11 a1 a2 a3 a4 a5 a6 (6 : Int32) σ)
noncomputable def n_Mo_isLong : List sv_V → sv_S → Option (Int32 × sv_S)
  | [.inr (.inr (some (30, 0))), .inl a1, .inl a2, .inl a3, .inl a4, .inl a5, .inl a6], σ => f_Mo_isLong a1 a2 a3 a4 a5 a6 σ
  | _, _ => none
def cd_Mo_isLong : sv_C := [(0, (.iload 6, (sv_N, (2, (0, []))))), (2, (.ifCond .ne 7, (sv_N, (5, (9, []))))), (5, (.iconst 5, (.inl (5 : Int32), (6, (0, []))))), (6, (.goto 5, (sv_N, (9, (11, []))))), (9, (.bipush 6, (.inl (6 : Int32), (11, (0, []))))), (11, (.istore 7, (sv_N, (13, (0, []))))), (13, (.aload_n 0, (sv_N, (14, (0, []))))), (14, (.getfield 211, (sv_N, (17, (0, []))))), (17, (.iconst 1, (.inl (1 : Int32), (18, (0, []))))), (18, (.if_icmp .ne 117, (sv_N, (21, (135, []))))), (21, (.aload_n 0, (sv_N, (22, (0, []))))), (22, (.getfield 208, (sv_N, (25, (0, []))))), (25, (.aload_n 0, (sv_N, (26, (0, []))))), (26, (.getfield 214, (sv_N, (29, (0, []))))), (29, (.isub, (sv_N, (30, (0, []))))), (30, (.iload 7, (sv_N, (32, (0, []))))), (32, (.if_icmp .ne 103, (sv_N, (35, (135, []))))), (35, (.aload_n 0, (sv_N, (36, (0, []))))), (36, (.getfield 52, (sv_N, (39, (0, []))))), (39, (.aload_n 0, (sv_N, (40, (0, []))))), (40, (.getfield 214, (sv_N, (43, (0, []))))), (43, (.iaload, (sv_N, (44, (0, []))))), (44, (.iload_n 1, (sv_N, (45, (0, []))))), (45, (.if_icmp .ne 90, (sv_N, (48, (135, []))))), (48, (.aload_n 0, (sv_N, (49, (0, []))))), (49, (.getfield 52, (sv_N, (52, (0, []))))), (52, (.aload_n 0, (sv_N, (53, (0, []))))), (53, (.getfield 214, (sv_N, (56, (0, []))))), (56, (.iconst 1, (.inl (1 : Int32), (57, (0, []))))), (57, (.iadd, (sv_N, (58, (0, []))))), (58, (.iaload, (sv_N, (59, (0, []))))), (59, (.iload_n 2, (sv_N, (60, (0, []))))), (60, (.if_icmp .ne 75, (sv_N, (63, (135, []))))), (63, (.aload_n 0, (sv_N, (64, (0, []))))), (64, (.getfield 52, (sv_N, (67, (0, []))))), (67, (.aload_n 0, (sv_N, (68, (0, []))))), (68, (.getfield 214, (sv_N, (71, (0, []))))), (71, (.iconst 2, (.inl (2 : Int32), (72, (0, []))))), (72, (.iadd, (sv_N, (73, (0, []))))), (73, (.iaload, (sv_N, (74, (0, []))))), (74, (.iload_n 3, (sv_N, (75, (0, []))))), (75, (.if_icmp .ne 60, (sv_N, (78, (135, []))))), (78, (.aload_n 0, (sv_N, (79, (0, []))))), (79, (.getfield 52, (sv_N, (82, (0, []))))), (82, (.aload_n 0, (sv_N, (83, (0, []))))), (83, (.getfield 214, (sv_N, (86, (0, []))))), (86, (.iconst 3, (.inl (3 : Int32), (87, (0, []))))), (87, (.iadd, (sv_N, (88, (0, []))))), (88, (.iaload, (sv_N, (89, (0, []))))), (89, (.iload 4, (sv_N, (91, (0, []))))), (91, (.if_icmp .ne 44, (sv_N, (94, (135, []))))), (94, (.aload_n 0, (sv_N, (95, (0, []))))), (95, (.getfield 52, (sv_N, (98, (0, []))))), (98, (.aload_n 0, (sv_N, (99, (0, []))))), (99, (.getfield 214, (sv_N, (102, (0, []))))), (102, (.iconst 4, (.inl (4 : Int32), (103, (0, []))))), (103, (.iadd, (sv_N, (104, (0, []))))), (104, (.iaload, (sv_N, (105, (0, []))))), (105, (.iload 5, (sv_N, (107, (0, []))))), (107, (.if_icmp .ne 28, (sv_N, (110, (135, []))))), (110, (.iload 6, (sv_N, (112, (0, []))))), (112, (.ifCond .eq 19, (sv_N, (115, (131, []))))), (115, (.aload_n 0, (sv_N, (116, (0, []))))), (116, (.getfield 52, (sv_N, (119, (0, []))))), (119, (.aload_n 0, (sv_N, (120, (0, []))))), (120, (.getfield 214, (sv_N, (123, (0, []))))), (123, (.iconst 5, (.inl (5 : Int32), (124, (0, []))))), (124, (.iadd, (sv_N, (125, (0, []))))), (125, (.iaload, (sv_N, (126, (0, []))))), (126, (.iload 6, (sv_N, (128, (0, []))))), (128, (.if_icmp .ne 7, (sv_N, (131, (135, []))))), (131, (.iconst 1, (.inl (1 : Int32), (132, (0, []))))), (132, (.goto 4, (sv_N, (135, (136, []))))), (135, (.iconst 0, (.inl (0 : Int32), (136, (0, []))))), (136, (.ireturn, (sv_N, (137, (0, [])))))]
noncomputable def ev_Mo_isLong : sv_E := (fun i => sv_lk i fl_12, (fun i => sv_lk i kc_12, (fun _ => 0, (true, (fun pc => sv_lk pc [], none)))))
noncomputable def kk_Mo_isLong_11 : sv_K (Int32 × sv_S) := fun pc => sv_lk pc []
set_option maxRecDepth 20000 in
theorem e_Mo_isLong_11 (x1 : Int32) (x2 : Int32) (x3 : Int32) (x4 : Int32) (x5 : Int32) (x6 : Int32) (y0 : Int32) (z7 : Option sv_V) (σ : sv_S) : sv_ex ev_Mo_isLong sv_rZ (kk_Mo_isLong_11) cd_Mo_isLong 77 11 [some (.inr (.inr (some (30, 0)))), some (.inl x1), some (.inl x2), some (.inl x3), some (.inl x4), some (.inl x5), some (.inl x6), z7] [.inl y0] σ = f_Mo_isLong_11 x1 x2 x3 x4 x5 x6 y0 σ := by
  unfold f_Mo_isLong_11
  delta ev_Mo_isLong kk_Mo_isLong_11
  rfl
noncomputable def kk_Mo_isLong : sv_K (Int32 × sv_S) := fun pc => sv_lk pc [(11, fun lo st σ => match lo, st with
    | [some (.inr (.inr (some (30, 0)))), some (.inl x1), some (.inl x2), some (.inl x3), some (.inl x4), some (.inl x5), some (.inl x6), _], [.inl y0] => f_Mo_isLong_11 x1 x2 x3 x4 x5 x6 y0 σ
    | _, _ => none)]
set_option maxRecDepth 20000 in
theorem e_Mo_isLong (a1 : Int32) (a2 : Int32) (a3 : Int32) (a4 : Int32) (a5 : Int32) (a6 : Int32) (σ : sv_S) : sv_ex ev_Mo_isLong sv_rZ kk_Mo_isLong cd_Mo_isLong 77 0 [some (.inr (.inr (some (30, 0)))), some (.inl a1), some (.inl a2), some (.inl a3), some (.inl a4), some (.inl a5), some (.inl a6), none] [] σ = f_Mo_isLong a1 a2 a3 a4 a5 a6 σ := by
  unfold f_Mo_isLong
  delta ev_Mo_isLong kk_Mo_isLong
  generalize f_Mo_isLong_11 = c0
  rfl
theorem d_Mo_isLong : cd_Mo_isLong.all (sv_dk cX12_isLong) = true := by decide +kernel
set_option maxRecDepth 20000 in
theorem w_Mo_isLong_11 {Γ : sv_Ga} {res : Int32 × sv_S} (X : sv_Ok Γ ev_Mo_isLong cX12_isLong sv_rZ res) : ∀ (x1 : Int32) (x2 : Int32) (x3 : Int32) (x4 : Int32) (x5 : Int32) (x6 : Int32) (y0 : Int32) (z7 : Option sv_V) (σ : sv_S), f_Mo_isLong_11 x1 x2 x3 x4 x5 x6 y0 σ = some res → sv_T Γ 11 [some (.inr (.inr (some (30, 0)))), some (.inl x1), some (.inl x2), some (.inl x3), some (.inl x4), some (.inl x5), some (.inl x6), z7] [.inl y0] σ := by
  intro x1 x2 x3 x4 x5 x6 y0 z7 σ h
  refine sv_run X d_Mo_isLong (K := kk_Mo_isLong_11) (sv_lk_all (P := fun pc (k : sv_Lo → List sv_V → sv_S → Option (Int32 × sv_S)) => ∀ lo st σ, k lo st σ = some res → sv_T Γ pc lo st σ) ?_) _ _ _ _ _ ((e_Mo_isLong_11 x1 x2 x3 x4 x5 x6 y0 z7 σ).trans h)
  clear h
  exact fun _ h => absurd h List.not_mem_nil

set_option maxRecDepth 20000 in
theorem b_Mo_isLong (Γ : sv_Ga) (res : Int32 × sv_S) (X : sv_Ok Γ ev_Mo_isLong cX12_isLong sv_rZ res) (as : List sv_V) (σ : sv_S) (h : n_Mo_isLong as σ = some res) : sv_T Γ 0 (sv_e0 8 as) [] σ := by
  unfold n_Mo_isLong at h
  split at h
  · refine sv_run X d_Mo_isLong (K := kk_Mo_isLong) (sv_lk_all (P := fun pc (k : sv_Lo → List sv_V → sv_S → Option (Int32 × sv_S)) => ∀ lo st σ, k lo st σ = some res → sv_T Γ pc lo st σ) ?_) _ _ _ _ _ ((e_Mo_isLong _ _ _ _ _ _ _).trans h)
    clear h
    refine List.forall_mem_cons.mpr ⟨fun lo st σ h => ?_, fun _ h => absurd h List.not_mem_nil⟩
    · dsimp only at h
      split at h
      · exact w_Mo_isLong_11 X _ _ _ _ _ _ _ _ _ h
      · cases h
  · cases h
theorem a_Mo_isLong (as : List sv_V) (σ : sv_S) (x : Int32 × sv_S) (h : n_Mo_isLong as σ = some x) : sv_args 8 ev_Mo_isLong.2.2.2.1 as := by
  unfold n_Mo_isLong at h
  split at h
  · exact ⟨Nat.le_of_ble_eq_true rfl, fun _ v hv => by
      simp only [List.mem_cons, List.not_mem_nil, or_false] at hv
      rcases hv with rfl | rfl | rfl | rfl | rfl | rfl | rfl <;> trivial⟩
  · cases h
theorem g_Mo_isLong (as : List sv_V) (σ : sv_S) (x : Option sv_V × sv_S) (h : sv_gI n_Mo_isLong as σ = some x) : ∃ r i as', as = sv_R r i :: as' ∧ sv_kd r i = .inl 12 := by
  obtain ⟨_, _, h, -⟩ := sv_b_some h
  unfold n_Mo_isLong at h
  split at h
  · exact ⟨_, _, _, rfl, rfl⟩
  · cases h

set_option maxRecDepth 20000 in
theorem m_Mo_isLong (l : Launch) : sv_M l yX12_isLong cX12_isLong 8 (some .boolean) (sv_gI n_Mo_isLong) 0 := by
  refine sv_mZ (E := ev_Mo_isLong) (by decide +kernel) (ln_gen fk_12 kk_12 (sv_ns _ (fun _ => rfl) _)) rfl ?_ a_Mo_isLong b_Mo_isLong
  intro p e R s m args below meth c cells slots Q base ad dC dI cA n0 S hkn hR hf pc n f hcs
  refine sv_lk_all (P := fun pc (x : Nat × sv_F) => sv_cok p l e R s m args below meth c cells slots Q base ad dC dI cA true 8 n0 pc x.1 x.2) ?_ pc (n, f) hcs
  exact fun _ h => absurd h List.not_mem_nil
noncomputable def f_Mo_key (σ : sv_S) : Option (Int32 × sv_S) :=
  sv_b (f_Mo_isWordAt (104 : Int32) (101 : Int32) (97 : Int32) (114 : Int32) σ) (fun v1 σ2 =>
    sv_if (v1 = 0)
      (sv_b (f_Mo_isLong (115 : Int32) (116 : Int32) (97 : Int32) (114 : Int32) (116 : Int32) (0 : Int32) σ2) (fun v3 σ4 =>
        sv_if (v3 = 0)
          (sv_b (f_Mo_isWordAt (102 : Int32) (105 : Int32) (110 : Int32) (101 : Int32) σ4) (fun v5 σ6 =>
            sv_if (v5 = 0)
              (some ((-1 : Int32), σ6))
              (some ((2 : Int32), σ6))))
          (some ((1 : Int32), σ4))))
      (some ((0 : Int32), σ2)))
noncomputable def n_Mo_key : List sv_V → sv_S → Option (Int32 × sv_S)
  | [.inr (.inr (some (30, 0)))], σ => f_Mo_key σ
  | _, _ => none
def cd_Mo_key : sv_C := [(0, (.aload_n 0, (sv_N, (1, (0, []))))), (1, (.bipush 104, (.inl (104 : Int32), (3, (0, []))))), (3, (.bipush 101, (.inl (101 : Int32), (5, (0, []))))), (5, (.bipush 97, (.inl (97 : Int32), (7, (0, []))))), (7, (.bipush 114, (.inl (114 : Int32), (9, (0, []))))), (9, (.invokevirtual 229, (sv_N, (12, (0, []))))), (12, (.ifCond .eq 5, (sv_N, (15, (17, []))))), (15, (.iconst 0, (.inl (0 : Int32), (16, (0, []))))), (16, (.ireturn, (sv_N, (17, (0, []))))), (17, (.aload_n 0, (sv_N, (18, (0, []))))), (18, (.bipush 115, (.inl (115 : Int32), (20, (0, []))))), (20, (.bipush 116, (.inl (116 : Int32), (22, (0, []))))), (22, (.bipush 97, (.inl (97 : Int32), (24, (0, []))))), (24, (.bipush 114, (.inl (114 : Int32), (26, (0, []))))), (26, (.bipush 116, (.inl (116 : Int32), (28, (0, []))))), (28, (.iconst 0, (.inl (0 : Int32), (29, (0, []))))), (29, (.invokevirtual 233, (sv_N, (32, (0, []))))), (32, (.ifCond .eq 5, (sv_N, (35, (37, []))))), (35, (.iconst 1, (.inl (1 : Int32), (36, (0, []))))), (36, (.ireturn, (sv_N, (37, (0, []))))), (37, (.aload_n 0, (sv_N, (38, (0, []))))), (38, (.bipush 102, (.inl (102 : Int32), (40, (0, []))))), (40, (.bipush 105, (.inl (105 : Int32), (42, (0, []))))), (42, (.bipush 110, (.inl (110 : Int32), (44, (0, []))))), (44, (.bipush 101, (.inl (101 : Int32), (46, (0, []))))), (46, (.invokevirtual 229, (sv_N, (49, (0, []))))), (49, (.ifCond .eq 7, (sv_N, (52, (56, []))))), (52, (.iconst 2, (.inl (2 : Int32), (53, (0, []))))), (53, (.goto 4, (sv_N, (56, (57, []))))), (56, (.iconst (-1), (.inl (-1 : Int32), (57, (0, []))))), (57, (.ireturn, (sv_N, (58, (0, [])))))]
noncomputable def ev_Mo_key : sv_E := (fun i => sv_lk i fl_12, (fun i => sv_lk i kc_12, (fun _ => 0, (true, (fun pc => sv_lk pc [(9, (5, .inl n_Mo_isWordAt)), (29, (7, .inl n_Mo_isLong)), (46, (5, .inl n_Mo_isWordAt))], none)))))
noncomputable def kk_Mo_key : sv_K (Int32 × sv_S) := fun pc => sv_lk pc []
set_option maxRecDepth 20000 in
theorem e_Mo_key (σ : sv_S) : sv_ex ev_Mo_key sv_rI kk_Mo_key cd_Mo_key 33 0 [some (.inr (.inr (some (30, 0))))] [] σ = f_Mo_key σ := by
  unfold f_Mo_key
  delta ev_Mo_key kk_Mo_key n_Mo_isWordAt n_Mo_isLong
  generalize f_Mo_isWordAt = c0
  generalize f_Mo_isLong = c1
  rfl
theorem d_Mo_key : cd_Mo_key.all (sv_dk cX12_key) = true := by decide +kernel
set_option maxRecDepth 20000 in
theorem b_Mo_key (Γ : sv_Ga) (res : Int32 × sv_S) (X : sv_Ok Γ ev_Mo_key cX12_key sv_rI res) (as : List sv_V) (σ : sv_S) (h : n_Mo_key as σ = some res) : sv_T Γ 0 (sv_e0 1 as) [] σ := by
  unfold n_Mo_key at h
  split at h
  · refine sv_run X d_Mo_key (K := kk_Mo_key) (sv_lk_all (P := fun pc (k : sv_Lo → List sv_V → sv_S → Option (Int32 × sv_S)) => ∀ lo st σ, k lo st σ = some res → sv_T Γ pc lo st σ) ?_) _ _ _ _ _ ((e_Mo_key _).trans h)
    clear h
    exact fun _ h => absurd h List.not_mem_nil
  · cases h
theorem a_Mo_key (as : List sv_V) (σ : sv_S) (x : Int32 × sv_S) (h : n_Mo_key as σ = some x) : sv_args 1 ev_Mo_key.2.2.2.1 as := by
  unfold n_Mo_key at h
  split at h
  · exact ⟨Nat.le_of_ble_eq_true rfl, fun _ v hv => by
      simp only [List.mem_cons, List.not_mem_nil, or_false] at hv
      rcases hv with rfl <;> trivial⟩
  · cases h
theorem g_Mo_key (as : List sv_V) (σ : sv_S) (x : Option sv_V × sv_S) (h : sv_gI n_Mo_key as σ = some x) : ∃ r i as', as = sv_R r i :: as' ∧ sv_kd r i = .inl 12 := by
  obtain ⟨_, _, h, -⟩ := sv_b_some h
  unfold n_Mo_key at h
  split at h
  · exact ⟨_, _, _, rfl, rfl⟩
  · cases h
theorem tw_38 : Cond.selects RX12 yX12_isWordAt yX12_isWordAt ∈ gw_tbl := gw_at 38 (by decide +kernel) rfl
theorem tw_39 : Cond.selects RX12 yX12_isLong yX12_isLong ∈ gw_tbl := gw_at 39 (by decide +kernel) rfl
theorem tw_1350 : Cond.methodLink RX12 229 yX12_isWordAt ∈ gw_tbl := gw_at 1350 (by decide +kernel) rfl
theorem tw_1352 : Cond.instanceMethod yX12_isWordAt ∈ gw_tbl := gw_at 1352 (by decide +kernel) rfl
theorem tw_1353 : Cond.code yX12_isWordAt cX12_isWordAt 6 (some .boolean) ∈ gw_tbl := gw_at 1353 (by decide +kernel) rfl
theorem tw_1354 : Cond.methodLink RX12 233 yX12_isLong ∈ gw_tbl := gw_at 1354 (by decide +kernel) rfl
theorem tw_1356 : Cond.instanceMethod yX12_isLong ∈ gw_tbl := gw_at 1356 (by decide +kernel) rfl
theorem tw_1357 : Cond.code yX12_isLong cX12_isLong 8 (some .boolean) ∈ gw_tbl := gw_at 1357 (by decide +kernel) rfl
set_option maxRecDepth 20000 in
theorem m_Mo_key (l : Launch) : sv_M l yX12_key cX12_key 1 (some .int) (sv_gI n_Mo_key) 1 := by
  refine sv_mI (E := ev_Mo_key) (by decide +kernel) (ln_gen fk_12 kk_12 (sv_ns _ (fun _ => rfl) _)) rfl ?_ a_Mo_key b_Mo_key
  intro p e R s m args below meth c cells slots Q base ad dC dI cA n0 S hkn hR hf pc n f hcs
  refine sv_lk_all (P := fun pc (x : Nat × sv_F) => sv_cok p l e R s m args below meth c cells slots Q base ad dC dI cA true 1 n0 pc x.1 x.2) ?_ pc (n, f) hcs
  exact List.forall_mem_cons.mpr ⟨(sv_cV S hkn (m_Mo_isWordAt l) ⟨Nat.le_trans (by decide) hR.1, Nat.le_trans (by decide) hR.2⟩ (by decide) hf rfl (g_Mo_isWordAt) (sv_w5 tw_1350 tw_1352 tw_38 tw_65 tw_1353) (by decide +kernel) (sv_dc3 d_Mo_key (pc := 9) rfl rfl)).I,
      List.forall_mem_cons.mpr ⟨(sv_cV S hkn (m_Mo_isLong l) ⟨Nat.le_trans (by decide) hR.1, Nat.le_trans (by decide) hR.2⟩ (by decide) hf rfl (g_Mo_isLong) (sv_w5 tw_1354 tw_1356 tw_39 tw_65 tw_1357) (by decide +kernel) (sv_dc3 d_Mo_key (pc := 29) rfl rfl)).I,
      List.forall_mem_cons.mpr ⟨(sv_cV S hkn (m_Mo_isWordAt l) ⟨Nat.le_trans (by decide) hR.1, Nat.le_trans (by decide) hR.2⟩ (by decide) hf rfl (g_Mo_isWordAt) (sv_w5 tw_1350 tw_1352 tw_38 tw_65 tw_1353) (by decide +kernel) (sv_dc3 d_Mo_key (pc := 46) rfl rfl)).I,
      fun _ h => absurd h List.not_mem_nil⟩⟩⟩
noncomputable def f_Mo_isName (a0 : Int32) (a1 : Int32) (σ : sv_S) : Option (Int32 × sv_S) :=
  sv_if (a0.toInt = 0)
    (sv_if (a1 = (108 : Int32))
      (sv_g ((1 : Int32) = 0 ∨ (1 : Int32) = 1) (some ((1 : Int32), σ)))
      (sv_if (a1 = (114 : Int32))
        (sv_g ((1 : Int32) = 0 ∨ (1 : Int32) = 1) (some ((1 : Int32), σ)))
        (sv_if (a1 = (110 : Int32))
          (sv_g ((1 : Int32) = 0 ∨ (1 : Int32) = 1) (some ((1 : Int32), σ)))
          (sv_g ((0 : Int32) = 0 ∨ (0 : Int32) = 1) (some ((0 : Int32), σ))))))
    (sv_if (a0.toInt = 1)
    (sv_if (a1 = (115 : Int32))
      (sv_g ((1 : Int32) = 0 ∨ (1 : Int32) = 1) (some ((1 : Int32), σ)))
      (sv_if (a1 = (110 : Int32))
        (sv_g ((1 : Int32) = 0 ∨ (1 : Int32) = 1) (some ((1 : Int32), σ)))
        (sv_if (a1 = (98 : Int32))
          (sv_g ((1 : Int32) = 0 ∨ (1 : Int32) = 1) (some ((1 : Int32), σ)))
          (sv_g ((0 : Int32) = 0 ∨ (0 : Int32) = 1) (some ((0 : Int32), σ))))))
    (sv_if (a1 = (109 : Int32))
      (sv_g ((1 : Int32) = 0 ∨ (1 : Int32) = 1) (some ((1 : Int32), σ)))
      (sv_if (a1 = (98 : Int32))
        (sv_g ((1 : Int32) = 0 ∨ (1 : Int32) = 1) (some ((1 : Int32), σ)))
        (sv_g ((0 : Int32) = 0 ∨ (0 : Int32) = 1) (some ((0 : Int32), σ))))))
noncomputable def n_Mo_isName : List sv_V → sv_S → Option (Int32 × sv_S)
  | [.inl a0, .inl a1], σ => f_Mo_isName a0 a1 σ
  | _, _ => none
def cd_Mo_isName : sv_C := [(0, (.iload_n 0, (sv_N, (1, (0, []))))), (1, (.lookupswitch 75 #[(0, 27), (1, 51)], (sv_N, (1, (76, [(0, 28), (1, 52)]))))), (28, (.iload_n 1, (sv_N, (29, (0, []))))), (29, (.bipush 108, (.inl (108 : Int32), (31, (0, []))))), (31, (.if_icmp .eq 15, (sv_N, (34, (46, []))))), (34, (.iload_n 1, (sv_N, (35, (0, []))))), (35, (.bipush 114, (.inl (114 : Int32), (37, (0, []))))), (37, (.if_icmp .eq 9, (sv_N, (40, (46, []))))), (40, (.iload_n 1, (sv_N, (41, (0, []))))), (41, (.bipush 110, (.inl (110 : Int32), (43, (0, []))))), (43, (.if_icmp .ne 7, (sv_N, (46, (50, []))))), (46, (.iconst 1, (.inl (1 : Int32), (47, (0, []))))), (47, (.goto 4, (sv_N, (50, (51, []))))), (50, (.iconst 0, (.inl (0 : Int32), (51, (0, []))))), (51, (.ireturn, (sv_N, (52, (0, []))))), (52, (.iload_n 1, (sv_N, (53, (0, []))))), (53, (.bipush 115, (.inl (115 : Int32), (55, (0, []))))), (55, (.if_icmp .eq 15, (sv_N, (58, (70, []))))), (58, (.iload_n 1, (sv_N, (59, (0, []))))), (59, (.bipush 110, (.inl (110 : Int32), (61, (0, []))))), (61, (.if_icmp .eq 9, (sv_N, (64, (70, []))))), (64, (.iload_n 1, (sv_N, (65, (0, []))))), (65, (.bipush 98, (.inl (98 : Int32), (67, (0, []))))), (67, (.if_icmp .ne 7, (sv_N, (70, (74, []))))), (70, (.iconst 1, (.inl (1 : Int32), (71, (0, []))))), (71, (.goto 4, (sv_N, (74, (75, []))))), (74, (.iconst 0, (.inl (0 : Int32), (75, (0, []))))), (75, (.ireturn, (sv_N, (76, (0, []))))), (76, (.iload_n 1, (sv_N, (77, (0, []))))), (77, (.bipush 109, (.inl (109 : Int32), (79, (0, []))))), (79, (.if_icmp .eq 9, (sv_N, (82, (88, []))))), (82, (.iload_n 1, (sv_N, (83, (0, []))))), (83, (.bipush 98, (.inl (98 : Int32), (85, (0, []))))), (85, (.if_icmp .ne 7, (sv_N, (88, (92, []))))), (88, (.iconst 1, (.inl (1 : Int32), (89, (0, []))))), (89, (.goto 4, (sv_N, (92, (93, []))))), (92, (.iconst 0, (.inl (0 : Int32), (93, (0, []))))), (93, (.ireturn, (sv_N, (94, (0, [])))))]
noncomputable def ev_Mo_isName : sv_E := (fun i => sv_lk i fl_12, (fun i => sv_lk i kc_12, (fun _ => 0, (true, (fun pc => sv_lk pc [], none)))))
noncomputable def kk_Mo_isName : sv_K (Int32 × sv_S) := fun pc => sv_lk pc []
set_option maxRecDepth 20000 in
theorem e_Mo_isName (a0 : Int32) (a1 : Int32) (σ : sv_S) : sv_ex ev_Mo_isName sv_rZ kk_Mo_isName cd_Mo_isName 40 0 [some (.inl a0), some (.inl a1)] [] σ = f_Mo_isName a0 a1 σ := by
  unfold f_Mo_isName
  delta ev_Mo_isName kk_Mo_isName
  rfl
theorem d_Mo_isName : cd_Mo_isName.all (sv_dk cX12_isName) = true := by decide +kernel
set_option maxRecDepth 20000 in
theorem b_Mo_isName (Γ : sv_Ga) (res : Int32 × sv_S) (X : sv_Ok Γ ev_Mo_isName cX12_isName sv_rZ res) (as : List sv_V) (σ : sv_S) (h : n_Mo_isName as σ = some res) : sv_T Γ 0 (sv_e0 2 as) [] σ := by
  unfold n_Mo_isName at h
  split at h
  · refine sv_run X d_Mo_isName (K := kk_Mo_isName) (sv_lk_all (P := fun pc (k : sv_Lo → List sv_V → sv_S → Option (Int32 × sv_S)) => ∀ lo st σ, k lo st σ = some res → sv_T Γ pc lo st σ) ?_) _ _ _ _ _ ((e_Mo_isName _ _ _).trans h)
    clear h
    exact fun _ h => absurd h List.not_mem_nil
  · cases h
theorem a_Mo_isName (as : List sv_V) (σ : sv_S) (x : Int32 × sv_S) (h : n_Mo_isName as σ = some x) : sv_args 2 ev_Mo_isName.2.2.2.1 as := by
  unfold n_Mo_isName at h
  split at h
  · exact ⟨Nat.le_of_ble_eq_true rfl, fun _ v hv => by
      simp only [List.mem_cons, List.not_mem_nil, or_false] at hv
      rcases hv with rfl | rfl <;> trivial⟩
  · cases h

set_option maxRecDepth 20000 in
theorem m_Mo_isName (l : Launch) : sv_M l yX12_isName cX12_isName 2 (some .boolean) (sv_gI n_Mo_isName) 0 := by
  refine sv_mZ (E := ev_Mo_isName) (by decide +kernel) (ln_gen fk_12 kk_12 (sv_ns _ (fun _ => rfl) _)) rfl ?_ a_Mo_isName b_Mo_isName
  intro p e R s m args below meth c cells slots Q base ad dC dI cA n0 S hkn hR hf pc n f hcs
  refine sv_lk_all (P := fun pc (x : Nat × sv_F) => sv_cok p l e R s m args below meth c cells slots Q base ad dC dI cA true 2 n0 pc x.1 x.2) ?_ pc (n, f) hcs
  exact fun _ h => absurd h List.not_mem_nil
noncomputable def f_Mo_step (a1 : Int32) (a2 : Int32) (σ : sv_S) : Option (sv_S) :=
  sv_g (sv_in ((σ 30 0 26) + ((2 : Int32) * (σ 30 0 25))) 3086) (sv_g (sv_in ((((sv_up σ 31 0 (((σ 30 0 26) + ((2 : Int32) * (σ 30 0 25))).toNatClampNeg) a1) 30 0 26) + ((2 : Int32) * ((sv_up σ 31 0 (((σ 30 0 26) + ((2 : Int32) * (σ 30 0 25))).toNatClampNeg) a1) 30 0 25))) + (1 : Int32)) 3086) (let σ1 := sv_up (sv_up (sv_up σ 31 0 (((σ 30 0 26) + ((2 : Int32) * (σ 30 0 25))).toNatClampNeg) a1) 31 0 (((((sv_up σ 31 0 (((σ 30 0 26) + ((2 : Int32) * (σ 30 0 25))).toNatClampNeg) a1) 30 0 26) + ((2 : Int32) * ((sv_up σ 31 0 (((σ 30 0 26) + ((2 : Int32) * (σ 30 0 25))).toNatClampNeg) a1) 30 0 25))) + (1 : Int32)).toNatClampNeg) a2) 30 0 25 (((sv_up (sv_up σ 31 0 (((σ 30 0 26) + ((2 : Int32) * (σ 30 0 25))).toNatClampNeg) a1) 31 0 (((((sv_up σ 31 0 (((σ 30 0 26) + ((2 : Int32) * (σ 30 0 25))).toNatClampNeg) a1) 30 0 26) + ((2 : Int32) * ((sv_up σ 31 0 (((σ 30 0 26) + ((2 : Int32) * (σ 30 0 25))).toNatClampNeg) a1) 30 0 25))) + (1 : Int32)).toNatClampNeg) a2) 30 0 25) + (1 : Int32))
  some σ1))
noncomputable def n_Mo_step : List sv_V → sv_S → Option (sv_S)
  | [.inr (.inr (some (30, 0))), .inl a1, .inl a2], σ => f_Mo_step a1 a2 σ
  | _, _ => none
def cd_Mo_step : sv_C := [(0, (.aload_n 0, (sv_N, (1, (0, []))))), (1, (.getfield 7, (sv_N, (4, (0, []))))), (4, (.aload_n 0, (sv_N, (5, (0, []))))), (5, (.getfield 237, (sv_N, (8, (0, []))))), (8, (.iconst 2, (.inl (2 : Int32), (9, (0, []))))), (9, (.aload_n 0, (sv_N, (10, (0, []))))), (10, (.getfield 240, (sv_N, (13, (0, []))))), (13, (.imul, (sv_N, (14, (0, []))))), (14, (.iadd, (sv_N, (15, (0, []))))), (15, (.iload_n 1, (sv_N, (16, (0, []))))), (16, (.iastore, (sv_N, (17, (0, []))))), (17, (.aload_n 0, (sv_N, (18, (0, []))))), (18, (.getfield 7, (sv_N, (21, (0, []))))), (21, (.aload_n 0, (sv_N, (22, (0, []))))), (22, (.getfield 237, (sv_N, (25, (0, []))))), (25, (.iconst 2, (.inl (2 : Int32), (26, (0, []))))), (26, (.aload_n 0, (sv_N, (27, (0, []))))), (27, (.getfield 240, (sv_N, (30, (0, []))))), (30, (.imul, (sv_N, (31, (0, []))))), (31, (.iadd, (sv_N, (32, (0, []))))), (32, (.iconst 1, (.inl (1 : Int32), (33, (0, []))))), (33, (.iadd, (sv_N, (34, (0, []))))), (34, (.iload_n 2, (sv_N, (35, (0, []))))), (35, (.iastore, (sv_N, (36, (0, []))))), (36, (.aload_n 0, (sv_N, (37, (0, []))))), (37, (.dup, (sv_N, (38, (0, []))))), (38, (.getfield 240, (sv_N, (41, (0, []))))), (41, (.iconst 1, (.inl (1 : Int32), (42, (0, []))))), (42, (.iadd, (sv_N, (43, (0, []))))), (43, (.putfield 240, (sv_N, (46, (0, []))))), (46, (.return_, (sv_N, (47, (0, [])))))]
noncomputable def ev_Mo_step : sv_E := (fun i => sv_lk i fl_12, (fun i => sv_lk i kc_12, (fun _ => 0, (true, (fun pc => sv_lk pc [], none)))))
noncomputable def kk_Mo_step : sv_K (sv_S) := fun pc => sv_lk pc []
set_option maxRecDepth 20000 in
theorem e_Mo_step (a1 : Int32) (a2 : Int32) (σ : sv_S) : sv_ex ev_Mo_step sv_rV kk_Mo_step cd_Mo_step 33 0 [some (.inr (.inr (some (30, 0)))), some (.inl a1), some (.inl a2)] [] σ = f_Mo_step a1 a2 σ := by
  unfold f_Mo_step
  delta ev_Mo_step kk_Mo_step
  rfl
theorem d_Mo_step : cd_Mo_step.all (sv_dk cX12_step) = true := by decide +kernel
set_option maxRecDepth 20000 in
theorem b_Mo_step (Γ : sv_Ga) (res : sv_S) (X : sv_Ok Γ ev_Mo_step cX12_step sv_rV res) (as : List sv_V) (σ : sv_S) (h : n_Mo_step as σ = some res) : sv_T Γ 0 (sv_e0 3 as) [] σ := by
  unfold n_Mo_step at h
  split at h
  · refine sv_run X d_Mo_step (K := kk_Mo_step) (sv_lk_all (P := fun pc (k : sv_Lo → List sv_V → sv_S → Option (sv_S)) => ∀ lo st σ, k lo st σ = some res → sv_T Γ pc lo st σ) ?_) _ _ _ _ _ ((e_Mo_step _ _ _).trans h)
    clear h
    exact fun _ h => absurd h List.not_mem_nil
  · cases h
theorem a_Mo_step (as : List sv_V) (σ : sv_S) (x : sv_S) (h : n_Mo_step as σ = some x) : sv_args 3 ev_Mo_step.2.2.2.1 as := by
  unfold n_Mo_step at h
  split at h
  · exact ⟨Nat.le_of_ble_eq_true rfl, fun _ v hv => by
      simp only [List.mem_cons, List.not_mem_nil, or_false] at hv
      rcases hv with rfl | rfl | rfl <;> trivial⟩
  · cases h
theorem g_Mo_step (as : List sv_V) (σ : sv_S) (x : Option sv_V × sv_S) (h : sv_gV n_Mo_step as σ = some x) : ∃ r i as', as = sv_R r i :: as' ∧ sv_kd r i = .inl 12 := by
  obtain ⟨_, h, -⟩ := sv_b0_some h
  unfold n_Mo_step at h
  split at h
  · exact ⟨_, _, _, rfl, rfl⟩
  · cases h

set_option maxRecDepth 20000 in
theorem m_Mo_step (l : Launch) : sv_M l yX12_step cX12_step 3 none (sv_gV n_Mo_step) 0 := by
  refine sv_mV (E := ev_Mo_step) (by decide +kernel) (ln_gen fk_12 kk_12 (sv_ns _ (fun _ => rfl) _)) rfl ?_ a_Mo_step b_Mo_step
  intro p e R s m args below meth c cells slots Q base ad dC dI cA n0 S hkn hR hf pc n f hcs
  refine sv_lk_all (P := fun pc (x : Nat × sv_F) => sv_cok p l e R s m args below meth c cells slots Q base ad dC dI cA true 3 n0 pc x.1 x.2) ?_ pc (n, f) hcs
  exact fun _ h => absurd h List.not_mem_nil
noncomputable def f_Mo_textTold (a1 : Int32) (a2 : Int32) (σ : sv_S) : Option (Int32 × sv_S) :=
  sv_b (f_Mo_isText a1 σ) (fun v1 σ2 =>
    sv_if (v1 = 0)
      (some ((-1000000001 : Int32), σ2))
      (sv_b (f_Mo_isIn (a2.toInt64) (0 : Int64) (1 : Int64) σ2) (fun v3 σ4 =>
        sv_if (v3 = 0)
          (some ((-1000000001 : Int32), σ4))
          (sv_b (f_Mo_textAt a1 σ4) (fun v5 σ6 =>
            sv_g (sv_in (v5 + a2) 3086) (some (σ6 31 0 ((v5 + a2).toNatClampNeg), σ6)))))))
noncomputable def n_Mo_textTold : List sv_V → sv_S → Option (Int32 × sv_S)
  | [.inr (.inr (some (30, 0))), .inl a1, .inl a2], σ => f_Mo_textTold a1 a2 σ
  | _, _ => none
def cd_Mo_textTold : sv_C := [(0, (.aload_n 0, (sv_N, (1, (0, []))))), (1, (.iload_n 1, (sv_N, (2, (0, []))))), (2, (.invokevirtual 291, (sv_N, (5, (0, []))))), (5, (.ifCond .eq 13, (sv_N, (8, (18, []))))), (8, (.iload_n 2, (sv_N, (9, (0, []))))), (9, (.i2l, (sv_N, (10, (0, []))))), (10, (.lconst 0, (.inr (.inl (0 : Int64)), (11, (0, []))))), (11, (.lconst 1, (.inr (.inl (1 : Int64)), (12, (0, []))))), (12, (.invokestatic 71, (sv_N, (15, (0, []))))), (15, (.ifCond .ne 6, (sv_N, (18, (21, []))))), (18, (.ldc 84, (sv_N, (20, (0, []))))), (20, (.ireturn, (sv_N, (21, (0, []))))), (21, (.aload_n 0, (sv_N, (22, (0, []))))), (22, (.getfield 7, (sv_N, (25, (0, []))))), (25, (.aload_n 0, (sv_N, (26, (0, []))))), (26, (.iload_n 1, (sv_N, (27, (0, []))))), (27, (.invokevirtual 282, (sv_N, (30, (0, []))))), (30, (.iload_n 2, (sv_N, (31, (0, []))))), (31, (.iadd, (sv_N, (32, (0, []))))), (32, (.iaload, (sv_N, (33, (0, []))))), (33, (.ireturn, (sv_N, (34, (0, [])))))]
noncomputable def ev_Mo_textTold : sv_E := (fun i => sv_lk i fl_12, (fun i => sv_lk i kc_12, (fun _ => 0, (true, (fun pc => sv_lk pc [(2, (2, .inl n_Mo_isText)), (12, (3, .inl n_Mo_isIn)), (27, (2, .inl n_Mo_textAt))], none)))))
noncomputable def kk_Mo_textTold : sv_K (Int32 × sv_S) := fun pc => sv_lk pc []
set_option maxRecDepth 20000 in
theorem e_Mo_textTold (a1 : Int32) (a2 : Int32) (σ : sv_S) : sv_ex ev_Mo_textTold sv_rI kk_Mo_textTold cd_Mo_textTold 23 0 [some (.inr (.inr (some (30, 0)))), some (.inl a1), some (.inl a2)] [] σ = f_Mo_textTold a1 a2 σ := by
  unfold f_Mo_textTold
  delta ev_Mo_textTold kk_Mo_textTold n_Mo_isText n_Mo_isIn n_Mo_textAt
  generalize f_Mo_isText = c0
  generalize f_Mo_isIn = c1
  generalize f_Mo_textAt = c2
  rfl
theorem d_Mo_textTold : cd_Mo_textTold.all (sv_dk cX12_textTold) = true := by decide +kernel
set_option maxRecDepth 20000 in
theorem b_Mo_textTold (Γ : sv_Ga) (res : Int32 × sv_S) (X : sv_Ok Γ ev_Mo_textTold cX12_textTold sv_rI res) (as : List sv_V) (σ : sv_S) (h : n_Mo_textTold as σ = some res) : sv_T Γ 0 (sv_e0 3 as) [] σ := by
  unfold n_Mo_textTold at h
  split at h
  · refine sv_run X d_Mo_textTold (K := kk_Mo_textTold) (sv_lk_all (P := fun pc (k : sv_Lo → List sv_V → sv_S → Option (Int32 × sv_S)) => ∀ lo st σ, k lo st σ = some res → sv_T Γ pc lo st σ) ?_) _ _ _ _ _ ((e_Mo_textTold _ _ _).trans h)
    clear h
    exact fun _ h => absurd h List.not_mem_nil
  · cases h
theorem a_Mo_textTold (as : List sv_V) (σ : sv_S) (x : Int32 × sv_S) (h : n_Mo_textTold as σ = some x) : sv_args 3 ev_Mo_textTold.2.2.2.1 as := by
  unfold n_Mo_textTold at h
  split at h
  · exact ⟨Nat.le_of_ble_eq_true rfl, fun _ v hv => by
      simp only [List.mem_cons, List.not_mem_nil, or_false] at hv
      rcases hv with rfl | rfl | rfl <;> trivial⟩
  · cases h
theorem g_Mo_textTold (as : List sv_V) (σ : sv_S) (x : Option sv_V × sv_S) (h : sv_gI n_Mo_textTold as σ = some x) : ∃ r i as', as = sv_R r i :: as' ∧ sv_kd r i = .inl 12 := by
  obtain ⟨_, _, h, -⟩ := sv_b_some h
  unfold n_Mo_textTold at h
  split at h
  · exact ⟨_, _, _, rfl, rfl⟩
  · cases h
theorem tw_48 : Cond.selects RX12 yX12_isText yX12_isText ∈ gw_tbl := gw_at 48 (by decide +kernel) rfl
theorem tw_1397 : Cond.methodLink RX12 291 yX12_isText ∈ gw_tbl := gw_at 1397 (by decide +kernel) rfl
theorem tw_1399 : Cond.instanceMethod yX12_isText ∈ gw_tbl := gw_at 1399 (by decide +kernel) rfl
theorem tw_1400 : Cond.code yX12_isText cX12_isText 2 (some .boolean) ∈ gw_tbl := gw_at 1400 (by decide +kernel) rfl
set_option maxRecDepth 20000 in
theorem m_Mo_textTold (l : Launch) : sv_M l yX12_textTold cX12_textTold 3 (some .int) (sv_gI n_Mo_textTold) 2 := by
  refine sv_mI (E := ev_Mo_textTold) (by decide +kernel) (ln_gen fk_12 kk_12 (sv_ns _ (fun _ => rfl) _)) rfl ?_ a_Mo_textTold b_Mo_textTold
  intro p e R s m args below meth c cells slots Q base ad dC dI cA n0 S hkn hR hf pc n f hcs
  refine sv_lk_all (P := fun pc (x : Nat × sv_F) => sv_cok p l e R s m args below meth c cells slots Q base ad dC dI cA true 3 n0 pc x.1 x.2) ?_ pc (n, f) hcs
  exact List.forall_mem_cons.mpr ⟨(sv_cV S hkn (m_Mo_isText l) ⟨Nat.le_trans (by decide) hR.1, Nat.le_trans (by decide) hR.2⟩ (by decide) hf rfl (g_Mo_isText) (sv_w5 tw_1397 tw_1399 tw_48 tw_65 tw_1400) (by decide +kernel) (sv_dc3 d_Mo_textTold (pc := 2) rfl rfl)).I,
      List.forall_mem_cons.mpr ⟨(sv_cS S hkn (m_Mo_isIn l) ⟨Nat.le_trans (by decide) hR.1, Nat.le_trans (by decide) hR.2⟩ (by decide) hf (sv_w4 tw_1098 tw_1099 tw_65 tw_1100) (by decide +kernel) (sv_dc3 d_Mo_textTold (pc := 12) rfl rfl)).I,
      List.forall_mem_cons.mpr ⟨(sv_cV S hkn (m_Mo_textAt l) ⟨Nat.le_trans (by decide) hR.1, Nat.le_trans (by decide) hR.2⟩ (by decide) hf rfl (g_Mo_textAt) (sv_w5 tw_1141 tw_1143 tw_15 tw_65 tw_1144) (by decide +kernel) (sv_dc3 d_Mo_textTold (pc := 27) rfl rfl)).I,
      fun _ h => absurd h List.not_mem_nil⟩⟩⟩
noncomputable def f_Mo_why (a1 : Int32) (σ : sv_S) : Option (Int32 × sv_S) :=
  sv_b (f_Mo_isIn (a1.toInt64) (0 : Int64) (2 : Int64) σ) (fun v1 σ2 =>
    sv_if (v1 = 0)
      (some ((-1000000001 : Int32), σ2))
      (sv_b (f_Mo_counts a1 σ2) (fun v3 σ4 =>
        sv_b (f_Mo_orNone v3 σ4) (fun v5 σ6 =>
          some (v5, σ6)))))
noncomputable def n_Mo_why : List sv_V → sv_S → Option (Int32 × sv_S)
  | [.inr (.inr (some (30, 0))), .inl a1], σ => f_Mo_why a1 σ
  | _, _ => none
def cd_Mo_why : sv_C := [(0, (.iload_n 1, (sv_N, (1, (0, []))))), (1, (.i2l, (sv_N, (2, (0, []))))), (2, (.lconst 0, (.inr (.inl (0 : Int64)), (3, (0, []))))), (3, (.ldc2_w 160, (sv_N, (6, (0, []))))), (6, (.invokestatic 71, (sv_N, (9, (0, []))))), (9, (.ifCond .eq 14, (sv_N, (12, (23, []))))), (12, (.aload_n 0, (sv_N, (13, (0, []))))), (13, (.iload_n 1, (sv_N, (14, (0, []))))), (14, (.invokevirtual 101, (sv_N, (17, (0, []))))), (17, (.invokestatic 171, (sv_N, (20, (0, []))))), (20, (.goto 5, (sv_N, (23, (25, []))))), (23, (.ldc 84, (sv_N, (25, (0, []))))), (25, (.ireturn, (sv_N, (26, (0, [])))))]
noncomputable def ev_Mo_why : sv_E := (fun i => sv_lk i fl_12, (fun i => sv_lk i kc_12, (fun _ => 0, (true, (fun pc => sv_lk pc [(6, (3, .inl n_Mo_isIn)), (14, (2, .inl n_Mo_counts)), (17, (1, .inl n_Mo_orNone))], none)))))
noncomputable def kk_Mo_why : sv_K (Int32 × sv_S) := fun pc => sv_lk pc []
set_option maxRecDepth 20000 in
theorem e_Mo_why (a1 : Int32) (σ : sv_S) : sv_ex ev_Mo_why sv_rI kk_Mo_why cd_Mo_why 15 0 [some (.inr (.inr (some (30, 0)))), some (.inl a1)] [] σ = f_Mo_why a1 σ := by
  unfold f_Mo_why
  delta ev_Mo_why kk_Mo_why n_Mo_isIn n_Mo_counts n_Mo_orNone
  generalize f_Mo_isIn = c0
  generalize f_Mo_counts = c1
  generalize f_Mo_orNone = c2
  rfl
theorem d_Mo_why : cd_Mo_why.all (sv_dk cX12_why) = true := by decide +kernel
set_option maxRecDepth 20000 in
theorem b_Mo_why (Γ : sv_Ga) (res : Int32 × sv_S) (X : sv_Ok Γ ev_Mo_why cX12_why sv_rI res) (as : List sv_V) (σ : sv_S) (h : n_Mo_why as σ = some res) : sv_T Γ 0 (sv_e0 2 as) [] σ := by
  unfold n_Mo_why at h
  split at h
  · refine sv_run X d_Mo_why (K := kk_Mo_why) (sv_lk_all (P := fun pc (k : sv_Lo → List sv_V → sv_S → Option (Int32 × sv_S)) => ∀ lo st σ, k lo st σ = some res → sv_T Γ pc lo st σ) ?_) _ _ _ _ _ ((e_Mo_why _ _).trans h)
    clear h
    exact fun _ h => absurd h List.not_mem_nil
  · cases h
theorem a_Mo_why (as : List sv_V) (σ : sv_S) (x : Int32 × sv_S) (h : n_Mo_why as σ = some x) : sv_args 2 ev_Mo_why.2.2.2.1 as := by
  unfold n_Mo_why at h
  split at h
  · exact ⟨Nat.le_of_ble_eq_true rfl, fun _ v hv => by
      simp only [List.mem_cons, List.not_mem_nil, or_false] at hv
      rcases hv with rfl | rfl <;> trivial⟩
  · cases h
theorem g_Mo_why (as : List sv_V) (σ : sv_S) (x : Option sv_V × sv_S) (h : sv_gI n_Mo_why as σ = some x) : ∃ r i as', as = sv_R r i :: as' ∧ sv_kd r i = .inl 12 := by
  obtain ⟨_, _, h, -⟩ := sv_b_some h
  unfold n_Mo_why at h
  split at h
  · exact ⟨_, _, _, rfl, rfl⟩
  · cases h

set_option maxRecDepth 20000 in
theorem m_Mo_why (l : Launch) : sv_M l yX12_why cX12_why 2 (some .int) (sv_gI n_Mo_why) 2 := by
  refine sv_mI (E := ev_Mo_why) (by decide +kernel) (ln_gen fk_12 kk_12 (sv_ns _ (fun _ => rfl) _)) rfl ?_ a_Mo_why b_Mo_why
  intro p e R s m args below meth c cells slots Q base ad dC dI cA n0 S hkn hR hf pc n f hcs
  refine sv_lk_all (P := fun pc (x : Nat × sv_F) => sv_cok p l e R s m args below meth c cells slots Q base ad dC dI cA true 2 n0 pc x.1 x.2) ?_ pc (n, f) hcs
  exact List.forall_mem_cons.mpr ⟨(sv_cS S hkn (m_Mo_isIn l) ⟨Nat.le_trans (by decide) hR.1, Nat.le_trans (by decide) hR.2⟩ (by decide) hf (sv_w4 tw_1098 tw_1099 tw_65 tw_1100) (by decide +kernel) (sv_dc3 d_Mo_why (pc := 6) rfl rfl)).I,
      List.forall_mem_cons.mpr ⟨(sv_cV S hkn (m_Mo_counts l) ⟨Nat.le_trans (by decide) hR.1, Nat.le_trans (by decide) hR.2⟩ (by decide) hf rfl (g_Mo_counts) (sv_w5 tw_1137 tw_1139 tw_14 tw_65 tw_1140) (by decide +kernel) (sv_dc3 d_Mo_why (pc := 14) rfl rfl)).I,
      List.forall_mem_cons.mpr ⟨(sv_cS S hkn (m_Mo_orNone l) ⟨Nat.le_trans (by decide) hR.1, Nat.le_trans (by decide) hR.2⟩ (by decide) hf (sv_w4 tw_1260 tw_1261 tw_65 tw_1262) (by decide +kernel) (sv_dc3 d_Mo_why (pc := 17) rfl rfl)).I,
      fun _ h => absurd h List.not_mem_nil⟩⟩⟩
noncomputable def f_Mo_isSheet (a0 : Int32) (σ : sv_S) : Option (Int32 × sv_S) :=
  sv_b (f_Mo_isIn (a0.toInt64) (0 : Int64) (3 : Int64) σ) (fun v1 σ2 =>
    sv_g (v1 = 0 ∨ v1 = 1) (some (v1, σ2)))
noncomputable def n_Mo_isSheet : List sv_V → sv_S → Option (Int32 × sv_S)
  | [.inl a0], σ => f_Mo_isSheet a0 σ
  | _, _ => none
def cd_Mo_isSheet : sv_C := [(0, (.iload_n 0, (sv_N, (1, (0, []))))), (1, (.i2l, (sv_N, (2, (0, []))))), (2, (.lconst 0, (.inr (.inl (0 : Int64)), (3, (0, []))))), (3, (.ldc2_w 137, (sv_N, (6, (0, []))))), (6, (.invokestatic 71, (sv_N, (9, (0, []))))), (9, (.ireturn, (sv_N, (10, (0, [])))))]
noncomputable def ev_Mo_isSheet : sv_E := (fun i => sv_lk i fl_12, (fun i => sv_lk i kc_12, (fun _ => 0, (true, (fun pc => sv_lk pc [(6, (3, .inl n_Mo_isIn))], none)))))
noncomputable def kk_Mo_isSheet : sv_K (Int32 × sv_S) := fun pc => sv_lk pc []
set_option maxRecDepth 20000 in
theorem e_Mo_isSheet (a0 : Int32) (σ : sv_S) : sv_ex ev_Mo_isSheet sv_rZ kk_Mo_isSheet cd_Mo_isSheet 8 0 [some (.inl a0)] [] σ = f_Mo_isSheet a0 σ := by
  unfold f_Mo_isSheet
  delta ev_Mo_isSheet kk_Mo_isSheet n_Mo_isIn
  generalize f_Mo_isIn = c0
  rfl
theorem d_Mo_isSheet : cd_Mo_isSheet.all (sv_dk cX12_isSheet) = true := by decide +kernel
set_option maxRecDepth 20000 in
theorem b_Mo_isSheet (Γ : sv_Ga) (res : Int32 × sv_S) (X : sv_Ok Γ ev_Mo_isSheet cX12_isSheet sv_rZ res) (as : List sv_V) (σ : sv_S) (h : n_Mo_isSheet as σ = some res) : sv_T Γ 0 (sv_e0 1 as) [] σ := by
  unfold n_Mo_isSheet at h
  split at h
  · refine sv_run X d_Mo_isSheet (K := kk_Mo_isSheet) (sv_lk_all (P := fun pc (k : sv_Lo → List sv_V → sv_S → Option (Int32 × sv_S)) => ∀ lo st σ, k lo st σ = some res → sv_T Γ pc lo st σ) ?_) _ _ _ _ _ ((e_Mo_isSheet _ _).trans h)
    clear h
    exact fun _ h => absurd h List.not_mem_nil
  · cases h
theorem a_Mo_isSheet (as : List sv_V) (σ : sv_S) (x : Int32 × sv_S) (h : n_Mo_isSheet as σ = some x) : sv_args 1 ev_Mo_isSheet.2.2.2.1 as := by
  unfold n_Mo_isSheet at h
  split at h
  · exact ⟨Nat.le_of_ble_eq_true rfl, fun _ v hv => by
      simp only [List.mem_cons, List.not_mem_nil, or_false] at hv
      rcases hv with rfl <;> trivial⟩
  · cases h

set_option maxRecDepth 20000 in
theorem m_Mo_isSheet (l : Launch) : sv_M l yX12_isSheet cX12_isSheet 1 (some .boolean) (sv_gI n_Mo_isSheet) 1 := by
  refine sv_mZ (E := ev_Mo_isSheet) (by decide +kernel) (ln_gen fk_12 kk_12 (sv_ns _ (fun _ => rfl) _)) rfl ?_ a_Mo_isSheet b_Mo_isSheet
  intro p e R s m args below meth c cells slots Q base ad dC dI cA n0 S hkn hR hf pc n f hcs
  refine sv_lk_all (P := fun pc (x : Nat × sv_F) => sv_cok p l e R s m args below meth c cells slots Q base ad dC dI cA true 1 n0 pc x.1 x.2) ?_ pc (n, f) hcs
  exact List.forall_mem_cons.mpr ⟨(sv_cS S hkn (m_Mo_isIn l) ⟨Nat.le_trans (by decide) hR.1, Nat.le_trans (by decide) hR.2⟩ (by decide) hf (sv_w4 tw_1098 tw_1099 tw_65 tw_1100) (by decide +kernel) (sv_dc3 d_Mo_isSheet (pc := 6) rfl rfl)).I,
      fun _ h => absurd h List.not_mem_nil⟩
noncomputable def f_Mo_sheet_69 : Nat → Int32 → Int32 → sv_S → Option (Int32 × sv_S)
  | 0, _, _, _ => none
  | n + 1, x1, x4, σ =>
    sv_if ((24 : Int32) ≤ x4)
      (sv_g (sv_in x1 4) (some (σ 31 5 (x1.toNatClampNeg), σ)))
      (sv_g (sv_in (((24 : Int32) * x1) + x4) 96) (f_Mo_sheet_69 n x1 (x4 + (1 : Int32)) (sv_up σ 31 6 ((((24 : Int32) * x1) + x4).toNatClampNeg) (0 : Int32))))
noncomputable def f_Mo_sheet_44 (x1 : Int32) (x2 : Int32) (x3 : Int32) (σ : sv_S) : Option (Int32 × sv_S) :=
    sv_g (sv_in x1 4) (sv_if (0 ≤ x2)
      (sv_g (sv_in x1 4) (f_Mo_sheet_69 sv_fu x1 (0 : Int32) (sv_up (sv_up σ 31 4 (x1.toNatClampNeg) x2) 31 5 (x1.toNatClampNeg) x3)))
      (sv_g (sv_in x1 4) (f_Mo_sheet_69 sv_fu x1 (0 : Int32) (sv_up (sv_up σ 31 4 (x1.toNatClampNeg) x2) 31 5 (x1.toNatClampNeg) (0 : Int32)))))
noncomputable def f_Mo_sheet_32 (x1 : Int32) (x2 : Int32) (x3 : Int32) (σ : sv_S) : Option (Int32 × sv_S) :=
    sv_if (x2 < 0)
      (f_Mo_sheet_44 x1 x2 x3 σ)
      (sv_if (0 ≤ x3)
        (f_Mo_sheet_44 x1 x2 x3 σ)
        (some ((-1000000014 : Int32), σ)))
noncomputable def f_Mo_sheet (a1 : Int32) (a2 : Int32) (a3 : Int32) (σ : sv_S) : Option (Int32 × sv_S) :=
  sv_b (f_Mo_isSheet a1 σ) (fun v1 σ2 =>
    sv_if (v1 = 0)
      (some ((-1000000001 : Int32), σ2))
      (sv_b (f_Mo_isIn (a2.toInt64) (-1 : Int64) (1 : Int64) σ2) (fun v3 σ4 =>
        sv_if (v3 = 0)
          (some ((-1000000001 : Int32), σ4))
          (sv_if (a2 < 0)
            (f_Mo_sheet_32 a1 a2 a3 σ4)
            (sv_if (a3 ≤ (24 : Int32))
              (f_Mo_sheet_32 a1 a2 a3 σ4)
              (some ((-1000000001 : Int32), σ4)))))))
noncomputable def n_Mo_sheet : List sv_V → sv_S → Option (Int32 × sv_S)
  | [.inr (.inr (some (30, 0))), .inl a1, .inl a2, .inl a3], σ => f_Mo_sheet a1 a2 a3 σ
  | _, _ => none
def cd_Mo_sheet : sv_C := [(0, (.iload_n 1, (sv_N, (1, (0, []))))), (1, (.invokestatic 297, (sv_N, (4, (0, []))))), (4, (.ifCond .eq 25, (sv_N, (7, (29, []))))), (7, (.iload_n 2, (sv_N, (8, (0, []))))), (8, (.i2l, (sv_N, (9, (0, []))))), (9, (.ldc2_w 300, (sv_N, (12, (0, []))))), (12, (.lconst 1, (.inr (.inl (1 : Int64)), (13, (0, []))))), (13, (.invokestatic 71, (sv_N, (16, (0, []))))), (16, (.ifCond .eq 13, (sv_N, (19, (29, []))))), (19, (.iload_n 2, (sv_N, (20, (0, []))))), (20, (.ifCond .lt 12, (sv_N, (23, (32, []))))), (23, (.iload_n 3, (sv_N, (24, (0, []))))), (24, (.bipush 24, (.inl (24 : Int32), (26, (0, []))))), (26, (.if_icmp .le 6, (sv_N, (29, (32, []))))), (29, (.ldc 84, (sv_N, (31, (0, []))))), (31, (.ireturn, (sv_N, (32, (0, []))))), (32, (.iload_n 2, (sv_N, (33, (0, []))))), (33, (.ifCond .lt 11, (sv_N, (36, (44, []))))), (36, (.iload_n 3, (sv_N, (37, (0, []))))), (37, (.ifCond .ge 7, (sv_N, (40, (44, []))))), (40, (.ldc_w 302, (sv_N, (43, (0, []))))), (43, (.ireturn, (sv_N, (44, (0, []))))), (44, (.aload_n 0, (sv_N, (45, (0, []))))), (45, (.getfield 19, (sv_N, (48, (0, []))))), (48, (.iload_n 1, (sv_N, (49, (0, []))))), (49, (.iload_n 2, (sv_N, (50, (0, []))))), (50, (.iastore, (sv_N, (51, (0, []))))), (51, (.aload_n 0, (sv_N, (52, (0, []))))), (52, (.getfield 22, (sv_N, (55, (0, []))))), (55, (.iload_n 1, (sv_N, (56, (0, []))))), (56, (.iload_n 2, (sv_N, (57, (0, []))))), (57, (.ifCond .ge 7, (sv_N, (60, (64, []))))), (60, (.iconst 0, (.inl (0 : Int32), (61, (0, []))))), (61, (.goto 4, (sv_N, (64, (65, []))))), (64, (.iload_n 3, (sv_N, (65, (0, []))))), (65, (.iastore, (sv_N, (66, (0, []))))), (66, (.iconst 0, (.inl (0 : Int32), (67, (0, []))))), (67, (.istore 4, (sv_N, (69, (0, []))))), (69, (.iload 4, (sv_N, (71, (0, []))))), (71, (.bipush 24, (.inl (24 : Int32), (73, (0, []))))), (73, (.if_icmp .ge 22, (sv_N, (76, (95, []))))), (76, (.aload_n 0, (sv_N, (77, (0, []))))), (77, (.getfield 25, (sv_N, (80, (0, []))))), (80, (.bipush 24, (.inl (24 : Int32), (82, (0, []))))), (82, (.iload_n 1, (sv_N, (83, (0, []))))), (83, (.imul, (sv_N, (84, (0, []))))), (84, (.iload 4, (sv_N, (86, (0, []))))), (86, (.iadd, (sv_N, (87, (0, []))))), (87, (.iconst 0, (.inl (0 : Int32), (88, (0, []))))), (88, (.iastore, (sv_N, (89, (0, []))))), (89, (.iinc 4 1, (.inl (1 : Int32), (92, (0, []))))), (92, (.goto (-23), (sv_N, (95, (69, []))))), (95, (.aload_n 0, (sv_N, (96, (0, []))))), (96, (.getfield 22, (sv_N, (99, (0, []))))), (99, (.iload_n 1, (sv_N, (100, (0, []))))), (100, (.iaload, (sv_N, (101, (0, []))))), (101, (.ireturn, (sv_N, (102, (0, [])))))]
noncomputable def ev_Mo_sheet : sv_E := (fun i => sv_lk i fl_12, (fun i => sv_lk i kc_12, (fun _ => 0, (true, (fun pc => sv_lk pc [(1, (1, .inl n_Mo_isSheet)), (13, (3, .inl n_Mo_isIn))], none)))))
noncomputable def kk_Mo_sheet_69 (n : Nat) : sv_K (Int32 × sv_S) := fun pc => sv_lk pc [(69, fun lo st σ => match lo, st with
    | [some (.inr (.inr (some (30, 0)))), some (.inl x1), _, _, some (.inl x4)], [] => f_Mo_sheet_69 n x1 x4 σ
    | _, _ => none)]
set_option maxRecDepth 20000 in
theorem e_Mo_sheet_69 (n : Nat) (x1 : Int32) (x4 : Int32) (z2 z3 : Option sv_V) (σ : sv_S) : sv_ex ev_Mo_sheet sv_rI (kk_Mo_sheet_69 n) cd_Mo_sheet 59 69 [some (.inr (.inr (some (30, 0)))), some (.inl x1), z2, z3, some (.inl x4)] [] σ = f_Mo_sheet_69 (n + 1) x1 x4 σ := by
  rw [f_Mo_sheet_69.eq_2]
  delta ev_Mo_sheet kk_Mo_sheet_69 n_Mo_isSheet n_Mo_isIn
  generalize f_Mo_isSheet = c0
  generalize f_Mo_isIn = c1
  generalize f_Mo_sheet_69 = c2
  rfl
noncomputable def kk_Mo_sheet_44 : sv_K (Int32 × sv_S) := fun pc => sv_lk pc [(69, fun lo st σ => match lo, st with
    | [some (.inr (.inr (some (30, 0)))), some (.inl x1), _, _, some (.inl x4)], [] => f_Mo_sheet_69 sv_fu x1 x4 σ
    | _, _ => none)]
set_option maxRecDepth 20000 in
theorem e_Mo_sheet_44 (x1 : Int32) (x2 : Int32) (x3 : Int32) (z4 : Option sv_V) (σ : sv_S) : sv_ex ev_Mo_sheet sv_rI (kk_Mo_sheet_44) cd_Mo_sheet 59 44 [some (.inr (.inr (some (30, 0)))), some (.inl x1), some (.inl x2), some (.inl x3), z4] [] σ = f_Mo_sheet_44 x1 x2 x3 σ := by
  unfold f_Mo_sheet_44
  delta ev_Mo_sheet kk_Mo_sheet_44 n_Mo_isSheet n_Mo_isIn
  generalize f_Mo_isSheet = c0
  generalize f_Mo_isIn = c1
  generalize f_Mo_sheet_69 = c2
  rfl
noncomputable def kk_Mo_sheet_32 : sv_K (Int32 × sv_S) := fun pc => sv_lk pc [(44, fun lo st σ => match lo, st with
    | [some (.inr (.inr (some (30, 0)))), some (.inl x1), some (.inl x2), some (.inl x3), _], [] => f_Mo_sheet_44 x1 x2 x3 σ
    | _, _ => none)]
set_option maxRecDepth 20000 in
theorem e_Mo_sheet_32 (x1 : Int32) (x2 : Int32) (x3 : Int32) (z4 : Option sv_V) (σ : sv_S) : sv_ex ev_Mo_sheet sv_rI (kk_Mo_sheet_32) cd_Mo_sheet 59 32 [some (.inr (.inr (some (30, 0)))), some (.inl x1), some (.inl x2), some (.inl x3), z4] [] σ = f_Mo_sheet_32 x1 x2 x3 σ := by
  unfold f_Mo_sheet_32
  delta ev_Mo_sheet kk_Mo_sheet_32 n_Mo_isSheet n_Mo_isIn
  generalize f_Mo_isSheet = c0
  generalize f_Mo_isIn = c1
  generalize f_Mo_sheet_44 = c2
  rfl
noncomputable def kk_Mo_sheet : sv_K (Int32 × sv_S) := fun pc => sv_lk pc [(32, fun lo st σ => match lo, st with
    | [some (.inr (.inr (some (30, 0)))), some (.inl x1), some (.inl x2), some (.inl x3), _], [] => f_Mo_sheet_32 x1 x2 x3 σ
    | _, _ => none)]
set_option maxRecDepth 20000 in
theorem e_Mo_sheet (a1 : Int32) (a2 : Int32) (a3 : Int32) (σ : sv_S) : sv_ex ev_Mo_sheet sv_rI kk_Mo_sheet cd_Mo_sheet 59 0 [some (.inr (.inr (some (30, 0)))), some (.inl a1), some (.inl a2), some (.inl a3), none] [] σ = f_Mo_sheet a1 a2 a3 σ := by
  unfold f_Mo_sheet
  delta ev_Mo_sheet kk_Mo_sheet n_Mo_isSheet n_Mo_isIn
  generalize f_Mo_isSheet = c0
  generalize f_Mo_isIn = c1
  generalize f_Mo_sheet_32 = c2
  rfl
theorem d_Mo_sheet : cd_Mo_sheet.all (sv_dk cX12_sheet) = true := by decide +kernel
set_option maxRecDepth 20000 in
theorem w_Mo_sheet_69 {Γ : sv_Ga} {res : Int32 × sv_S} (X : sv_Ok Γ ev_Mo_sheet cX12_sheet sv_rI res) : ∀ (n : Nat) (x1 : Int32) (x4 : Int32) (z2 z3 : Option sv_V) (σ : sv_S), f_Mo_sheet_69 n x1 x4 σ = some res → sv_T Γ 69 [some (.inr (.inr (some (30, 0)))), some (.inl x1), z2, z3, some (.inl x4)] [] σ := by
  intro n
  induction n with
  | zero =>
    intro x1 x4 z2 z3 σ h
    rw [f_Mo_sheet_69.eq_1] at h
    cases h
  | succ n ih =>
    intro x1 x4 z2 z3 σ h
    refine sv_run X d_Mo_sheet (K := kk_Mo_sheet_69 n) (sv_lk_all (P := fun pc (k : sv_Lo → List sv_V → sv_S → Option (Int32 × sv_S)) => ∀ lo st σ, k lo st σ = some res → sv_T Γ pc lo st σ) ?_) _ _ _ _ _ ((e_Mo_sheet_69 n x1 x4 z2 z3 σ).trans h)
    clear h
    refine List.forall_mem_cons.mpr ⟨fun lo st σ h => ?_, fun _ h => absurd h List.not_mem_nil⟩
    · dsimp only at h
      split at h
      · exact ih _ _ _ _ _ h
      · cases h

set_option maxRecDepth 20000 in
theorem w_Mo_sheet_44 {Γ : sv_Ga} {res : Int32 × sv_S} (X : sv_Ok Γ ev_Mo_sheet cX12_sheet sv_rI res) : ∀ (x1 : Int32) (x2 : Int32) (x3 : Int32) (z4 : Option sv_V) (σ : sv_S), f_Mo_sheet_44 x1 x2 x3 σ = some res → sv_T Γ 44 [some (.inr (.inr (some (30, 0)))), some (.inl x1), some (.inl x2), some (.inl x3), z4] [] σ := by
  intro x1 x2 x3 z4 σ h
  refine sv_run X d_Mo_sheet (K := kk_Mo_sheet_44) (sv_lk_all (P := fun pc (k : sv_Lo → List sv_V → sv_S → Option (Int32 × sv_S)) => ∀ lo st σ, k lo st σ = some res → sv_T Γ pc lo st σ) ?_) _ _ _ _ _ ((e_Mo_sheet_44 x1 x2 x3 z4 σ).trans h)
  clear h
  refine List.forall_mem_cons.mpr ⟨fun lo st σ h => ?_, fun _ h => absurd h List.not_mem_nil⟩
  · dsimp only at h
    split at h
    · exact w_Mo_sheet_69 X _ _ _ _ _ _ h
    · cases h

set_option maxRecDepth 20000 in
theorem w_Mo_sheet_32 {Γ : sv_Ga} {res : Int32 × sv_S} (X : sv_Ok Γ ev_Mo_sheet cX12_sheet sv_rI res) : ∀ (x1 : Int32) (x2 : Int32) (x3 : Int32) (z4 : Option sv_V) (σ : sv_S), f_Mo_sheet_32 x1 x2 x3 σ = some res → sv_T Γ 32 [some (.inr (.inr (some (30, 0)))), some (.inl x1), some (.inl x2), some (.inl x3), z4] [] σ := by
  intro x1 x2 x3 z4 σ h
  refine sv_run X d_Mo_sheet (K := kk_Mo_sheet_32) (sv_lk_all (P := fun pc (k : sv_Lo → List sv_V → sv_S → Option (Int32 × sv_S)) => ∀ lo st σ, k lo st σ = some res → sv_T Γ pc lo st σ) ?_) _ _ _ _ _ ((e_Mo_sheet_32 x1 x2 x3 z4 σ).trans h)
  clear h
  refine List.forall_mem_cons.mpr ⟨fun lo st σ h => ?_, fun _ h => absurd h List.not_mem_nil⟩
  · dsimp only at h
    split at h
    · exact w_Mo_sheet_44 X _ _ _ _ _ h
    · cases h

set_option maxRecDepth 20000 in
theorem b_Mo_sheet (Γ : sv_Ga) (res : Int32 × sv_S) (X : sv_Ok Γ ev_Mo_sheet cX12_sheet sv_rI res) (as : List sv_V) (σ : sv_S) (h : n_Mo_sheet as σ = some res) : sv_T Γ 0 (sv_e0 5 as) [] σ := by
  unfold n_Mo_sheet at h
  split at h
  · refine sv_run X d_Mo_sheet (K := kk_Mo_sheet) (sv_lk_all (P := fun pc (k : sv_Lo → List sv_V → sv_S → Option (Int32 × sv_S)) => ∀ lo st σ, k lo st σ = some res → sv_T Γ pc lo st σ) ?_) _ _ _ _ _ ((e_Mo_sheet _ _ _ _).trans h)
    clear h
    refine List.forall_mem_cons.mpr ⟨fun lo st σ h => ?_, fun _ h => absurd h List.not_mem_nil⟩
    · dsimp only at h
      split at h
      · exact w_Mo_sheet_32 X _ _ _ _ _ h
      · cases h
  · cases h
theorem a_Mo_sheet (as : List sv_V) (σ : sv_S) (x : Int32 × sv_S) (h : n_Mo_sheet as σ = some x) : sv_args 5 ev_Mo_sheet.2.2.2.1 as := by
  unfold n_Mo_sheet at h
  split at h
  · exact ⟨Nat.le_of_ble_eq_true rfl, fun _ v hv => by
      simp only [List.mem_cons, List.not_mem_nil, or_false] at hv
      rcases hv with rfl | rfl | rfl | rfl <;> trivial⟩
  · cases h
theorem g_Mo_sheet (as : List sv_V) (σ : sv_S) (x : Option sv_V × sv_S) (h : sv_gI n_Mo_sheet as σ = some x) : ∃ r i as', as = sv_R r i :: as' ∧ sv_kd r i = .inl 12 := by
  obtain ⟨_, _, h, -⟩ := sv_b_some h
  unfold n_Mo_sheet at h
  split at h
  · exact ⟨_, _, _, rfl, rfl⟩
  · cases h
theorem tw_1409 : Cond.methodLink RX12 297 yX12_isSheet ∈ gw_tbl := gw_at 1409 (by decide +kernel) rfl
theorem tw_1410 : Cond.static yX12_isSheet ∈ gw_tbl := gw_at 1410 (by decide +kernel) rfl
theorem tw_1411 : Cond.code yX12_isSheet cX12_isSheet 1 (some .boolean) ∈ gw_tbl := gw_at 1411 (by decide +kernel) rfl
set_option maxRecDepth 20000 in
theorem m_Mo_sheet (l : Launch) : sv_M l yX12_sheet cX12_sheet 5 (some .int) (sv_gI n_Mo_sheet) 2 := by
  refine sv_mI (E := ev_Mo_sheet) (by decide +kernel) (ln_gen fk_12 kk_12 (sv_ns _ (fun _ => rfl) _)) rfl ?_ a_Mo_sheet b_Mo_sheet
  intro p e R s m args below meth c cells slots Q base ad dC dI cA n0 S hkn hR hf pc n f hcs
  refine sv_lk_all (P := fun pc (x : Nat × sv_F) => sv_cok p l e R s m args below meth c cells slots Q base ad dC dI cA true 5 n0 pc x.1 x.2) ?_ pc (n, f) hcs
  exact List.forall_mem_cons.mpr ⟨(sv_cS S hkn (m_Mo_isSheet l) ⟨Nat.le_trans (by decide) hR.1, Nat.le_trans (by decide) hR.2⟩ (by decide) hf (sv_w4 tw_1409 tw_1410 tw_65 tw_1411) (by decide +kernel) (sv_dc3 d_Mo_sheet (pc := 1) rfl rfl)).I,
      List.forall_mem_cons.mpr ⟨(sv_cS S hkn (m_Mo_isIn l) ⟨Nat.le_trans (by decide) hR.1, Nat.le_trans (by decide) hR.2⟩ (by decide) hf (sv_w4 tw_1098 tw_1099 tw_65 tw_1100) (by decide +kernel) (sv_dc3 d_Mo_sheet (pc := 13) rfl rfl)).I,
      fun _ h => absurd h List.not_mem_nil⟩⟩
noncomputable def f_Mo_mark_96 (x1 : Int32) (x2 : Int32) (x3 : Int32) (σ : sv_S) : Option (Int32 × sv_S) :=
    sv_g (sv_in x1 4) (sv_if ((σ 31 4 (x1.toNatClampNeg)) = 0)
      (sv_g (sv_in (((24 : Int32) * x1) + x2) 96) (some ((1 : Int32), sv_up σ 31 6 ((((24 : Int32) * x1) + x2).toNatClampNeg) ((x3 <<< ((16 : Int32) &&& 31)) >>> ((16 : Int32) &&& 31)))))
      (sv_g (sv_in (((24 : Int32) * x1) + x2) 96) (some ((1 : Int32), sv_up σ 31 6 ((((24 : Int32) * x1) + x2).toNatClampNeg) x3))))
noncomputable def f_Mo_mark_63 (x1 : Int32) (x2 : Int32) (x3 : Int32) (σ : sv_S) : Option (Int32 × sv_S) :=
    sv_g (sv_in x1 4) (sv_if ((σ 31 4 (x1.toNatClampNeg)) = (1 : Int32))
      (sv_if (x3 = (-1000000005 : Int32))
        (f_Mo_mark_96 x1 x2 x3 σ)
        (sv_b (f_Mo_isIn (x3.toInt64) (-99999 : Int64) (99999 : Int64) σ) (fun v1 σ2 =>
          sv_if (v1 = 0)
            (some ((-1000000001 : Int32), σ2))
            (f_Mo_mark_96 x1 x2 x3 σ2))))
      (f_Mo_mark_96 x1 x2 x3 σ))
noncomputable def f_Mo_mark (a1 : Int32) (a2 : Int32) (a3 : Int32) (σ : sv_S) : Option (Int32 × sv_S) :=
  sv_b (f_Mo_isSheet a1 σ) (fun v1 σ2 =>
    sv_if (v1 = 0)
      (some ((-1000000001 : Int32), σ2))
      (sv_g (sv_in a1 4) (sv_if (0 ≤ (σ2 31 4 (a1.toNatClampNeg)))
        (sv_g (sv_in a1 4) (sv_b (f_Mo_isIn (a2.toInt64) (0 : Int64) (((σ2 31 5 (a1.toNatClampNeg)) - (1 : Int32)).toInt64) σ2) (fun v3 σ4 =>
          sv_if (v3 = 0)
            (some ((-1000000013 : Int32), σ4))
            (sv_g (sv_in a1 4) (sv_if ((σ4 31 4 (a1.toNatClampNeg)) = 0)
              (sv_if (a3 = (-1000000005 : Int32))
                (some ((-1000000012 : Int32), σ4))
                (f_Mo_mark_63 a1 a2 a3 σ4))
              (f_Mo_mark_63 a1 a2 a3 σ4))))))
        (some ((-1000000011 : Int32), σ2)))))
noncomputable def n_Mo_mark : List sv_V → sv_S → Option (Int32 × sv_S)
  | [.inr (.inr (some (30, 0))), .inl a1, .inl a2, .inl a3], σ => f_Mo_mark a1 a2 a3 σ
  | _, _ => none
def cd_Mo_mark : sv_C := [(0, (.iload_n 1, (sv_N, (1, (0, []))))), (1, (.invokestatic 297, (sv_N, (4, (0, []))))), (4, (.ifCond .ne 6, (sv_N, (7, (10, []))))), (7, (.ldc 84, (sv_N, (9, (0, []))))), (9, (.ireturn, (sv_N, (10, (0, []))))), (10, (.aload_n 0, (sv_N, (11, (0, []))))), (11, (.getfield 19, (sv_N, (14, (0, []))))), (14, (.iload_n 1, (sv_N, (15, (0, []))))), (15, (.iaload, (sv_N, (16, (0, []))))), (16, (.ifCond .ge 7, (sv_N, (19, (23, []))))), (19, (.ldc_w 303, (sv_N, (22, (0, []))))), (22, (.ireturn, (sv_N, (23, (0, []))))), (23, (.iload_n 2, (sv_N, (24, (0, []))))), (24, (.i2l, (sv_N, (25, (0, []))))), (25, (.lconst 0, (.inr (.inl (0 : Int64)), (26, (0, []))))), (26, (.aload_n 0, (sv_N, (27, (0, []))))), (27, (.getfield 22, (sv_N, (30, (0, []))))), (30, (.iload_n 1, (sv_N, (31, (0, []))))), (31, (.iaload, (sv_N, (32, (0, []))))), (32, (.iconst 1, (.inl (1 : Int32), (33, (0, []))))), (33, (.isub, (sv_N, (34, (0, []))))), (34, (.i2l, (sv_N, (35, (0, []))))), (35, (.invokestatic 71, (sv_N, (38, (0, []))))), (38, (.ifCond .ne 7, (sv_N, (41, (45, []))))), (41, (.ldc_w 304, (sv_N, (44, (0, []))))), (44, (.ireturn, (sv_N, (45, (0, []))))), (45, (.aload_n 0, (sv_N, (46, (0, []))))), (46, (.getfield 19, (sv_N, (49, (0, []))))), (49, (.iload_n 1, (sv_N, (50, (0, []))))), (50, (.iaload, (sv_N, (51, (0, []))))), (51, (.ifCond .ne 12, (sv_N, (54, (63, []))))), (54, (.iload_n 3, (sv_N, (55, (0, []))))), (55, (.ldc 70, (sv_N, (57, (0, []))))), (57, (.if_icmp .ne 6, (sv_N, (60, (63, []))))), (60, (.ldc 133, (sv_N, (62, (0, []))))), (62, (.ireturn, (sv_N, (63, (0, []))))), (63, (.aload_n 0, (sv_N, (64, (0, []))))), (64, (.getfield 19, (sv_N, (67, (0, []))))), (67, (.iload_n 1, (sv_N, (68, (0, []))))), (68, (.iaload, (sv_N, (69, (0, []))))), (69, (.iconst 1, (.inl (1 : Int32), (70, (0, []))))), (70, (.if_icmp .ne 26, (sv_N, (73, (96, []))))), (73, (.iload_n 3, (sv_N, (74, (0, []))))), (74, (.ldc 70, (sv_N, (76, (0, []))))), (76, (.if_icmp .eq 20, (sv_N, (79, (96, []))))), (79, (.iload_n 3, (sv_N, (80, (0, []))))), (80, (.i2l, (sv_N, (81, (0, []))))), (81, (.ldc2_w 305, (sv_N, (84, (0, []))))), (84, (.ldc2_w 307, (sv_N, (87, (0, []))))), (87, (.invokestatic 71, (sv_N, (90, (0, []))))), (90, (.ifCond .ne 6, (sv_N, (93, (96, []))))), (93, (.ldc 84, (sv_N, (95, (0, []))))), (95, (.ireturn, (sv_N, (96, (0, []))))), (96, (.aload_n 0, (sv_N, (97, (0, []))))), (97, (.getfield 25, (sv_N, (100, (0, []))))), (100, (.bipush 24, (.inl (24 : Int32), (102, (0, []))))), (102, (.iload_n 1, (sv_N, (103, (0, []))))), (103, (.imul, (sv_N, (104, (0, []))))), (104, (.iload_n 2, (sv_N, (105, (0, []))))), (105, (.iadd, (sv_N, (106, (0, []))))), (106, (.aload_n 0, (sv_N, (107, (0, []))))), (107, (.getfield 19, (sv_N, (110, (0, []))))), (110, (.iload_n 1, (sv_N, (111, (0, []))))), (111, (.iaload, (sv_N, (112, (0, []))))), (112, (.ifCond .ne 13, (sv_N, (115, (125, []))))), (115, (.iload_n 3, (sv_N, (116, (0, []))))), (116, (.bipush 16, (.inl (16 : Int32), (118, (0, []))))), (118, (.ishl, (sv_N, (119, (0, []))))), (119, (.bipush 16, (.inl (16 : Int32), (121, (0, []))))), (121, (.ishr, (sv_N, (122, (0, []))))), (122, (.goto 4, (sv_N, (125, (126, []))))), (125, (.iload_n 3, (sv_N, (126, (0, []))))), (126, (.iastore, (sv_N, (127, (0, []))))), (127, (.iconst 1, (.inl (1 : Int32), (128, (0, []))))), (128, (.ireturn, (sv_N, (129, (0, [])))))]
noncomputable def ev_Mo_mark : sv_E := (fun i => sv_lk i fl_12, (fun i => sv_lk i kc_12, (fun _ => 0, (true, (fun pc => sv_lk pc [(1, (1, .inl n_Mo_isSheet)), (35, (3, .inl n_Mo_isIn)), (87, (3, .inl n_Mo_isIn))], none)))))
noncomputable def kk_Mo_mark_96 : sv_K (Int32 × sv_S) := fun pc => sv_lk pc []
set_option maxRecDepth 20000 in
theorem e_Mo_mark_96 (x1 : Int32) (x2 : Int32) (x3 : Int32) (σ : sv_S) : sv_ex ev_Mo_mark sv_rI (kk_Mo_mark_96) cd_Mo_mark 77 96 [some (.inr (.inr (some (30, 0)))), some (.inl x1), some (.inl x2), some (.inl x3)] [] σ = f_Mo_mark_96 x1 x2 x3 σ := by
  unfold f_Mo_mark_96
  delta ev_Mo_mark kk_Mo_mark_96 n_Mo_isSheet n_Mo_isIn
  generalize f_Mo_isSheet = c0
  generalize f_Mo_isIn = c1
  rfl
noncomputable def kk_Mo_mark_63 : sv_K (Int32 × sv_S) := fun pc => sv_lk pc [(96, fun lo st σ => match lo, st with
    | [some (.inr (.inr (some (30, 0)))), some (.inl x1), some (.inl x2), some (.inl x3)], [] => f_Mo_mark_96 x1 x2 x3 σ
    | _, _ => none)]
set_option maxRecDepth 20000 in
theorem e_Mo_mark_63 (x1 : Int32) (x2 : Int32) (x3 : Int32) (σ : sv_S) : sv_ex ev_Mo_mark sv_rI (kk_Mo_mark_63) cd_Mo_mark 77 63 [some (.inr (.inr (some (30, 0)))), some (.inl x1), some (.inl x2), some (.inl x3)] [] σ = f_Mo_mark_63 x1 x2 x3 σ := by
  unfold f_Mo_mark_63
  delta ev_Mo_mark kk_Mo_mark_63 n_Mo_isSheet n_Mo_isIn
  generalize f_Mo_isSheet = c0
  generalize f_Mo_isIn = c1
  generalize f_Mo_mark_96 = c2
  rfl
noncomputable def kk_Mo_mark : sv_K (Int32 × sv_S) := fun pc => sv_lk pc [(63, fun lo st σ => match lo, st with
    | [some (.inr (.inr (some (30, 0)))), some (.inl x1), some (.inl x2), some (.inl x3)], [] => f_Mo_mark_63 x1 x2 x3 σ
    | _, _ => none)]
set_option maxRecDepth 20000 in
theorem e_Mo_mark (a1 : Int32) (a2 : Int32) (a3 : Int32) (σ : sv_S) : sv_ex ev_Mo_mark sv_rI kk_Mo_mark cd_Mo_mark 77 0 [some (.inr (.inr (some (30, 0)))), some (.inl a1), some (.inl a2), some (.inl a3)] [] σ = f_Mo_mark a1 a2 a3 σ := by
  unfold f_Mo_mark
  delta ev_Mo_mark kk_Mo_mark n_Mo_isSheet n_Mo_isIn
  generalize f_Mo_isSheet = c0
  generalize f_Mo_isIn = c1
  generalize f_Mo_mark_63 = c2
  rfl
theorem d_Mo_mark : cd_Mo_mark.all (sv_dk cX12_mark) = true := by decide +kernel
set_option maxRecDepth 20000 in
theorem w_Mo_mark_96 {Γ : sv_Ga} {res : Int32 × sv_S} (X : sv_Ok Γ ev_Mo_mark cX12_mark sv_rI res) : ∀ (x1 : Int32) (x2 : Int32) (x3 : Int32) (σ : sv_S), f_Mo_mark_96 x1 x2 x3 σ = some res → sv_T Γ 96 [some (.inr (.inr (some (30, 0)))), some (.inl x1), some (.inl x2), some (.inl x3)] [] σ := by
  intro x1 x2 x3 σ h
  refine sv_run X d_Mo_mark (K := kk_Mo_mark_96) (sv_lk_all (P := fun pc (k : sv_Lo → List sv_V → sv_S → Option (Int32 × sv_S)) => ∀ lo st σ, k lo st σ = some res → sv_T Γ pc lo st σ) ?_) _ _ _ _ _ ((e_Mo_mark_96 x1 x2 x3 σ).trans h)
  clear h
  exact fun _ h => absurd h List.not_mem_nil

set_option maxRecDepth 20000 in
theorem w_Mo_mark_63 {Γ : sv_Ga} {res : Int32 × sv_S} (X : sv_Ok Γ ev_Mo_mark cX12_mark sv_rI res) : ∀ (x1 : Int32) (x2 : Int32) (x3 : Int32) (σ : sv_S), f_Mo_mark_63 x1 x2 x3 σ = some res → sv_T Γ 63 [some (.inr (.inr (some (30, 0)))), some (.inl x1), some (.inl x2), some (.inl x3)] [] σ := by
  intro x1 x2 x3 σ h
  refine sv_run X d_Mo_mark (K := kk_Mo_mark_63) (sv_lk_all (P := fun pc (k : sv_Lo → List sv_V → sv_S → Option (Int32 × sv_S)) => ∀ lo st σ, k lo st σ = some res → sv_T Γ pc lo st σ) ?_) _ _ _ _ _ ((e_Mo_mark_63 x1 x2 x3 σ).trans h)
  clear h
  refine List.forall_mem_cons.mpr ⟨fun lo st σ h => ?_, fun _ h => absurd h List.not_mem_nil⟩
  · dsimp only at h
    split at h
    · exact w_Mo_mark_96 X _ _ _ _ h
    · cases h

set_option maxRecDepth 20000 in
theorem b_Mo_mark (Γ : sv_Ga) (res : Int32 × sv_S) (X : sv_Ok Γ ev_Mo_mark cX12_mark sv_rI res) (as : List sv_V) (σ : sv_S) (h : n_Mo_mark as σ = some res) : sv_T Γ 0 (sv_e0 4 as) [] σ := by
  unfold n_Mo_mark at h
  split at h
  · refine sv_run X d_Mo_mark (K := kk_Mo_mark) (sv_lk_all (P := fun pc (k : sv_Lo → List sv_V → sv_S → Option (Int32 × sv_S)) => ∀ lo st σ, k lo st σ = some res → sv_T Γ pc lo st σ) ?_) _ _ _ _ _ ((e_Mo_mark _ _ _ _).trans h)
    clear h
    refine List.forall_mem_cons.mpr ⟨fun lo st σ h => ?_, fun _ h => absurd h List.not_mem_nil⟩
    · dsimp only at h
      split at h
      · exact w_Mo_mark_63 X _ _ _ _ h
      · cases h
  · cases h
theorem a_Mo_mark (as : List sv_V) (σ : sv_S) (x : Int32 × sv_S) (h : n_Mo_mark as σ = some x) : sv_args 4 ev_Mo_mark.2.2.2.1 as := by
  unfold n_Mo_mark at h
  split at h
  · exact ⟨Nat.le_of_ble_eq_true rfl, fun _ v hv => by
      simp only [List.mem_cons, List.not_mem_nil, or_false] at hv
      rcases hv with rfl | rfl | rfl | rfl <;> trivial⟩
  · cases h
theorem g_Mo_mark (as : List sv_V) (σ : sv_S) (x : Option sv_V × sv_S) (h : sv_gI n_Mo_mark as σ = some x) : ∃ r i as', as = sv_R r i :: as' ∧ sv_kd r i = .inl 12 := by
  obtain ⟨_, _, h, -⟩ := sv_b_some h
  unfold n_Mo_mark at h
  split at h
  · exact ⟨_, _, _, rfl, rfl⟩
  · cases h

set_option maxRecDepth 20000 in
theorem m_Mo_mark (l : Launch) : sv_M l yX12_mark cX12_mark 4 (some .int) (sv_gI n_Mo_mark) 2 := by
  refine sv_mI (E := ev_Mo_mark) (by decide +kernel) (ln_gen fk_12 kk_12 (sv_ns _ (fun _ => rfl) _)) rfl ?_ a_Mo_mark b_Mo_mark
  intro p e R s m args below meth c cells slots Q base ad dC dI cA n0 S hkn hR hf pc n f hcs
  refine sv_lk_all (P := fun pc (x : Nat × sv_F) => sv_cok p l e R s m args below meth c cells slots Q base ad dC dI cA true 4 n0 pc x.1 x.2) ?_ pc (n, f) hcs
  exact List.forall_mem_cons.mpr ⟨(sv_cS S hkn (m_Mo_isSheet l) ⟨Nat.le_trans (by decide) hR.1, Nat.le_trans (by decide) hR.2⟩ (by decide) hf (sv_w4 tw_1409 tw_1410 tw_65 tw_1411) (by decide +kernel) (sv_dc3 d_Mo_mark (pc := 1) rfl rfl)).I,
      List.forall_mem_cons.mpr ⟨(sv_cS S hkn (m_Mo_isIn l) ⟨Nat.le_trans (by decide) hR.1, Nat.le_trans (by decide) hR.2⟩ (by decide) hf (sv_w4 tw_1098 tw_1099 tw_65 tw_1100) (by decide +kernel) (sv_dc3 d_Mo_mark (pc := 35) rfl rfl)).I,
      List.forall_mem_cons.mpr ⟨(sv_cS S hkn (m_Mo_isIn l) ⟨Nat.le_trans (by decide) hR.1, Nat.le_trans (by decide) hR.2⟩ (by decide) hf (sv_w4 tw_1098 tw_1099 tw_65 tw_1100) (by decide +kernel) (sv_dc3 d_Mo_mark (pc := 87) rfl rfl)).I,
      fun _ h => absurd h List.not_mem_nil⟩⟩⟩
noncomputable def f_Mo_pour_84 (k27 : Int32 → Int32 → Int32 → sv_S → Option (Int32 × sv_S)) (x1 : Int32) (x2 : Int32) (x3 : Int32) (y0 : Int32) (σ : sv_S) : Option (Int32 × sv_S) :=
    sv_b (f_Mo_becomes (((6 : Int32) + ((8 : Int32) * x3)) + (1 : Int32)) y0 σ) (fun v1 σ2 =>
      sv_if (y0 = v1)
        (k27 x1 (x2 + (0 : Int32)) (x3 + (1 : Int32)) σ2)
        (k27 x1 (x2 + (1 : Int32)) (x3 + (1 : Int32)) σ2))
noncomputable def f_Mo_pour_27 : Nat → Int32 → Int32 → Int32 → sv_S → Option (Int32 × sv_S)
  | 0, _, _, _, _ => none
  | n + 1, x1, x2, x3, σ =>
    sv_g (sv_in x1 4) (sv_if ((σ 31 5 (x1.toNatClampNeg)) ≤ x3)
      (some (x2, σ))
      (sv_g (sv_in (0 : Int32) 3086) (sv_if ((σ 31 0 ((0 : Int32).toNatClampNeg)) ≤ x3)
        (some (x2, σ))
        (sv_g (sv_in (((24 : Int32) * x1) + x3) 96) (sv_if ((σ 31 6 ((((24 : Int32) * x1) + x3).toNatClampNeg)) = (-1000000005 : Int32))
          (sv_b (f_Mo_of x3 (1 : Int32) σ) (fun v1 σ2 =>
            f_Mo_pour_84 (f_Mo_pour_27 n) x1 x2 x3 v1 σ2))
          (sv_b (f_Mo_held (σ 31 6 ((((24 : Int32) * x1) + x3).toNatClampNeg)) (1 : Int32) (9 : Int32) σ) (fun v3 σ4 =>
            f_Mo_pour_84 (f_Mo_pour_27 n) x1 x2 x3 v3 σ4)))))))
noncomputable def f_Mo_pour (a1 : Int32) (σ : sv_S) : Option (Int32 × sv_S) :=
  sv_b (f_Mo_isSheet a1 σ) (fun v1 σ2 =>
    sv_if (v1 = 0)
      (some ((-1000000001 : Int32), σ2))
      (sv_g (sv_in a1 4) (sv_if (0 ≤ (σ2 31 4 (a1.toNatClampNeg)))
        (f_Mo_pour_27 sv_fu a1 (0 : Int32) (0 : Int32) σ2)
        (some ((-1000000011 : Int32), σ2)))))
noncomputable def n_Mo_pour : List sv_V → sv_S → Option (Int32 × sv_S)
  | [.inr (.inr (some (30, 0))), .inl a1], σ => f_Mo_pour a1 σ
  | _, _ => none
def cd_Mo_pour : sv_C := [(0, (.iload_n 1, (sv_N, (1, (0, []))))), (1, (.invokestatic 297, (sv_N, (4, (0, []))))), (4, (.ifCond .ne 6, (sv_N, (7, (10, []))))), (7, (.ldc 84, (sv_N, (9, (0, []))))), (9, (.ireturn, (sv_N, (10, (0, []))))), (10, (.aload_n 0, (sv_N, (11, (0, []))))), (11, (.getfield 19, (sv_N, (14, (0, []))))), (14, (.iload_n 1, (sv_N, (15, (0, []))))), (15, (.iaload, (sv_N, (16, (0, []))))), (16, (.ifCond .ge 7, (sv_N, (19, (23, []))))), (19, (.ldc_w 303, (sv_N, (22, (0, []))))), (22, (.ireturn, (sv_N, (23, (0, []))))), (23, (.iconst 0, (.inl (0 : Int32), (24, (0, []))))), (24, (.istore_n 2, (sv_N, (25, (0, []))))), (25, (.iconst 0, (.inl (0 : Int32), (26, (0, []))))), (26, (.istore_n 3, (sv_N, (27, (0, []))))), (27, (.iload_n 3, (sv_N, (28, (0, []))))), (28, (.aload_n 0, (sv_N, (29, (0, []))))), (29, (.getfield 22, (sv_N, (32, (0, []))))), (32, (.iload_n 1, (sv_N, (33, (0, []))))), (33, (.iaload, (sv_N, (34, (0, []))))), (34, (.if_icmp .ge 86, (sv_N, (37, (120, []))))), (37, (.iload_n 3, (sv_N, (38, (0, []))))), (38, (.aload_n 0, (sv_N, (39, (0, []))))), (39, (.getfield 7, (sv_N, (42, (0, []))))), (42, (.iconst 0, (.inl (0 : Int32), (43, (0, []))))), (43, (.iaload, (sv_N, (44, (0, []))))), (44, (.if_icmp .ge 76, (sv_N, (47, (120, []))))), (47, (.aload_n 0, (sv_N, (48, (0, []))))), (48, (.getfield 25, (sv_N, (51, (0, []))))), (51, (.bipush 24, (.inl (24 : Int32), (53, (0, []))))), (53, (.iload_n 1, (sv_N, (54, (0, []))))), (54, (.imul, (sv_N, (55, (0, []))))), (55, (.iload_n 3, (sv_N, (56, (0, []))))), (56, (.iadd, (sv_N, (57, (0, []))))), (57, (.iaload, (sv_N, (58, (0, []))))), (58, (.istore 4, (sv_N, (60, (0, []))))), (60, (.iload 4, (sv_N, (62, (0, []))))), (62, (.ldc 70, (sv_N, (64, (0, []))))), (64, (.if_icmp .ne 12, (sv_N, (67, (76, []))))), (67, (.aload_n 0, (sv_N, (68, (0, []))))), (68, (.iload_n 3, (sv_N, (69, (0, []))))), (69, (.iconst 1, (.inl (1 : Int32), (70, (0, []))))), (70, (.invokevirtual 90, (sv_N, (73, (0, []))))), (73, (.goto 11, (sv_N, (76, (84, []))))), (76, (.iload 4, (sv_N, (78, (0, []))))), (78, (.iconst 1, (.inl (1 : Int32), (79, (0, []))))), (79, (.bipush 9, (.inl (9 : Int32), (81, (0, []))))), (81, (.invokestatic 110, (sv_N, (84, (0, []))))), (84, (.istore 5, (sv_N, (86, (0, []))))), (86, (.iload_n 2, (sv_N, (87, (0, []))))), (87, (.iload 5, (sv_N, (89, (0, []))))), (89, (.aload_n 0, (sv_N, (90, (0, []))))), (90, (.bipush 6, (.inl (6 : Int32), (92, (0, []))))), (92, (.bipush 8, (.inl (8 : Int32), (94, (0, []))))), (94, (.iload_n 3, (sv_N, (95, (0, []))))), (95, (.imul, (sv_N, (96, (0, []))))), (96, (.iadd, (sv_N, (97, (0, []))))), (97, (.iconst 1, (.inl (1 : Int32), (98, (0, []))))), (98, (.iadd, (sv_N, (99, (0, []))))), (99, (.iload 5, (sv_N, (101, (0, []))))), (101, (.invokevirtual 134, (sv_N, (104, (0, []))))), (104, (.if_icmp .ne 7, (sv_N, (107, (111, []))))), (107, (.iconst 0, (.inl (0 : Int32), (108, (0, []))))), (108, (.goto 4, (sv_N, (111, (112, []))))), (111, (.iconst 1, (.inl (1 : Int32), (112, (0, []))))), (112, (.iadd, (sv_N, (113, (0, []))))), (113, (.istore_n 2, (sv_N, (114, (0, []))))), (114, (.iinc 3 1, (.inl (1 : Int32), (117, (0, []))))), (117, (.goto (-90), (sv_N, (120, (27, []))))), (120, (.iload_n 2, (sv_N, (121, (0, []))))), (121, (.ireturn, (sv_N, (122, (0, [])))))]
noncomputable def ev_Mo_pour : sv_E := (fun i => sv_lk i fl_12, (fun i => sv_lk i kc_12, (fun _ => 0, (true, (fun pc => sv_lk pc [(1, (1, .inl n_Mo_isSheet)), (70, (3, .inl n_Mo_of)), (81, (3, .inl n_Mo_held)), (101, (3, .inl n_Mo_becomes))], none)))))
noncomputable def kk_Mo_pour_84 (k27 : Int32 → Int32 → Int32 → sv_S → Option (Int32 × sv_S)) : sv_K (Int32 × sv_S) := fun pc => sv_lk pc [(27, fun lo st σ => match lo, st with
    | [some (.inr (.inr (some (30, 0)))), some (.inl x1), some (.inl x2), some (.inl x3), _, _], [] => k27 x1 x2 x3 σ
    | _, _ => none)]
set_option maxRecDepth 20000 in
theorem e_Mo_pour_84 (k27 : Int32 → Int32 → Int32 → sv_S → Option (Int32 × sv_S)) (x1 : Int32) (x2 : Int32) (x3 : Int32) (y0 : Int32) (z4 z5 : Option sv_V) (σ : sv_S) : sv_ex ev_Mo_pour sv_rI (kk_Mo_pour_84 k27) cd_Mo_pour 74 84 [some (.inr (.inr (some (30, 0)))), some (.inl x1), some (.inl x2), some (.inl x3), z4, z5] [.inl y0] σ = f_Mo_pour_84 k27 x1 x2 x3 y0 σ := by
  unfold f_Mo_pour_84
  delta ev_Mo_pour kk_Mo_pour_84 n_Mo_isSheet n_Mo_of n_Mo_held n_Mo_becomes
  generalize f_Mo_isSheet = c0
  generalize f_Mo_of = c1
  generalize f_Mo_held = c2
  generalize f_Mo_becomes = c3
  generalize f_Mo_pour_27 = c4
  rfl
noncomputable def kk_Mo_pour_27 (n : Nat) : sv_K (Int32 × sv_S) := fun pc => sv_lk pc [(84, fun lo st σ => match lo, st with
    | [some (.inr (.inr (some (30, 0)))), some (.inl x1), some (.inl x2), some (.inl x3), _, _], [.inl y0] => f_Mo_pour_84 (f_Mo_pour_27 n) x1 x2 x3 y0 σ
    | _, _ => none)]
set_option maxRecDepth 20000 in
theorem e_Mo_pour_27 (n : Nat) (x1 : Int32) (x2 : Int32) (x3 : Int32) (z4 z5 : Option sv_V) (σ : sv_S) : sv_ex ev_Mo_pour sv_rI (kk_Mo_pour_27 n) cd_Mo_pour 74 27 [some (.inr (.inr (some (30, 0)))), some (.inl x1), some (.inl x2), some (.inl x3), z4, z5] [] σ = f_Mo_pour_27 (n + 1) x1 x2 x3 σ := by
  rw [f_Mo_pour_27.eq_2]
  delta ev_Mo_pour kk_Mo_pour_27 n_Mo_isSheet n_Mo_of n_Mo_held n_Mo_becomes
  generalize f_Mo_isSheet = c0
  generalize f_Mo_of = c1
  generalize f_Mo_held = c2
  generalize f_Mo_becomes = c3
  generalize f_Mo_pour_84 = c4
  generalize f_Mo_pour_27 = c5
  rfl
noncomputable def kk_Mo_pour : sv_K (Int32 × sv_S) := fun pc => sv_lk pc [(27, fun lo st σ => match lo, st with
    | [some (.inr (.inr (some (30, 0)))), some (.inl x1), some (.inl x2), some (.inl x3), _, _], [] => f_Mo_pour_27 sv_fu x1 x2 x3 σ
    | _, _ => none)]
set_option maxRecDepth 20000 in
theorem e_Mo_pour (a1 : Int32) (σ : sv_S) : sv_ex ev_Mo_pour sv_rI kk_Mo_pour cd_Mo_pour 74 0 [some (.inr (.inr (some (30, 0)))), some (.inl a1), none, none, none, none] [] σ = f_Mo_pour a1 σ := by
  unfold f_Mo_pour
  delta ev_Mo_pour kk_Mo_pour n_Mo_isSheet n_Mo_of n_Mo_held n_Mo_becomes
  generalize f_Mo_isSheet = c0
  generalize f_Mo_of = c1
  generalize f_Mo_held = c2
  generalize f_Mo_becomes = c3
  generalize f_Mo_pour_27 = c4
  rfl
theorem d_Mo_pour : cd_Mo_pour.all (sv_dk cX12_pour) = true := by decide +kernel
set_option maxRecDepth 20000 in
theorem w_Mo_pour_84 {Γ : sv_Ga} {res : Int32 × sv_S} (X : sv_Ok Γ ev_Mo_pour cX12_pour sv_rI res) (k27 : Int32 → Int32 → Int32 → sv_S → Option (Int32 × sv_S)) (h27 : ∀ (x1 : Int32) (x2 : Int32) (x3 : Int32) (z4 z5 : Option sv_V) (σ : sv_S), k27 x1 x2 x3 σ = some res → sv_T Γ 27 [some (.inr (.inr (some (30, 0)))), some (.inl x1), some (.inl x2), some (.inl x3), z4, z5] [] σ) : ∀ (x1 : Int32) (x2 : Int32) (x3 : Int32) (y0 : Int32) (z4 z5 : Option sv_V) (σ : sv_S), f_Mo_pour_84 k27 x1 x2 x3 y0 σ = some res → sv_T Γ 84 [some (.inr (.inr (some (30, 0)))), some (.inl x1), some (.inl x2), some (.inl x3), z4, z5] [.inl y0] σ := by
  intro x1 x2 x3 y0 z4 z5 σ h
  refine sv_run X d_Mo_pour (K := kk_Mo_pour_84 k27) (sv_lk_all (P := fun pc (k : sv_Lo → List sv_V → sv_S → Option (Int32 × sv_S)) => ∀ lo st σ, k lo st σ = some res → sv_T Γ pc lo st σ) ?_) _ _ _ _ _ ((e_Mo_pour_84 k27 x1 x2 x3 y0 z4 z5 σ).trans h)
  clear h
  refine List.forall_mem_cons.mpr ⟨fun lo st σ h => ?_, fun _ h => absurd h List.not_mem_nil⟩
  · dsimp only at h
    split at h
    · exact h27 _ _ _ _ _ _ h
    · cases h

set_option maxRecDepth 20000 in
theorem w_Mo_pour_27 {Γ : sv_Ga} {res : Int32 × sv_S} (X : sv_Ok Γ ev_Mo_pour cX12_pour sv_rI res) : ∀ (n : Nat) (x1 : Int32) (x2 : Int32) (x3 : Int32) (z4 z5 : Option sv_V) (σ : sv_S), f_Mo_pour_27 n x1 x2 x3 σ = some res → sv_T Γ 27 [some (.inr (.inr (some (30, 0)))), some (.inl x1), some (.inl x2), some (.inl x3), z4, z5] [] σ := by
  intro n
  induction n with
  | zero =>
    intro x1 x2 x3 z4 z5 σ h
    rw [f_Mo_pour_27.eq_1] at h
    cases h
  | succ n ih =>
    intro x1 x2 x3 z4 z5 σ h
    refine sv_run X d_Mo_pour (K := kk_Mo_pour_27 n) (sv_lk_all (P := fun pc (k : sv_Lo → List sv_V → sv_S → Option (Int32 × sv_S)) => ∀ lo st σ, k lo st σ = some res → sv_T Γ pc lo st σ) ?_) _ _ _ _ _ ((e_Mo_pour_27 n x1 x2 x3 z4 z5 σ).trans h)
    clear h
    refine List.forall_mem_cons.mpr ⟨fun lo st σ h => ?_, fun _ h => absurd h List.not_mem_nil⟩
    · dsimp only at h
      split at h
      · exact w_Mo_pour_84 X _ ih _ _ _ _ _ _ _ h
      · cases h

set_option maxRecDepth 20000 in
theorem b_Mo_pour (Γ : sv_Ga) (res : Int32 × sv_S) (X : sv_Ok Γ ev_Mo_pour cX12_pour sv_rI res) (as : List sv_V) (σ : sv_S) (h : n_Mo_pour as σ = some res) : sv_T Γ 0 (sv_e0 6 as) [] σ := by
  unfold n_Mo_pour at h
  split at h
  · refine sv_run X d_Mo_pour (K := kk_Mo_pour) (sv_lk_all (P := fun pc (k : sv_Lo → List sv_V → sv_S → Option (Int32 × sv_S)) => ∀ lo st σ, k lo st σ = some res → sv_T Γ pc lo st σ) ?_) _ _ _ _ _ ((e_Mo_pour _ _).trans h)
    clear h
    refine List.forall_mem_cons.mpr ⟨fun lo st σ h => ?_, fun _ h => absurd h List.not_mem_nil⟩
    · dsimp only at h
      split at h
      · exact w_Mo_pour_27 X _ _ _ _ _ _ _ h
      · cases h
  · cases h
theorem a_Mo_pour (as : List sv_V) (σ : sv_S) (x : Int32 × sv_S) (h : n_Mo_pour as σ = some x) : sv_args 6 ev_Mo_pour.2.2.2.1 as := by
  unfold n_Mo_pour at h
  split at h
  · exact ⟨Nat.le_of_ble_eq_true rfl, fun _ v hv => by
      simp only [List.mem_cons, List.not_mem_nil, or_false] at hv
      rcases hv with rfl | rfl <;> trivial⟩
  · cases h
theorem g_Mo_pour (as : List sv_V) (σ : sv_S) (x : Option sv_V × sv_S) (h : sv_gI n_Mo_pour as σ = some x) : ∃ r i as', as = sv_R r i :: as' ∧ sv_kd r i = .inl 12 := by
  obtain ⟨_, _, h, -⟩ := sv_b_some h
  unfold n_Mo_pour at h
  split at h
  · exact ⟨_, _, _, rfl, rfl⟩
  · cases h

set_option maxRecDepth 20000 in
theorem m_Mo_pour (l : Launch) : sv_M l yX12_pour cX12_pour 6 (some .int) (sv_gI n_Mo_pour) 2 := by
  refine sv_mI (E := ev_Mo_pour) (by decide +kernel) (ln_gen fk_12 kk_12 (sv_ns _ (fun _ => rfl) _)) rfl ?_ a_Mo_pour b_Mo_pour
  intro p e R s m args below meth c cells slots Q base ad dC dI cA n0 S hkn hR hf pc n f hcs
  refine sv_lk_all (P := fun pc (x : Nat × sv_F) => sv_cok p l e R s m args below meth c cells slots Q base ad dC dI cA true 6 n0 pc x.1 x.2) ?_ pc (n, f) hcs
  exact List.forall_mem_cons.mpr ⟨(sv_cS S hkn (m_Mo_isSheet l) ⟨Nat.le_trans (by decide) hR.1, Nat.le_trans (by decide) hR.2⟩ (by decide) hf (sv_w4 tw_1409 tw_1410 tw_65 tw_1411) (by decide +kernel) (sv_dc3 d_Mo_pour (pc := 1) rfl rfl)).I,
      List.forall_mem_cons.mpr ⟨(sv_cV S hkn (m_Mo_of l) ⟨Nat.le_trans (by decide) hR.1, Nat.le_trans (by decide) hR.2⟩ (by decide) hf rfl (g_Mo_of) (sv_w5 tw_1120 tw_1122 tw_10 tw_65 tw_1123) (by decide +kernel) (sv_dc3 d_Mo_pour (pc := 70) rfl rfl)).I,
      List.forall_mem_cons.mpr ⟨(sv_cS S hkn (m_Mo_held l) ⟨Nat.le_trans (by decide) hR.1, Nat.le_trans (by decide) hR.2⟩ (by decide) hf (sv_w4 tw_1160 tw_1161 tw_65 tw_1162) (by decide +kernel) (sv_dc3 d_Mo_pour (pc := 81) rfl rfl)).I,
      List.forall_mem_cons.mpr ⟨(sv_cV S hkn (m_Mo_becomes l) ⟨Nat.le_trans (by decide) hR.1, Nat.le_trans (by decide) hR.2⟩ (by decide) hf rfl (g_Mo_becomes) (sv_w5 tw_1183 tw_1185 tw_21 tw_65 tw_1186) (by decide +kernel) (sv_dc3 d_Mo_pour (pc := 101) rfl rfl)).I,
      fun _ h => absurd h List.not_mem_nil⟩⟩⟩⟩
noncomputable def f_Mo_reads_106 (x3 : Int32) (σ : sv_S) : Option (Int32 × sv_S) :=
    sv_b0 (f_Mo_laysBack σ) (fun σ1 =>
      sv_b (f_Mo_orNone x3 σ1) (fun v2 σ3 =>
        some (v2, σ3)))
noncomputable def f_Mo_reads_93 (k40 : Int32 → Int32 → Int32 → Int32 → sv_S → Option (Int32 × sv_S)) (x1 : Int32) (x2 : Int32) (x4 : Int32) (y0 : Int32) (σ : sv_S) : Option (Int32 × sv_S) :=
    sv_b (f_Mo_goesOn σ) (fun v1 σ2 =>
      k40 x1 x2 y0 (x4 + (1 : Int32)) σ2)
noncomputable def f_Mo_reads_40 : Nat → Int32 → Int32 → Int32 → Int32 → sv_S → Option (Int32 × sv_S)
  | 0, _, _, _, _, _ => none
  | n + 1, x1, x2, x3, x4, σ =>
    sv_g (sv_in x1 4) (sv_if ((σ 31 5 (x1.toNatClampNeg)) ≤ x4)
      (f_Mo_reads_106 x3 σ)
      (sv_if (0 ≤ x3)
        (f_Mo_reads_106 x3 σ)
        (sv_g (sv_in (((24 : Int32) * x1) + x4) 96) (sv_if ((σ 31 6 ((((24 : Int32) * x1) + x4).toNatClampNeg)) = (-1000000005 : Int32))
          (f_Mo_reads_93 (f_Mo_reads_40 n) x1 x2 x4 (-1 : Int32) σ)
          (sv_b (f_Mo_of x2 (2 : Int32) σ) (fun v1 σ2 =>
            sv_if ((σ 31 6 ((((24 : Int32) * x1) + x4).toNatClampNeg)) = v1)
              (f_Mo_reads_93 (f_Mo_reads_40 n) x1 x2 x4 (-1 : Int32) σ2)
              (f_Mo_reads_93 (f_Mo_reads_40 n) x1 x2 x4 x4 σ2)))))))
noncomputable def f_Mo_reads (a1 : Int32) (a2 : Int32) (σ : sv_S) : Option (Int32 × sv_S) :=
  sv_b (f_Mo_isSheet a1 σ) (fun v1 σ2 =>
    sv_if (v1 = 0)
      (some ((-1000000001 : Int32), σ2))
      (sv_b (f_Mo_isDrummer a2 σ2) (fun v3 σ4 =>
        sv_if (v3 = 0)
          (some ((-1000000001 : Int32), σ4))
          (sv_g (sv_in a1 4) (sv_if (0 ≤ (σ4 31 4 (a1.toNatClampNeg)))
            (sv_b0 (f_Mo_laysBy σ4) (fun σ5 =>
              f_Mo_reads_40 sv_fu a1 a2 (-1 : Int32) (0 : Int32) σ5))
            (some ((-1000000011 : Int32), σ4)))))))
noncomputable def n_Mo_reads : List sv_V → sv_S → Option (Int32 × sv_S)
  | [.inr (.inr (some (30, 0))), .inl a1, .inl a2], σ => f_Mo_reads a1 a2 σ
  | _, _ => none
def cd_Mo_reads : sv_C := [(0, (.iload_n 1, (sv_N, (1, (0, []))))), (1, (.invokestatic 297, (sv_N, (4, (0, []))))), (4, (.ifCond .eq 11, (sv_N, (7, (15, []))))), (7, (.aload_n 0, (sv_N, (8, (0, []))))), (8, (.iload_n 2, (sv_N, (9, (0, []))))), (9, (.invokevirtual 113, (sv_N, (12, (0, []))))), (12, (.ifCond .ne 6, (sv_N, (15, (18, []))))), (15, (.ldc 84, (sv_N, (17, (0, []))))), (17, (.ireturn, (sv_N, (18, (0, []))))), (18, (.aload_n 0, (sv_N, (19, (0, []))))), (19, (.getfield 19, (sv_N, (22, (0, []))))), (22, (.iload_n 1, (sv_N, (23, (0, []))))), (23, (.iaload, (sv_N, (24, (0, []))))), (24, (.ifCond .ge 7, (sv_N, (27, (31, []))))), (27, (.ldc_w 303, (sv_N, (30, (0, []))))), (30, (.ireturn, (sv_N, (31, (0, []))))), (31, (.aload_n 0, (sv_N, (32, (0, []))))), (32, (.invokevirtual 162, (sv_N, (35, (0, []))))), (35, (.iconst (-1), (.inl (-1 : Int32), (36, (0, []))))), (36, (.istore_n 3, (sv_N, (37, (0, []))))), (37, (.iconst 0, (.inl (0 : Int32), (38, (0, []))))), (38, (.istore 4, (sv_N, (40, (0, []))))), (40, (.iload 4, (sv_N, (42, (0, []))))), (42, (.aload_n 0, (sv_N, (43, (0, []))))), (43, (.getfield 22, (sv_N, (46, (0, []))))), (46, (.iload_n 1, (sv_N, (47, (0, []))))), (47, (.iaload, (sv_N, (48, (0, []))))), (48, (.if_icmp .ge 58, (sv_N, (51, (106, []))))), (51, (.iload_n 3, (sv_N, (52, (0, []))))), (52, (.ifCond .ge 54, (sv_N, (55, (106, []))))), (55, (.aload_n 0, (sv_N, (56, (0, []))))), (56, (.getfield 25, (sv_N, (59, (0, []))))), (59, (.bipush 24, (.inl (24 : Int32), (61, (0, []))))), (61, (.iload_n 1, (sv_N, (62, (0, []))))), (62, (.imul, (sv_N, (63, (0, []))))), (63, (.iload 4, (sv_N, (65, (0, []))))), (65, (.iadd, (sv_N, (66, (0, []))))), (66, (.iaload, (sv_N, (67, (0, []))))), (67, (.istore 5, (sv_N, (69, (0, []))))), (69, (.iload 5, (sv_N, (71, (0, []))))), (71, (.ldc 70, (sv_N, (73, (0, []))))), (73, (.if_icmp .eq 19, (sv_N, (76, (92, []))))), (76, (.iload 5, (sv_N, (78, (0, []))))), (78, (.aload_n 0, (sv_N, (79, (0, []))))), (79, (.iload_n 2, (sv_N, (80, (0, []))))), (80, (.iconst 2, (.inl (2 : Int32), (81, (0, []))))), (81, (.invokevirtual 90, (sv_N, (84, (0, []))))), (84, (.if_icmp .eq 8, (sv_N, (87, (92, []))))), (87, (.iload 4, (sv_N, (89, (0, []))))), (89, (.goto 4, (sv_N, (92, (93, []))))), (92, (.iconst (-1), (.inl (-1 : Int32), (93, (0, []))))), (93, (.istore_n 3, (sv_N, (94, (0, []))))), (94, (.aload_n 0, (sv_N, (95, (0, []))))), (95, (.invokevirtual 154, (sv_N, (98, (0, []))))), (98, (.istore 6, (sv_N, (100, (0, []))))), (100, (.iinc 4 1, (.inl (1 : Int32), (103, (0, []))))), (103, (.goto (-63), (sv_N, (106, (40, []))))), (106, (.aload_n 0, (sv_N, (107, (0, []))))), (107, (.invokevirtual 165, (sv_N, (110, (0, []))))), (110, (.iload_n 3, (sv_N, (111, (0, []))))), (111, (.invokestatic 171, (sv_N, (114, (0, []))))), (114, (.ireturn, (sv_N, (115, (0, [])))))]
noncomputable def ev_Mo_reads : sv_E := (fun i => sv_lk i fl_12, (fun i => sv_lk i kc_12, (fun _ => 0, (true, (fun pc => sv_lk pc [(1, (1, .inl n_Mo_isSheet)), (9, (2, .inl n_Mo_isDrummer)), (32, (1, .inr (.inl n_Mo_laysBy))), (81, (3, .inl n_Mo_of)), (95, (1, .inl n_Mo_goesOn)), (107, (1, .inr (.inl n_Mo_laysBack))), (111, (1, .inl n_Mo_orNone))], none)))))
noncomputable def kk_Mo_reads_106 : sv_K (Int32 × sv_S) := fun pc => sv_lk pc []
set_option maxRecDepth 20000 in
theorem e_Mo_reads_106 (x3 : Int32) (z1 z2 z4 z5 z6 : Option sv_V) (σ : sv_S) : sv_ex ev_Mo_reads sv_rI (kk_Mo_reads_106) cd_Mo_reads 64 106 [some (.inr (.inr (some (30, 0)))), z1, z2, some (.inl x3), z4, z5, z6] [] σ = f_Mo_reads_106 x3 σ := by
  unfold f_Mo_reads_106
  delta ev_Mo_reads kk_Mo_reads_106 n_Mo_isSheet n_Mo_isDrummer n_Mo_laysBy n_Mo_of n_Mo_goesOn n_Mo_laysBack n_Mo_orNone
  generalize f_Mo_isSheet = c0
  generalize f_Mo_isDrummer = c1
  generalize f_Mo_laysBy = c2
  generalize f_Mo_of = c3
  generalize f_Mo_goesOn = c4
  generalize f_Mo_laysBack = c5
  generalize f_Mo_orNone = c6
  rfl
noncomputable def kk_Mo_reads_93 (k40 : Int32 → Int32 → Int32 → Int32 → sv_S → Option (Int32 × sv_S)) : sv_K (Int32 × sv_S) := fun pc => sv_lk pc [(40, fun lo st σ => match lo, st with
    | [some (.inr (.inr (some (30, 0)))), some (.inl x1), some (.inl x2), some (.inl x3), some (.inl x4), _, _], [] => k40 x1 x2 x3 x4 σ
    | _, _ => none)]
set_option maxRecDepth 20000 in
theorem e_Mo_reads_93 (k40 : Int32 → Int32 → Int32 → Int32 → sv_S → Option (Int32 × sv_S)) (x1 : Int32) (x2 : Int32) (x4 : Int32) (y0 : Int32) (z3 z5 z6 : Option sv_V) (σ : sv_S) : sv_ex ev_Mo_reads sv_rI (kk_Mo_reads_93 k40) cd_Mo_reads 64 93 [some (.inr (.inr (some (30, 0)))), some (.inl x1), some (.inl x2), z3, some (.inl x4), z5, z6] [.inl y0] σ = f_Mo_reads_93 k40 x1 x2 x4 y0 σ := by
  unfold f_Mo_reads_93
  delta ev_Mo_reads kk_Mo_reads_93 n_Mo_isSheet n_Mo_isDrummer n_Mo_laysBy n_Mo_of n_Mo_goesOn n_Mo_laysBack n_Mo_orNone
  generalize f_Mo_isSheet = c0
  generalize f_Mo_isDrummer = c1
  generalize f_Mo_laysBy = c2
  generalize f_Mo_of = c3
  generalize f_Mo_goesOn = c4
  generalize f_Mo_laysBack = c5
  generalize f_Mo_orNone = c6
  generalize f_Mo_reads_40 = c7
  rfl
noncomputable def kk_Mo_reads_40 (n : Nat) : sv_K (Int32 × sv_S) := fun pc => sv_lk pc [(93, fun lo st σ => match lo, st with
    | [some (.inr (.inr (some (30, 0)))), some (.inl x1), some (.inl x2), _, some (.inl x4), _, _], [.inl y0] => f_Mo_reads_93 (f_Mo_reads_40 n) x1 x2 x4 y0 σ
    | _, _ => none),
  (106, fun lo st σ => match lo, st with
    | [some (.inr (.inr (some (30, 0)))), _, _, some (.inl x3), _, _, _], [] => f_Mo_reads_106 x3 σ
    | _, _ => none)]
set_option maxRecDepth 20000 in
theorem e_Mo_reads_40 (n : Nat) (x1 : Int32) (x2 : Int32) (x3 : Int32) (x4 : Int32) (z5 z6 : Option sv_V) (σ : sv_S) : sv_ex ev_Mo_reads sv_rI (kk_Mo_reads_40 n) cd_Mo_reads 64 40 [some (.inr (.inr (some (30, 0)))), some (.inl x1), some (.inl x2), some (.inl x3), some (.inl x4), z5, z6] [] σ = f_Mo_reads_40 (n + 1) x1 x2 x3 x4 σ := by
  rw [f_Mo_reads_40.eq_2]
  delta ev_Mo_reads kk_Mo_reads_40 n_Mo_isSheet n_Mo_isDrummer n_Mo_laysBy n_Mo_of n_Mo_goesOn n_Mo_laysBack n_Mo_orNone
  generalize f_Mo_isSheet = c0
  generalize f_Mo_isDrummer = c1
  generalize f_Mo_laysBy = c2
  generalize f_Mo_of = c3
  generalize f_Mo_goesOn = c4
  generalize f_Mo_laysBack = c5
  generalize f_Mo_orNone = c6
  generalize f_Mo_reads_93 = c7
  generalize f_Mo_reads_106 = c8
  generalize f_Mo_reads_40 = c9
  rfl
noncomputable def kk_Mo_reads : sv_K (Int32 × sv_S) := fun pc => sv_lk pc [(40, fun lo st σ => match lo, st with
    | [some (.inr (.inr (some (30, 0)))), some (.inl x1), some (.inl x2), some (.inl x3), some (.inl x4), _, _], [] => f_Mo_reads_40 sv_fu x1 x2 x3 x4 σ
    | _, _ => none)]
set_option maxRecDepth 20000 in
theorem e_Mo_reads (a1 : Int32) (a2 : Int32) (σ : sv_S) : sv_ex ev_Mo_reads sv_rI kk_Mo_reads cd_Mo_reads 64 0 [some (.inr (.inr (some (30, 0)))), some (.inl a1), some (.inl a2), none, none, none, none] [] σ = f_Mo_reads a1 a2 σ := by
  unfold f_Mo_reads
  delta ev_Mo_reads kk_Mo_reads n_Mo_isSheet n_Mo_isDrummer n_Mo_laysBy n_Mo_of n_Mo_goesOn n_Mo_laysBack n_Mo_orNone
  generalize f_Mo_isSheet = c0
  generalize f_Mo_isDrummer = c1
  generalize f_Mo_laysBy = c2
  generalize f_Mo_of = c3
  generalize f_Mo_goesOn = c4
  generalize f_Mo_laysBack = c5
  generalize f_Mo_orNone = c6
  generalize f_Mo_reads_40 = c7
  rfl
theorem d_Mo_reads : cd_Mo_reads.all (sv_dk cX12_reads) = true := by decide +kernel
set_option maxRecDepth 20000 in
theorem w_Mo_reads_106 {Γ : sv_Ga} {res : Int32 × sv_S} (X : sv_Ok Γ ev_Mo_reads cX12_reads sv_rI res) : ∀ (x3 : Int32) (z1 z2 z4 z5 z6 : Option sv_V) (σ : sv_S), f_Mo_reads_106 x3 σ = some res → sv_T Γ 106 [some (.inr (.inr (some (30, 0)))), z1, z2, some (.inl x3), z4, z5, z6] [] σ := by
  intro x3 z1 z2 z4 z5 z6 σ h
  refine sv_run X d_Mo_reads (K := kk_Mo_reads_106) (sv_lk_all (P := fun pc (k : sv_Lo → List sv_V → sv_S → Option (Int32 × sv_S)) => ∀ lo st σ, k lo st σ = some res → sv_T Γ pc lo st σ) ?_) _ _ _ _ _ ((e_Mo_reads_106 x3 z1 z2 z4 z5 z6 σ).trans h)
  clear h
  exact fun _ h => absurd h List.not_mem_nil

set_option maxRecDepth 20000 in
theorem w_Mo_reads_93 {Γ : sv_Ga} {res : Int32 × sv_S} (X : sv_Ok Γ ev_Mo_reads cX12_reads sv_rI res) (k40 : Int32 → Int32 → Int32 → Int32 → sv_S → Option (Int32 × sv_S)) (h40 : ∀ (x1 : Int32) (x2 : Int32) (x3 : Int32) (x4 : Int32) (z5 z6 : Option sv_V) (σ : sv_S), k40 x1 x2 x3 x4 σ = some res → sv_T Γ 40 [some (.inr (.inr (some (30, 0)))), some (.inl x1), some (.inl x2), some (.inl x3), some (.inl x4), z5, z6] [] σ) : ∀ (x1 : Int32) (x2 : Int32) (x4 : Int32) (y0 : Int32) (z3 z5 z6 : Option sv_V) (σ : sv_S), f_Mo_reads_93 k40 x1 x2 x4 y0 σ = some res → sv_T Γ 93 [some (.inr (.inr (some (30, 0)))), some (.inl x1), some (.inl x2), z3, some (.inl x4), z5, z6] [.inl y0] σ := by
  intro x1 x2 x4 y0 z3 z5 z6 σ h
  refine sv_run X d_Mo_reads (K := kk_Mo_reads_93 k40) (sv_lk_all (P := fun pc (k : sv_Lo → List sv_V → sv_S → Option (Int32 × sv_S)) => ∀ lo st σ, k lo st σ = some res → sv_T Γ pc lo st σ) ?_) _ _ _ _ _ ((e_Mo_reads_93 k40 x1 x2 x4 y0 z3 z5 z6 σ).trans h)
  clear h
  refine List.forall_mem_cons.mpr ⟨fun lo st σ h => ?_, fun _ h => absurd h List.not_mem_nil⟩
  · dsimp only at h
    split at h
    · exact h40 _ _ _ _ _ _ _ h
    · cases h

set_option maxRecDepth 20000 in
theorem w_Mo_reads_40 {Γ : sv_Ga} {res : Int32 × sv_S} (X : sv_Ok Γ ev_Mo_reads cX12_reads sv_rI res) : ∀ (n : Nat) (x1 : Int32) (x2 : Int32) (x3 : Int32) (x4 : Int32) (z5 z6 : Option sv_V) (σ : sv_S), f_Mo_reads_40 n x1 x2 x3 x4 σ = some res → sv_T Γ 40 [some (.inr (.inr (some (30, 0)))), some (.inl x1), some (.inl x2), some (.inl x3), some (.inl x4), z5, z6] [] σ := by
  intro n
  induction n with
  | zero =>
    intro x1 x2 x3 x4 z5 z6 σ h
    rw [f_Mo_reads_40.eq_1] at h
    cases h
  | succ n ih =>
    intro x1 x2 x3 x4 z5 z6 σ h
    refine sv_run X d_Mo_reads (K := kk_Mo_reads_40 n) (sv_lk_all (P := fun pc (k : sv_Lo → List sv_V → sv_S → Option (Int32 × sv_S)) => ∀ lo st σ, k lo st σ = some res → sv_T Γ pc lo st σ) ?_) _ _ _ _ _ ((e_Mo_reads_40 n x1 x2 x3 x4 z5 z6 σ).trans h)
    clear h
    refine List.forall_mem_cons.mpr ⟨fun lo st σ h => ?_, List.forall_mem_cons.mpr ⟨fun lo st σ h => ?_, fun _ h => absurd h List.not_mem_nil⟩⟩
    · dsimp only at h
      split at h
      · exact w_Mo_reads_93 X _ ih _ _ _ _ _ _ _ _ h
      · cases h
    · dsimp only at h
      split at h
      · exact w_Mo_reads_106 X _ _ _ _ _ _ _ h
      · cases h

set_option maxRecDepth 20000 in
theorem b_Mo_reads (Γ : sv_Ga) (res : Int32 × sv_S) (X : sv_Ok Γ ev_Mo_reads cX12_reads sv_rI res) (as : List sv_V) (σ : sv_S) (h : n_Mo_reads as σ = some res) : sv_T Γ 0 (sv_e0 7 as) [] σ := by
  unfold n_Mo_reads at h
  split at h
  · refine sv_run X d_Mo_reads (K := kk_Mo_reads) (sv_lk_all (P := fun pc (k : sv_Lo → List sv_V → sv_S → Option (Int32 × sv_S)) => ∀ lo st σ, k lo st σ = some res → sv_T Γ pc lo st σ) ?_) _ _ _ _ _ ((e_Mo_reads _ _ _).trans h)
    clear h
    refine List.forall_mem_cons.mpr ⟨fun lo st σ h => ?_, fun _ h => absurd h List.not_mem_nil⟩
    · dsimp only at h
      split at h
      · exact w_Mo_reads_40 X _ _ _ _ _ _ _ _ h
      · cases h
  · cases h
theorem a_Mo_reads (as : List sv_V) (σ : sv_S) (x : Int32 × sv_S) (h : n_Mo_reads as σ = some x) : sv_args 7 ev_Mo_reads.2.2.2.1 as := by
  unfold n_Mo_reads at h
  split at h
  · exact ⟨Nat.le_of_ble_eq_true rfl, fun _ v hv => by
      simp only [List.mem_cons, List.not_mem_nil, or_false] at hv
      rcases hv with rfl | rfl | rfl <;> trivial⟩
  · cases h
theorem g_Mo_reads (as : List sv_V) (σ : sv_S) (x : Option sv_V × sv_S) (h : sv_gI n_Mo_reads as σ = some x) : ∃ r i as', as = sv_R r i :: as' ∧ sv_kd r i = .inl 12 := by
  obtain ⟨_, _, h, -⟩ := sv_b_some h
  unfold n_Mo_reads at h
  split at h
  · exact ⟨_, _, _, rfl, rfl⟩
  · cases h

set_option maxRecDepth 20000 in
theorem m_Mo_reads (l : Launch) : sv_M l yX12_reads cX12_reads 7 (some .int) (sv_gI n_Mo_reads) 5 := by
  refine sv_mI (E := ev_Mo_reads) (by decide +kernel) (ln_gen fk_12 kk_12 (sv_ns _ (fun _ => rfl) _)) rfl ?_ a_Mo_reads b_Mo_reads
  intro p e R s m args below meth c cells slots Q base ad dC dI cA n0 S hkn hR hf pc n f hcs
  refine sv_lk_all (P := fun pc (x : Nat × sv_F) => sv_cok p l e R s m args below meth c cells slots Q base ad dC dI cA true 7 n0 pc x.1 x.2) ?_ pc (n, f) hcs
  exact List.forall_mem_cons.mpr ⟨(sv_cS S hkn (m_Mo_isSheet l) ⟨Nat.le_trans (by decide) hR.1, Nat.le_trans (by decide) hR.2⟩ (by decide) hf (sv_w4 tw_1409 tw_1410 tw_65 tw_1411) (by decide +kernel) (sv_dc3 d_Mo_reads (pc := 1) rfl rfl)).I,
      List.forall_mem_cons.mpr ⟨(sv_cV S hkn (m_Mo_isDrummer l) ⟨Nat.le_trans (by decide) hR.1, Nat.le_trans (by decide) hR.2⟩ (by decide) hf rfl (g_Mo_isDrummer) (sv_w5 tw_1116 tw_1118 tw_9 tw_65 tw_1119) (by decide +kernel) (sv_dc3 d_Mo_reads (pc := 9) rfl rfl)).I,
      List.forall_mem_cons.mpr ⟨(sv_cV S hkn (m_Mo_laysBy l) ⟨Nat.le_trans (by decide) hR.1, Nat.le_trans (by decide) hR.2⟩ (by decide) hf rfl (g_Mo_laysBy) (sv_w5 tw_1244 tw_1246 tw_26 tw_65 tw_1247) (by decide +kernel) (sv_dc3 d_Mo_reads (pc := 32) rfl rfl)).V,
      List.forall_mem_cons.mpr ⟨(sv_cV S hkn (m_Mo_of l) ⟨Nat.le_trans (by decide) hR.1, Nat.le_trans (by decide) hR.2⟩ (by decide) hf rfl (g_Mo_of) (sv_w5 tw_1120 tw_1122 tw_10 tw_65 tw_1123) (by decide +kernel) (sv_dc3 d_Mo_reads (pc := 81) rfl rfl)).I,
      List.forall_mem_cons.mpr ⟨(sv_cV S hkn (m_Mo_goesOn l) ⟨Nat.le_trans (by decide) hR.1, Nat.le_trans (by decide) hR.2⟩ (by decide) hf rfl (g_Mo_goesOn) (sv_w5 tw_1232 tw_1234 tw_25 tw_65 tw_1235) (by decide +kernel) (sv_dc3 d_Mo_reads (pc := 95) rfl rfl)).I,
      List.forall_mem_cons.mpr ⟨(sv_cV S hkn (m_Mo_laysBack l) ⟨Nat.le_trans (by decide) hR.1, Nat.le_trans (by decide) hR.2⟩ (by decide) hf rfl (g_Mo_laysBack) (sv_w5 tw_1248 tw_1250 tw_27 tw_65 tw_1251) (by decide +kernel) (sv_dc3 d_Mo_reads (pc := 107) rfl rfl)).V,
      List.forall_mem_cons.mpr ⟨(sv_cS S hkn (m_Mo_orNone l) ⟨Nat.le_trans (by decide) hR.1, Nat.le_trans (by decide) hR.2⟩ (by decide) hf (sv_w4 tw_1260 tw_1261 tw_65 tw_1262) (by decide +kernel) (sv_dc3 d_Mo_reads (pc := 111) rfl rfl)).I,
      fun _ h => absurd h List.not_mem_nil⟩⟩⟩⟩⟩⟩⟩
noncomputable def f_Mo_miscounted_202 (k58 : Int32 → Int32 → Int32 → Int32 → Int32 → Int32 → sv_S → Option (Int32 × sv_S)) (x1 : Int32) (x2 : Int32) (x3 : Int32) (x6 : Int32) (x7 : Int32) (σ : sv_S) : Option (Int32 × sv_S) :=
    k58 x1 x2 x3 x6 x7 (x6 + (1 : Int32)) σ
noncomputable def f_Mo_miscounted_178 (k58 : Int32 → Int32 → Int32 → Int32 → Int32 → Int32 → sv_S → Option (Int32 × sv_S)) (k116 : Int32 → Int32 → Int32 → Int32 → Int32 → Int32 → Int32 → Int32 → sv_S → Option (Int32 × sv_S)) (x1 : Int32) (x2 : Int32) (x3 : Int32) (x4 : Int32) (x5 : Int32) (x6 : Int32) (x8 : Int32) (y0 : Int32) (y1 : Int32) (y2 : Int32) (σ : sv_S) : Option (Int32 × sv_S) :=
    sv_b (f_Mo_off y1 y0 σ) (fun v1 σ2 =>
      k116 x1 x2 x3 x4 x5 x6 (y2 + v1) (x8 + (1 : Int32)) σ2)
noncomputable def f_Mo_miscounted_116 (k58 : Int32 → Int32 → Int32 → Int32 → Int32 → Int32 → sv_S → Option (Int32 × sv_S)) : Nat → Int32 → Int32 → Int32 → Int32 → Int32 → Int32 → Int32 → Int32 → sv_S → Option (Int32 × sv_S)
  | 0, _, _, _, _, _, _, _, _, _ => none
  | n + 1, x1, x2, x3, x4, x5, x6, x7, x8, σ =>
    sv_g (sv_in x1 4) (sv_if ((σ 31 5 (x1.toNatClampNeg)) ≤ x8)
      (sv_if (x4 < 0)
        (f_Mo_miscounted_202 k58 x1 x2 x3 x6 x7 σ)
        (sv_if (x5 ≤ x7)
          (k58 x1 x2 x3 x4 x5 (x6 + (1 : Int32)) σ)
          (f_Mo_miscounted_202 k58 x1 x2 x3 x6 x7 σ)))
      (sv_g (sv_in (((24 : Int32) * x1) + x8) 96) (sv_if ((σ 31 6 ((((24 : Int32) * x1) + x8).toNatClampNeg)) = (-1000000005 : Int32))
        (f_Mo_miscounted_116 k58 n x1 x2 x3 x4 x5 x6 (x7 + (0 : Int32)) (x8 + (1 : Int32)) σ)
        (sv_g (sv_in (0 : Int32) 3086) (sv_if ((σ 31 0 ((0 : Int32).toNatClampNeg)) ≤ x8)
          (f_Mo_miscounted_178 k58 (f_Mo_miscounted_116 k58 n) x1 x2 x3 x4 x5 x6 x8 (0 : Int32) (σ 31 6 ((((24 : Int32) * x1) + x8).toNatClampNeg)) x7 σ)
          (sv_g (sv_in x8 10) (f_Mo_miscounted_178 k58 (f_Mo_miscounted_116 k58 n) x1 x2 x3 x4 x5 x6 x8 (σ 31 14 (x8.toNatClampNeg)) (σ 31 6 ((((24 : Int32) * x1) + x8).toNatClampNeg)) x7 σ)))))))
noncomputable def f_Mo_miscounted_98 (k58 : Int32 → Int32 → Int32 → Int32 → Int32 → Int32 → sv_S → Option (Int32 × sv_S)) (x1 : Int32) (x2 : Int32) (x3 : Int32) (x4 : Int32) (x5 : Int32) (x6 : Int32) (y0 : Int32) (y1 : Int32) (y2 : Int32) (σ : sv_S) : Option (Int32 × sv_S) :=
    sv_b0 (f_Mo_sets y2 y1 y0 σ) (fun σ1 =>
      sv_b0 (f_Mo_layFirsts x2 σ1) (fun σ2 =>
        sv_b0 (f_Mo_laysBack σ2) (fun σ3 =>
          f_Mo_miscounted_116 k58 sv_fu x1 x2 x3 x4 x5 x6 (0 : Int32) (0 : Int32) σ3)))
noncomputable def f_Mo_miscounted_58 : Nat → Int32 → Int32 → Int32 → Int32 → Int32 → Int32 → sv_S → Option (Int32 × sv_S)
  | 0, _, _, _, _, _, _, _ => none
  | n + 1, x1, x2, x3, x4, x5, x6, σ =>
    sv_g (sv_in (0 : Int32) 3086) (sv_if ((σ 31 0 ((0 : Int32).toNatClampNeg)) ≤ x6)
      (sv_if (0 ≤ x4)
        (sv_if (x3 = 0)
          (some (x4, σ))
          (some (x5, σ)))
        (some ((-1000000005 : Int32), σ)))
      (sv_b (f_Mo_of x6 (1 : Int32) σ) (fun v1 σ2 =>
        sv_if (v1 = (9 : Int32))
          (f_Mo_miscounted_98 (f_Mo_miscounted_58 n) x1 x2 x3 x4 x5 x6 (1 : Int32) (1 : Int32) x6 σ2)
          (sv_b (f_Mo_of x6 (1 : Int32) σ2) (fun v3 σ4 =>
            f_Mo_miscounted_98 (f_Mo_miscounted_58 n) x1 x2 x3 x4 x5 x6 (v3 + (1 : Int32)) (1 : Int32) x6 σ4)))))
noncomputable def f_Mo_miscounted (a1 : Int32) (a2 : Int32) (a3 : Int32) (σ : sv_S) : Option (Int32 × sv_S) :=
  sv_b (f_Mo_isSheet a1 σ) (fun v1 σ2 =>
    sv_if (v1 = 0)
      (some ((-1000000001 : Int32), σ2))
      (sv_b (f_Mo_isIn (a2.toInt64) (1 : Int64) (60 : Int64) σ2) (fun v3 σ4 =>
        sv_if (v3 = 0)
          (some ((-1000000001 : Int32), σ4))
          (sv_b (f_Mo_isIn (a3.toInt64) (0 : Int64) (1 : Int64) σ4) (fun v5 σ6 =>
            sv_if (v5 = 0)
              (some ((-1000000001 : Int32), σ6))
              (sv_g (sv_in a1 4) (sv_if (0 ≤ (σ6 31 4 (a1.toNatClampNeg)))
                (sv_b0 (f_Mo_laysBy σ6) (fun σ7 =>
                  f_Mo_miscounted_58 sv_fu a1 a2 a3 (-1 : Int32) (0 : Int32) (0 : Int32) σ7))
                (some ((-1000000011 : Int32), σ6)))))))))
noncomputable def n_Mo_miscounted : List sv_V → sv_S → Option (Int32 × sv_S)
  | [.inr (.inr (some (30, 0))), .inl a1, .inl a2, .inl a3], σ => f_Mo_miscounted a1 a2 a3 σ
  | _, _ => none
def cd_Mo_miscounted : sv_C := [(0, (.iload_n 1, (sv_N, (1, (0, []))))), (1, (.invokestatic 297, (sv_N, (4, (0, []))))), (4, (.ifCond .eq 25, (sv_N, (7, (29, []))))), (7, (.iload_n 2, (sv_N, (8, (0, []))))), (8, (.i2l, (sv_N, (9, (0, []))))), (9, (.lconst 1, (.inr (.inl (1 : Int64)), (10, (0, []))))), (10, (.ldc2_w 185, (sv_N, (13, (0, []))))), (13, (.invokestatic 71, (sv_N, (16, (0, []))))), (16, (.ifCond .eq 13, (sv_N, (19, (29, []))))), (19, (.iload_n 3, (sv_N, (20, (0, []))))), (20, (.i2l, (sv_N, (21, (0, []))))), (21, (.lconst 0, (.inr (.inl (0 : Int64)), (22, (0, []))))), (22, (.lconst 1, (.inr (.inl (1 : Int64)), (23, (0, []))))), (23, (.invokestatic 71, (sv_N, (26, (0, []))))), (26, (.ifCond .ne 6, (sv_N, (29, (32, []))))), (29, (.ldc 84, (sv_N, (31, (0, []))))), (31, (.ireturn, (sv_N, (32, (0, []))))), (32, (.aload_n 0, (sv_N, (33, (0, []))))), (33, (.getfield 19, (sv_N, (36, (0, []))))), (36, (.iload_n 1, (sv_N, (37, (0, []))))), (37, (.iaload, (sv_N, (38, (0, []))))), (38, (.ifCond .ge 7, (sv_N, (41, (45, []))))), (41, (.ldc_w 303, (sv_N, (44, (0, []))))), (44, (.ireturn, (sv_N, (45, (0, []))))), (45, (.aload_n 0, (sv_N, (46, (0, []))))), (46, (.invokevirtual 162, (sv_N, (49, (0, []))))), (49, (.iconst (-1), (.inl (-1 : Int32), (50, (0, []))))), (50, (.istore 4, (sv_N, (52, (0, []))))), (52, (.iconst 0, (.inl (0 : Int32), (53, (0, []))))), (53, (.istore 5, (sv_N, (55, (0, []))))), (55, (.iconst 0, (.inl (0 : Int32), (56, (0, []))))), (56, (.istore 6, (sv_N, (58, (0, []))))), (58, (.iload 6, (sv_N, (60, (0, []))))), (60, (.aload_n 0, (sv_N, (61, (0, []))))), (61, (.getfield 7, (sv_N, (64, (0, []))))), (64, (.iconst 0, (.inl (0 : Int32), (65, (0, []))))), (65, (.iaload, (sv_N, (66, (0, []))))), (66, (.if_icmp .ge 150, (sv_N, (69, (216, []))))), (69, (.aload_n 0, (sv_N, (70, (0, []))))), (70, (.iload 6, (sv_N, (72, (0, []))))), (72, (.iconst 1, (.inl (1 : Int32), (73, (0, []))))), (73, (.aload_n 0, (sv_N, (74, (0, []))))), (74, (.iload 6, (sv_N, (76, (0, []))))), (76, (.iconst 1, (.inl (1 : Int32), (77, (0, []))))), (77, (.invokevirtual 90, (sv_N, (80, (0, []))))), (80, (.bipush 9, (.inl (9 : Int32), (82, (0, []))))), (82, (.if_icmp .ne 7, (sv_N, (85, (89, []))))), (85, (.iconst 1, (.inl (1 : Int32), (86, (0, []))))), (86, (.goto 12, (sv_N, (89, (98, []))))), (89, (.aload_n 0, (sv_N, (90, (0, []))))), (90, (.iload 6, (sv_N, (92, (0, []))))), (92, (.iconst 1, (.inl (1 : Int32), (93, (0, []))))), (93, (.invokevirtual 90, (sv_N, (96, (0, []))))), (96, (.iconst 1, (.inl (1 : Int32), (97, (0, []))))), (97, (.iadd, (sv_N, (98, (0, []))))), (98, (.invokevirtual 76, (sv_N, (101, (0, []))))), (101, (.aload_n 0, (sv_N, (102, (0, []))))), (102, (.iload_n 2, (sv_N, (103, (0, []))))), (103, (.invokevirtual 178, (sv_N, (106, (0, []))))), (106, (.aload_n 0, (sv_N, (107, (0, []))))), (107, (.invokevirtual 165, (sv_N, (110, (0, []))))), (110, (.iconst 0, (.inl (0 : Int32), (111, (0, []))))), (111, (.istore 7, (sv_N, (113, (0, []))))), (113, (.iconst 0, (.inl (0 : Int32), (114, (0, []))))), (114, (.istore 8, (sv_N, (116, (0, []))))), (116, (.iload 8, (sv_N, (118, (0, []))))), (118, (.aload_n 0, (sv_N, (119, (0, []))))), (119, (.getfield 22, (sv_N, (122, (0, []))))), (122, (.iload_n 1, (sv_N, (123, (0, []))))), (123, (.iaload, (sv_N, (124, (0, []))))), (124, (.if_icmp .ge 66, (sv_N, (127, (190, []))))), (127, (.aload_n 0, (sv_N, (128, (0, []))))), (128, (.getfield 25, (sv_N, (131, (0, []))))), (131, (.bipush 24, (.inl (24 : Int32), (133, (0, []))))), (133, (.iload_n 1, (sv_N, (134, (0, []))))), (134, (.imul, (sv_N, (135, (0, []))))), (135, (.iload 8, (sv_N, (137, (0, []))))), (137, (.iadd, (sv_N, (138, (0, []))))), (138, (.iaload, (sv_N, (139, (0, []))))), (139, (.istore 9, (sv_N, (141, (0, []))))), (141, (.iload 7, (sv_N, (143, (0, []))))), (143, (.iload 9, (sv_N, (145, (0, []))))), (145, (.ldc 70, (sv_N, (147, (0, []))))), (147, (.if_icmp .ne 7, (sv_N, (150, (154, []))))), (150, (.iconst 0, (.inl (0 : Int32), (151, (0, []))))), (151, (.goto 30, (sv_N, (154, (181, []))))), (154, (.iload 9, (sv_N, (156, (0, []))))), (156, (.iload 8, (sv_N, (158, (0, []))))), (158, (.aload_n 0, (sv_N, (159, (0, []))))), (159, (.getfield 7, (sv_N, (162, (0, []))))), (162, (.iconst 0, (.inl (0 : Int32), (163, (0, []))))), (163, (.iaload, (sv_N, (164, (0, []))))), (164, (.if_icmp .ge 13, (sv_N, (167, (177, []))))), (167, (.aload_n 0, (sv_N, (168, (0, []))))), (168, (.getfield 49, (sv_N, (171, (0, []))))), (171, (.iload 8, (sv_N, (173, (0, []))))), (173, (.iaload, (sv_N, (174, (0, []))))), (174, (.goto 4, (sv_N, (177, (178, []))))), (177, (.iconst 0, (.inl (0 : Int32), (178, (0, []))))), (178, (.invokestatic 309, (sv_N, (181, (0, []))))), (181, (.iadd, (sv_N, (182, (0, []))))), (182, (.istore 7, (sv_N, (184, (0, []))))), (184, (.iinc 8 1, (.inl (1 : Int32), (187, (0, []))))), (187, (.goto (-71), (sv_N, (190, (116, []))))), (190, (.iload 4, (sv_N, (192, (0, []))))), (192, (.ifCond .lt 10, (sv_N, (195, (202, []))))), (195, (.iload 7, (sv_N, (197, (0, []))))), (197, (.iload 5, (sv_N, (199, (0, []))))), (199, (.if_icmp .ge 11, (sv_N, (202, (210, []))))), (202, (.iload 6, (sv_N, (204, (0, []))))), (204, (.istore 4, (sv_N, (206, (0, []))))), (206, (.iload 7, (sv_N, (208, (0, []))))), (208, (.istore 5, (sv_N, (210, (0, []))))), (210, (.iinc 6 1, (.inl (1 : Int32), (213, (0, []))))), (213, (.goto (-155), (sv_N, (216, (58, []))))), (216, (.iload 4, (sv_N, (218, (0, []))))), (218, (.ifCond .ge 8, (sv_N, (221, (226, []))))), (221, (.ldc 70, (sv_N, (223, (0, []))))), (223, (.goto 14, (sv_N, (226, (237, []))))), (226, (.iload_n 3, (sv_N, (227, (0, []))))), (227, (.ifCond .ne 8, (sv_N, (230, (235, []))))), (230, (.iload 4, (sv_N, (232, (0, []))))), (232, (.goto 5, (sv_N, (235, (237, []))))), (235, (.iload 5, (sv_N, (237, (0, []))))), (237, (.ireturn, (sv_N, (238, (0, [])))))]
noncomputable def ev_Mo_miscounted : sv_E := (fun i => sv_lk i fl_12, (fun i => sv_lk i kc_12, (fun _ => 0, (true, (fun pc => sv_lk pc [(1, (1, .inl n_Mo_isSheet)), (13, (3, .inl n_Mo_isIn)), (23, (3, .inl n_Mo_isIn)), (46, (1, .inr (.inl n_Mo_laysBy))), (77, (3, .inl n_Mo_of)), (93, (3, .inl n_Mo_of)), (98, (4, .inr (.inl n_Mo_sets))), (103, (2, .inr (.inl n_Mo_layFirsts))), (107, (1, .inr (.inl n_Mo_laysBack))), (178, (2, .inl n_Mo_off))], none)))))
noncomputable def kk_Mo_miscounted_202 (k58 : Int32 → Int32 → Int32 → Int32 → Int32 → Int32 → sv_S → Option (Int32 × sv_S)) : sv_K (Int32 × sv_S) := fun pc => sv_lk pc [(58, fun lo st σ => match lo, st with
    | [some (.inr (.inr (some (30, 0)))), some (.inl x1), some (.inl x2), some (.inl x3), some (.inl x4), some (.inl x5), some (.inl x6), _, _, _], [] => k58 x1 x2 x3 x4 x5 x6 σ
    | _, _ => none)]
set_option maxRecDepth 20000 in
theorem e_Mo_miscounted_202 (k58 : Int32 → Int32 → Int32 → Int32 → Int32 → Int32 → sv_S → Option (Int32 × sv_S)) (x1 : Int32) (x2 : Int32) (x3 : Int32) (x6 : Int32) (x7 : Int32) (z4 z5 z8 z9 : Option sv_V) (σ : sv_S) : sv_ex ev_Mo_miscounted sv_rI (kk_Mo_miscounted_202 k58) cd_Mo_miscounted 127 202 [some (.inr (.inr (some (30, 0)))), some (.inl x1), some (.inl x2), some (.inl x3), z4, z5, some (.inl x6), some (.inl x7), z8, z9] [] σ = f_Mo_miscounted_202 k58 x1 x2 x3 x6 x7 σ := by
  unfold f_Mo_miscounted_202
  delta ev_Mo_miscounted kk_Mo_miscounted_202 n_Mo_isSheet n_Mo_isIn n_Mo_laysBy n_Mo_of n_Mo_sets n_Mo_layFirsts n_Mo_laysBack n_Mo_off
  generalize f_Mo_isSheet = c0
  generalize f_Mo_isIn = c1
  generalize f_Mo_laysBy = c2
  generalize f_Mo_of = c3
  generalize f_Mo_sets = c4
  generalize f_Mo_layFirsts = c5
  generalize f_Mo_laysBack = c6
  generalize f_Mo_off = c7
  generalize f_Mo_miscounted_58 = c8
  rfl
noncomputable def kk_Mo_miscounted_178 (k58 : Int32 → Int32 → Int32 → Int32 → Int32 → Int32 → sv_S → Option (Int32 × sv_S)) (k116 : Int32 → Int32 → Int32 → Int32 → Int32 → Int32 → Int32 → Int32 → sv_S → Option (Int32 × sv_S)) : sv_K (Int32 × sv_S) := fun pc => sv_lk pc [(116, fun lo st σ => match lo, st with
    | [some (.inr (.inr (some (30, 0)))), some (.inl x1), some (.inl x2), some (.inl x3), some (.inl x4), some (.inl x5), some (.inl x6), some (.inl x7), some (.inl x8), _], [] => k116 x1 x2 x3 x4 x5 x6 x7 x8 σ
    | _, _ => none)]
set_option maxRecDepth 20000 in
theorem e_Mo_miscounted_178 (k58 : Int32 → Int32 → Int32 → Int32 → Int32 → Int32 → sv_S → Option (Int32 × sv_S)) (k116 : Int32 → Int32 → Int32 → Int32 → Int32 → Int32 → Int32 → Int32 → sv_S → Option (Int32 × sv_S)) (x1 : Int32) (x2 : Int32) (x3 : Int32) (x4 : Int32) (x5 : Int32) (x6 : Int32) (x8 : Int32) (y0 : Int32) (y1 : Int32) (y2 : Int32) (z7 z9 : Option sv_V) (σ : sv_S) : sv_ex ev_Mo_miscounted sv_rI (kk_Mo_miscounted_178 k58 k116) cd_Mo_miscounted 127 178 [some (.inr (.inr (some (30, 0)))), some (.inl x1), some (.inl x2), some (.inl x3), some (.inl x4), some (.inl x5), some (.inl x6), z7, some (.inl x8), z9] [.inl y0, .inl y1, .inl y2] σ = f_Mo_miscounted_178 k58 k116 x1 x2 x3 x4 x5 x6 x8 y0 y1 y2 σ := by
  unfold f_Mo_miscounted_178
  delta ev_Mo_miscounted kk_Mo_miscounted_178 n_Mo_isSheet n_Mo_isIn n_Mo_laysBy n_Mo_of n_Mo_sets n_Mo_layFirsts n_Mo_laysBack n_Mo_off
  generalize f_Mo_isSheet = c0
  generalize f_Mo_isIn = c1
  generalize f_Mo_laysBy = c2
  generalize f_Mo_of = c3
  generalize f_Mo_sets = c4
  generalize f_Mo_layFirsts = c5
  generalize f_Mo_laysBack = c6
  generalize f_Mo_off = c7
  generalize f_Mo_miscounted_116 = c8
  rfl
noncomputable def kk_Mo_miscounted_116 (k58 : Int32 → Int32 → Int32 → Int32 → Int32 → Int32 → sv_S → Option (Int32 × sv_S)) (n : Nat) : sv_K (Int32 × sv_S) := fun pc => sv_lk pc [(58, fun lo st σ => match lo, st with
    | [some (.inr (.inr (some (30, 0)))), some (.inl x1), some (.inl x2), some (.inl x3), some (.inl x4), some (.inl x5), some (.inl x6), _, _, _], [] => k58 x1 x2 x3 x4 x5 x6 σ
    | _, _ => none),
  (116, fun lo st σ => match lo, st with
    | [some (.inr (.inr (some (30, 0)))), some (.inl x1), some (.inl x2), some (.inl x3), some (.inl x4), some (.inl x5), some (.inl x6), some (.inl x7), some (.inl x8), _], [] => f_Mo_miscounted_116 k58 n x1 x2 x3 x4 x5 x6 x7 x8 σ
    | _, _ => none),
  (178, fun lo st σ => match lo, st with
    | [some (.inr (.inr (some (30, 0)))), some (.inl x1), some (.inl x2), some (.inl x3), some (.inl x4), some (.inl x5), some (.inl x6), _, some (.inl x8), _], [.inl y0, .inl y1, .inl y2] => f_Mo_miscounted_178 k58 (f_Mo_miscounted_116 k58 n) x1 x2 x3 x4 x5 x6 x8 y0 y1 y2 σ
    | _, _ => none),
  (202, fun lo st σ => match lo, st with
    | [some (.inr (.inr (some (30, 0)))), some (.inl x1), some (.inl x2), some (.inl x3), _, _, some (.inl x6), some (.inl x7), _, _], [] => f_Mo_miscounted_202 k58 x1 x2 x3 x6 x7 σ
    | _, _ => none)]
set_option maxRecDepth 20000 in
theorem e_Mo_miscounted_116 (k58 : Int32 → Int32 → Int32 → Int32 → Int32 → Int32 → sv_S → Option (Int32 × sv_S)) (n : Nat) (x1 : Int32) (x2 : Int32) (x3 : Int32) (x4 : Int32) (x5 : Int32) (x6 : Int32) (x7 : Int32) (x8 : Int32) (z9 : Option sv_V) (σ : sv_S) : sv_ex ev_Mo_miscounted sv_rI (kk_Mo_miscounted_116 k58 n) cd_Mo_miscounted 127 116 [some (.inr (.inr (some (30, 0)))), some (.inl x1), some (.inl x2), some (.inl x3), some (.inl x4), some (.inl x5), some (.inl x6), some (.inl x7), some (.inl x8), z9] [] σ = f_Mo_miscounted_116 k58 (n + 1) x1 x2 x3 x4 x5 x6 x7 x8 σ := by
  rw [f_Mo_miscounted_116.eq_2]
  delta ev_Mo_miscounted kk_Mo_miscounted_116 n_Mo_isSheet n_Mo_isIn n_Mo_laysBy n_Mo_of n_Mo_sets n_Mo_layFirsts n_Mo_laysBack n_Mo_off
  generalize f_Mo_isSheet = c0
  generalize f_Mo_isIn = c1
  generalize f_Mo_laysBy = c2
  generalize f_Mo_of = c3
  generalize f_Mo_sets = c4
  generalize f_Mo_layFirsts = c5
  generalize f_Mo_laysBack = c6
  generalize f_Mo_off = c7
  generalize f_Mo_miscounted_58 = c8
  generalize f_Mo_miscounted_116 = c9
  generalize f_Mo_miscounted_178 = c10
  generalize f_Mo_miscounted_202 = c11
  rfl
noncomputable def kk_Mo_miscounted_98 (k58 : Int32 → Int32 → Int32 → Int32 → Int32 → Int32 → sv_S → Option (Int32 × sv_S)) : sv_K (Int32 × sv_S) := fun pc => sv_lk pc [(116, fun lo st σ => match lo, st with
    | [some (.inr (.inr (some (30, 0)))), some (.inl x1), some (.inl x2), some (.inl x3), some (.inl x4), some (.inl x5), some (.inl x6), some (.inl x7), some (.inl x8), _], [] => f_Mo_miscounted_116 k58 sv_fu x1 x2 x3 x4 x5 x6 x7 x8 σ
    | _, _ => none)]
set_option maxRecDepth 20000 in
theorem e_Mo_miscounted_98 (k58 : Int32 → Int32 → Int32 → Int32 → Int32 → Int32 → sv_S → Option (Int32 × sv_S)) (x1 : Int32) (x2 : Int32) (x3 : Int32) (x4 : Int32) (x5 : Int32) (x6 : Int32) (y0 : Int32) (y1 : Int32) (y2 : Int32) (z7 z8 z9 : Option sv_V) (σ : sv_S) : sv_ex ev_Mo_miscounted sv_rI (kk_Mo_miscounted_98 k58) cd_Mo_miscounted 127 98 [some (.inr (.inr (some (30, 0)))), some (.inl x1), some (.inl x2), some (.inl x3), some (.inl x4), some (.inl x5), some (.inl x6), z7, z8, z9] [.inl y0, .inl y1, .inl y2, .inr (.inr (some (30, 0)))] σ = f_Mo_miscounted_98 k58 x1 x2 x3 x4 x5 x6 y0 y1 y2 σ := by
  unfold f_Mo_miscounted_98
  delta ev_Mo_miscounted kk_Mo_miscounted_98 n_Mo_isSheet n_Mo_isIn n_Mo_laysBy n_Mo_of n_Mo_sets n_Mo_layFirsts n_Mo_laysBack n_Mo_off
  generalize f_Mo_isSheet = c0
  generalize f_Mo_isIn = c1
  generalize f_Mo_laysBy = c2
  generalize f_Mo_of = c3
  generalize f_Mo_sets = c4
  generalize f_Mo_layFirsts = c5
  generalize f_Mo_laysBack = c6
  generalize f_Mo_off = c7
  generalize f_Mo_miscounted_116 = c8
  rfl
noncomputable def kk_Mo_miscounted_58 (n : Nat) : sv_K (Int32 × sv_S) := fun pc => sv_lk pc [(98, fun lo st σ => match lo, st with
    | [some (.inr (.inr (some (30, 0)))), some (.inl x1), some (.inl x2), some (.inl x3), some (.inl x4), some (.inl x5), some (.inl x6), _, _, _], [.inl y0, .inl y1, .inl y2, .inr (.inr (some (30, 0)))] => f_Mo_miscounted_98 (f_Mo_miscounted_58 n) x1 x2 x3 x4 x5 x6 y0 y1 y2 σ
    | _, _ => none)]
set_option maxRecDepth 20000 in
theorem e_Mo_miscounted_58 (n : Nat) (x1 : Int32) (x2 : Int32) (x3 : Int32) (x4 : Int32) (x5 : Int32) (x6 : Int32) (z7 z8 z9 : Option sv_V) (σ : sv_S) : sv_ex ev_Mo_miscounted sv_rI (kk_Mo_miscounted_58 n) cd_Mo_miscounted 127 58 [some (.inr (.inr (some (30, 0)))), some (.inl x1), some (.inl x2), some (.inl x3), some (.inl x4), some (.inl x5), some (.inl x6), z7, z8, z9] [] σ = f_Mo_miscounted_58 (n + 1) x1 x2 x3 x4 x5 x6 σ := by
  rw [f_Mo_miscounted_58.eq_2]
  delta ev_Mo_miscounted kk_Mo_miscounted_58 n_Mo_isSheet n_Mo_isIn n_Mo_laysBy n_Mo_of n_Mo_sets n_Mo_layFirsts n_Mo_laysBack n_Mo_off
  generalize f_Mo_isSheet = c0
  generalize f_Mo_isIn = c1
  generalize f_Mo_laysBy = c2
  generalize f_Mo_of = c3
  generalize f_Mo_sets = c4
  generalize f_Mo_layFirsts = c5
  generalize f_Mo_laysBack = c6
  generalize f_Mo_off = c7
  generalize f_Mo_miscounted_98 = c8
  generalize f_Mo_miscounted_58 = c9
  rfl
noncomputable def kk_Mo_miscounted : sv_K (Int32 × sv_S) := fun pc => sv_lk pc [(58, fun lo st σ => match lo, st with
    | [some (.inr (.inr (some (30, 0)))), some (.inl x1), some (.inl x2), some (.inl x3), some (.inl x4), some (.inl x5), some (.inl x6), _, _, _], [] => f_Mo_miscounted_58 sv_fu x1 x2 x3 x4 x5 x6 σ
    | _, _ => none)]
set_option maxRecDepth 20000 in
theorem e_Mo_miscounted (a1 : Int32) (a2 : Int32) (a3 : Int32) (σ : sv_S) : sv_ex ev_Mo_miscounted sv_rI kk_Mo_miscounted cd_Mo_miscounted 127 0 [some (.inr (.inr (some (30, 0)))), some (.inl a1), some (.inl a2), some (.inl a3), none, none, none, none, none, none] [] σ = f_Mo_miscounted a1 a2 a3 σ := by
  unfold f_Mo_miscounted
  delta ev_Mo_miscounted kk_Mo_miscounted n_Mo_isSheet n_Mo_isIn n_Mo_laysBy n_Mo_of n_Mo_sets n_Mo_layFirsts n_Mo_laysBack n_Mo_off
  generalize f_Mo_isSheet = c0
  generalize f_Mo_isIn = c1
  generalize f_Mo_laysBy = c2
  generalize f_Mo_of = c3
  generalize f_Mo_sets = c4
  generalize f_Mo_layFirsts = c5
  generalize f_Mo_laysBack = c6
  generalize f_Mo_off = c7
  generalize f_Mo_miscounted_58 = c8
  rfl
theorem d_Mo_miscounted : cd_Mo_miscounted.all (sv_dk cX12_miscounted) = true := by decide +kernel
set_option maxRecDepth 20000 in
theorem w_Mo_miscounted_202 {Γ : sv_Ga} {res : Int32 × sv_S} (X : sv_Ok Γ ev_Mo_miscounted cX12_miscounted sv_rI res) (k58 : Int32 → Int32 → Int32 → Int32 → Int32 → Int32 → sv_S → Option (Int32 × sv_S)) (h58 : ∀ (x1 : Int32) (x2 : Int32) (x3 : Int32) (x4 : Int32) (x5 : Int32) (x6 : Int32) (z7 z8 z9 : Option sv_V) (σ : sv_S), k58 x1 x2 x3 x4 x5 x6 σ = some res → sv_T Γ 58 [some (.inr (.inr (some (30, 0)))), some (.inl x1), some (.inl x2), some (.inl x3), some (.inl x4), some (.inl x5), some (.inl x6), z7, z8, z9] [] σ) : ∀ (x1 : Int32) (x2 : Int32) (x3 : Int32) (x6 : Int32) (x7 : Int32) (z4 z5 z8 z9 : Option sv_V) (σ : sv_S), f_Mo_miscounted_202 k58 x1 x2 x3 x6 x7 σ = some res → sv_T Γ 202 [some (.inr (.inr (some (30, 0)))), some (.inl x1), some (.inl x2), some (.inl x3), z4, z5, some (.inl x6), some (.inl x7), z8, z9] [] σ := by
  intro x1 x2 x3 x6 x7 z4 z5 z8 z9 σ h
  refine sv_run X d_Mo_miscounted (K := kk_Mo_miscounted_202 k58) (sv_lk_all (P := fun pc (k : sv_Lo → List sv_V → sv_S → Option (Int32 × sv_S)) => ∀ lo st σ, k lo st σ = some res → sv_T Γ pc lo st σ) ?_) _ _ _ _ _ ((e_Mo_miscounted_202 k58 x1 x2 x3 x6 x7 z4 z5 z8 z9 σ).trans h)
  clear h
  refine List.forall_mem_cons.mpr ⟨fun lo st σ h => ?_, fun _ h => absurd h List.not_mem_nil⟩
  · dsimp only at h
    split at h
    · exact h58 _ _ _ _ _ _ _ _ _ _ h
    · cases h

set_option maxRecDepth 20000 in
theorem w_Mo_miscounted_178 {Γ : sv_Ga} {res : Int32 × sv_S} (X : sv_Ok Γ ev_Mo_miscounted cX12_miscounted sv_rI res) (k58 : Int32 → Int32 → Int32 → Int32 → Int32 → Int32 → sv_S → Option (Int32 × sv_S)) (h58 : ∀ (x1 : Int32) (x2 : Int32) (x3 : Int32) (x4 : Int32) (x5 : Int32) (x6 : Int32) (z7 z8 z9 : Option sv_V) (σ : sv_S), k58 x1 x2 x3 x4 x5 x6 σ = some res → sv_T Γ 58 [some (.inr (.inr (some (30, 0)))), some (.inl x1), some (.inl x2), some (.inl x3), some (.inl x4), some (.inl x5), some (.inl x6), z7, z8, z9] [] σ) (k116 : Int32 → Int32 → Int32 → Int32 → Int32 → Int32 → Int32 → Int32 → sv_S → Option (Int32 × sv_S)) (h116 : ∀ (x1 : Int32) (x2 : Int32) (x3 : Int32) (x4 : Int32) (x5 : Int32) (x6 : Int32) (x7 : Int32) (x8 : Int32) (z9 : Option sv_V) (σ : sv_S), k116 x1 x2 x3 x4 x5 x6 x7 x8 σ = some res → sv_T Γ 116 [some (.inr (.inr (some (30, 0)))), some (.inl x1), some (.inl x2), some (.inl x3), some (.inl x4), some (.inl x5), some (.inl x6), some (.inl x7), some (.inl x8), z9] [] σ) : ∀ (x1 : Int32) (x2 : Int32) (x3 : Int32) (x4 : Int32) (x5 : Int32) (x6 : Int32) (x8 : Int32) (y0 : Int32) (y1 : Int32) (y2 : Int32) (z7 z9 : Option sv_V) (σ : sv_S), f_Mo_miscounted_178 k58 k116 x1 x2 x3 x4 x5 x6 x8 y0 y1 y2 σ = some res → sv_T Γ 178 [some (.inr (.inr (some (30, 0)))), some (.inl x1), some (.inl x2), some (.inl x3), some (.inl x4), some (.inl x5), some (.inl x6), z7, some (.inl x8), z9] [.inl y0, .inl y1, .inl y2] σ := by
  intro x1 x2 x3 x4 x5 x6 x8 y0 y1 y2 z7 z9 σ h
  refine sv_run X d_Mo_miscounted (K := kk_Mo_miscounted_178 k58 k116) (sv_lk_all (P := fun pc (k : sv_Lo → List sv_V → sv_S → Option (Int32 × sv_S)) => ∀ lo st σ, k lo st σ = some res → sv_T Γ pc lo st σ) ?_) _ _ _ _ _ ((e_Mo_miscounted_178 k58 k116 x1 x2 x3 x4 x5 x6 x8 y0 y1 y2 z7 z9 σ).trans h)
  clear h
  refine List.forall_mem_cons.mpr ⟨fun lo st σ h => ?_, fun _ h => absurd h List.not_mem_nil⟩
  · dsimp only at h
    split at h
    · exact h116 _ _ _ _ _ _ _ _ _ _ h
    · cases h

set_option maxRecDepth 20000 in
theorem w_Mo_miscounted_116 {Γ : sv_Ga} {res : Int32 × sv_S} (X : sv_Ok Γ ev_Mo_miscounted cX12_miscounted sv_rI res) (k58 : Int32 → Int32 → Int32 → Int32 → Int32 → Int32 → sv_S → Option (Int32 × sv_S)) (h58 : ∀ (x1 : Int32) (x2 : Int32) (x3 : Int32) (x4 : Int32) (x5 : Int32) (x6 : Int32) (z7 z8 z9 : Option sv_V) (σ : sv_S), k58 x1 x2 x3 x4 x5 x6 σ = some res → sv_T Γ 58 [some (.inr (.inr (some (30, 0)))), some (.inl x1), some (.inl x2), some (.inl x3), some (.inl x4), some (.inl x5), some (.inl x6), z7, z8, z9] [] σ) : ∀ (n : Nat) (x1 : Int32) (x2 : Int32) (x3 : Int32) (x4 : Int32) (x5 : Int32) (x6 : Int32) (x7 : Int32) (x8 : Int32) (z9 : Option sv_V) (σ : sv_S), f_Mo_miscounted_116 k58 n x1 x2 x3 x4 x5 x6 x7 x8 σ = some res → sv_T Γ 116 [some (.inr (.inr (some (30, 0)))), some (.inl x1), some (.inl x2), some (.inl x3), some (.inl x4), some (.inl x5), some (.inl x6), some (.inl x7), some (.inl x8), z9] [] σ := by
  intro n
  induction n with
  | zero =>
    intro x1 x2 x3 x4 x5 x6 x7 x8 z9 σ h
    rw [f_Mo_miscounted_116.eq_1] at h
    cases h
  | succ n ih =>
    intro x1 x2 x3 x4 x5 x6 x7 x8 z9 σ h
    refine sv_run X d_Mo_miscounted (K := kk_Mo_miscounted_116 k58 n) (sv_lk_all (P := fun pc (k : sv_Lo → List sv_V → sv_S → Option (Int32 × sv_S)) => ∀ lo st σ, k lo st σ = some res → sv_T Γ pc lo st σ) ?_) _ _ _ _ _ ((e_Mo_miscounted_116 k58 n x1 x2 x3 x4 x5 x6 x7 x8 z9 σ).trans h)
    clear h
    refine List.forall_mem_cons.mpr ⟨fun lo st σ h => ?_, List.forall_mem_cons.mpr ⟨fun lo st σ h => ?_, List.forall_mem_cons.mpr ⟨fun lo st σ h => ?_, List.forall_mem_cons.mpr ⟨fun lo st σ h => ?_, fun _ h => absurd h List.not_mem_nil⟩⟩⟩⟩
    · dsimp only at h
      split at h
      · exact h58 _ _ _ _ _ _ _ _ _ _ h
      · cases h
    · dsimp only at h
      split at h
      · exact ih _ _ _ _ _ _ _ _ _ _ h
      · cases h
    · dsimp only at h
      split at h
      · exact w_Mo_miscounted_178 X _ h58 _ ih _ _ _ _ _ _ _ _ _ _ _ _ _ h
      · cases h
    · dsimp only at h
      split at h
      · exact w_Mo_miscounted_202 X _ h58 _ _ _ _ _ _ _ _ _ _ h
      · cases h

set_option maxRecDepth 20000 in
theorem w_Mo_miscounted_98 {Γ : sv_Ga} {res : Int32 × sv_S} (X : sv_Ok Γ ev_Mo_miscounted cX12_miscounted sv_rI res) (k58 : Int32 → Int32 → Int32 → Int32 → Int32 → Int32 → sv_S → Option (Int32 × sv_S)) (h58 : ∀ (x1 : Int32) (x2 : Int32) (x3 : Int32) (x4 : Int32) (x5 : Int32) (x6 : Int32) (z7 z8 z9 : Option sv_V) (σ : sv_S), k58 x1 x2 x3 x4 x5 x6 σ = some res → sv_T Γ 58 [some (.inr (.inr (some (30, 0)))), some (.inl x1), some (.inl x2), some (.inl x3), some (.inl x4), some (.inl x5), some (.inl x6), z7, z8, z9] [] σ) : ∀ (x1 : Int32) (x2 : Int32) (x3 : Int32) (x4 : Int32) (x5 : Int32) (x6 : Int32) (y0 : Int32) (y1 : Int32) (y2 : Int32) (z7 z8 z9 : Option sv_V) (σ : sv_S), f_Mo_miscounted_98 k58 x1 x2 x3 x4 x5 x6 y0 y1 y2 σ = some res → sv_T Γ 98 [some (.inr (.inr (some (30, 0)))), some (.inl x1), some (.inl x2), some (.inl x3), some (.inl x4), some (.inl x5), some (.inl x6), z7, z8, z9] [.inl y0, .inl y1, .inl y2, .inr (.inr (some (30, 0)))] σ := by
  intro x1 x2 x3 x4 x5 x6 y0 y1 y2 z7 z8 z9 σ h
  refine sv_run X d_Mo_miscounted (K := kk_Mo_miscounted_98 k58) (sv_lk_all (P := fun pc (k : sv_Lo → List sv_V → sv_S → Option (Int32 × sv_S)) => ∀ lo st σ, k lo st σ = some res → sv_T Γ pc lo st σ) ?_) _ _ _ _ _ ((e_Mo_miscounted_98 k58 x1 x2 x3 x4 x5 x6 y0 y1 y2 z7 z8 z9 σ).trans h)
  clear h
  refine List.forall_mem_cons.mpr ⟨fun lo st σ h => ?_, fun _ h => absurd h List.not_mem_nil⟩
  · dsimp only at h
    split at h
    · exact w_Mo_miscounted_116 X _ h58 _ _ _ _ _ _ _ _ _ _ _ h
    · cases h

set_option maxRecDepth 20000 in
theorem w_Mo_miscounted_58 {Γ : sv_Ga} {res : Int32 × sv_S} (X : sv_Ok Γ ev_Mo_miscounted cX12_miscounted sv_rI res) : ∀ (n : Nat) (x1 : Int32) (x2 : Int32) (x3 : Int32) (x4 : Int32) (x5 : Int32) (x6 : Int32) (z7 z8 z9 : Option sv_V) (σ : sv_S), f_Mo_miscounted_58 n x1 x2 x3 x4 x5 x6 σ = some res → sv_T Γ 58 [some (.inr (.inr (some (30, 0)))), some (.inl x1), some (.inl x2), some (.inl x3), some (.inl x4), some (.inl x5), some (.inl x6), z7, z8, z9] [] σ := by
  intro n
  induction n with
  | zero =>
    intro x1 x2 x3 x4 x5 x6 z7 z8 z9 σ h
    rw [f_Mo_miscounted_58.eq_1] at h
    cases h
  | succ n ih =>
    intro x1 x2 x3 x4 x5 x6 z7 z8 z9 σ h
    refine sv_run X d_Mo_miscounted (K := kk_Mo_miscounted_58 n) (sv_lk_all (P := fun pc (k : sv_Lo → List sv_V → sv_S → Option (Int32 × sv_S)) => ∀ lo st σ, k lo st σ = some res → sv_T Γ pc lo st σ) ?_) _ _ _ _ _ ((e_Mo_miscounted_58 n x1 x2 x3 x4 x5 x6 z7 z8 z9 σ).trans h)
    clear h
    refine List.forall_mem_cons.mpr ⟨fun lo st σ h => ?_, fun _ h => absurd h List.not_mem_nil⟩
    · dsimp only at h
      split at h
      · exact w_Mo_miscounted_98 X _ ih _ _ _ _ _ _ _ _ _ _ _ _ _ h
      · cases h

set_option maxRecDepth 20000 in
theorem b_Mo_miscounted (Γ : sv_Ga) (res : Int32 × sv_S) (X : sv_Ok Γ ev_Mo_miscounted cX12_miscounted sv_rI res) (as : List sv_V) (σ : sv_S) (h : n_Mo_miscounted as σ = some res) : sv_T Γ 0 (sv_e0 10 as) [] σ := by
  unfold n_Mo_miscounted at h
  split at h
  · refine sv_run X d_Mo_miscounted (K := kk_Mo_miscounted) (sv_lk_all (P := fun pc (k : sv_Lo → List sv_V → sv_S → Option (Int32 × sv_S)) => ∀ lo st σ, k lo st σ = some res → sv_T Γ pc lo st σ) ?_) _ _ _ _ _ ((e_Mo_miscounted _ _ _ _).trans h)
    clear h
    refine List.forall_mem_cons.mpr ⟨fun lo st σ h => ?_, fun _ h => absurd h List.not_mem_nil⟩
    · dsimp only at h
      split at h
      · exact w_Mo_miscounted_58 X _ _ _ _ _ _ _ _ _ _ _ h
      · cases h
  · cases h
theorem a_Mo_miscounted (as : List sv_V) (σ : sv_S) (x : Int32 × sv_S) (h : n_Mo_miscounted as σ = some x) : sv_args 10 ev_Mo_miscounted.2.2.2.1 as := by
  unfold n_Mo_miscounted at h
  split at h
  · exact ⟨Nat.le_of_ble_eq_true rfl, fun _ v hv => by
      simp only [List.mem_cons, List.not_mem_nil, or_false] at hv
      rcases hv with rfl | rfl | rfl | rfl <;> trivial⟩
  · cases h
theorem g_Mo_miscounted (as : List sv_V) (σ : sv_S) (x : Option sv_V × sv_S) (h : sv_gI n_Mo_miscounted as σ = some x) : ∃ r i as', as = sv_R r i :: as' ∧ sv_kd r i = .inl 12 := by
  obtain ⟨_, _, h, -⟩ := sv_b_some h
  unfold n_Mo_miscounted at h
  split at h
  · exact ⟨_, _, _, rfl, rfl⟩
  · cases h
theorem tw_1434 : Cond.methodLink RX12 309 yX12_off ∈ gw_tbl := gw_at 1434 (by decide +kernel) rfl
theorem tw_1435 : Cond.static yX12_off ∈ gw_tbl := gw_at 1435 (by decide +kernel) rfl
theorem tw_1436 : Cond.code yX12_off cX12_off 2 (some .int) ∈ gw_tbl := gw_at 1436 (by decide +kernel) rfl
set_option maxRecDepth 20000 in
theorem m_Mo_miscounted (l : Launch) : sv_M l yX12_miscounted cX12_miscounted 10 (some .int) (sv_gI n_Mo_miscounted) 6 := by
  refine sv_mI (E := ev_Mo_miscounted) (by decide +kernel) (ln_gen fk_12 kk_12 (sv_ns _ (fun _ => rfl) _)) rfl ?_ a_Mo_miscounted b_Mo_miscounted
  intro p e R s m args below meth c cells slots Q base ad dC dI cA n0 S hkn hR hf pc n f hcs
  refine sv_lk_all (P := fun pc (x : Nat × sv_F) => sv_cok p l e R s m args below meth c cells slots Q base ad dC dI cA true 10 n0 pc x.1 x.2) ?_ pc (n, f) hcs
  exact List.forall_mem_cons.mpr ⟨(sv_cS S hkn (m_Mo_isSheet l) ⟨Nat.le_trans (by decide) hR.1, Nat.le_trans (by decide) hR.2⟩ (by decide) hf (sv_w4 tw_1409 tw_1410 tw_65 tw_1411) (by decide +kernel) (sv_dc3 d_Mo_miscounted (pc := 1) rfl rfl)).I,
      List.forall_mem_cons.mpr ⟨(sv_cS S hkn (m_Mo_isIn l) ⟨Nat.le_trans (by decide) hR.1, Nat.le_trans (by decide) hR.2⟩ (by decide) hf (sv_w4 tw_1098 tw_1099 tw_65 tw_1100) (by decide +kernel) (sv_dc3 d_Mo_miscounted (pc := 13) rfl rfl)).I,
      List.forall_mem_cons.mpr ⟨(sv_cS S hkn (m_Mo_isIn l) ⟨Nat.le_trans (by decide) hR.1, Nat.le_trans (by decide) hR.2⟩ (by decide) hf (sv_w4 tw_1098 tw_1099 tw_65 tw_1100) (by decide +kernel) (sv_dc3 d_Mo_miscounted (pc := 23) rfl rfl)).I,
      List.forall_mem_cons.mpr ⟨(sv_cV S hkn (m_Mo_laysBy l) ⟨Nat.le_trans (by decide) hR.1, Nat.le_trans (by decide) hR.2⟩ (by decide) hf rfl (g_Mo_laysBy) (sv_w5 tw_1244 tw_1246 tw_26 tw_65 tw_1247) (by decide +kernel) (sv_dc3 d_Mo_miscounted (pc := 46) rfl rfl)).V,
      List.forall_mem_cons.mpr ⟨(sv_cV S hkn (m_Mo_of l) ⟨Nat.le_trans (by decide) hR.1, Nat.le_trans (by decide) hR.2⟩ (by decide) hf rfl (g_Mo_of) (sv_w5 tw_1120 tw_1122 tw_10 tw_65 tw_1123) (by decide +kernel) (sv_dc3 d_Mo_miscounted (pc := 77) rfl rfl)).I,
      List.forall_mem_cons.mpr ⟨(sv_cV S hkn (m_Mo_of l) ⟨Nat.le_trans (by decide) hR.1, Nat.le_trans (by decide) hR.2⟩ (by decide) hf rfl (g_Mo_of) (sv_w5 tw_1120 tw_1122 tw_10 tw_65 tw_1123) (by decide +kernel) (sv_dc3 d_Mo_miscounted (pc := 93) rfl rfl)).I,
      List.forall_mem_cons.mpr ⟨(sv_cV S hkn (m_Mo_sets l) ⟨Nat.le_trans (by decide) hR.1, Nat.le_trans (by decide) hR.2⟩ (by decide) hf rfl (g_Mo_sets) (sv_w5 tw_1108 tw_1110 tw_8 tw_65 tw_1111) (by decide +kernel) (sv_dc3 d_Mo_miscounted (pc := 98) rfl rfl)).V,
      List.forall_mem_cons.mpr ⟨(sv_cV S hkn (m_Mo_layFirsts l) ⟨Nat.le_trans (by decide) hR.1, Nat.le_trans (by decide) hR.2⟩ (by decide) hf rfl (g_Mo_layFirsts) (sv_w5 tw_1271 tw_1273 tw_29 tw_65 tw_1274) (by decide +kernel) (sv_dc3 d_Mo_miscounted (pc := 103) rfl rfl)).V,
      List.forall_mem_cons.mpr ⟨(sv_cV S hkn (m_Mo_laysBack l) ⟨Nat.le_trans (by decide) hR.1, Nat.le_trans (by decide) hR.2⟩ (by decide) hf rfl (g_Mo_laysBack) (sv_w5 tw_1248 tw_1250 tw_27 tw_65 tw_1251) (by decide +kernel) (sv_dc3 d_Mo_miscounted (pc := 107) rfl rfl)).V,
      List.forall_mem_cons.mpr ⟨(sv_cS S hkn (m_Mo_off l) ⟨Nat.le_trans (by decide) hR.1, Nat.le_trans (by decide) hR.2⟩ (by decide) hf (sv_w4 tw_1434 tw_1435 tw_65 tw_1436) (by decide +kernel) (sv_dc3 d_Mo_miscounted (pc := 178) rfl rfl)).I,
      fun _ h => absurd h List.not_mem_nil⟩⟩⟩⟩⟩⟩⟩⟩⟩⟩
noncomputable def f_Mo_copy_150 : Nat → Int32 → Int32 → Int32 → Int32 → sv_S → Option (Int32 × sv_S)
  | 0, _, _, _, _, _ => none
  | n + 1, x3, x4, x5, x6, σ =>
    sv_if (x5 ≤ x6)
      (some (x5, σ))
      (sv_g (sv_in x6 24) (sv_g (sv_in ((((24 : Int32) * x3) + x4) + x6) 96) (f_Mo_copy_150 n x3 x4 x5 (x6 + (1 : Int32)) (sv_up σ 31 6 (((((24 : Int32) * x3) + x4) + x6).toNatClampNeg) (σ 31 30 (x6.toNatClampNeg))))))
noncomputable def f_Mo_copy_113 : Nat → Int32 → Int32 → Int32 → Int32 → Int32 → Int32 → sv_S → Option (Int32 × sv_S)
  | 0, _, _, _, _, _, _, _ => none
  | n + 1, x1, x2, x3, x4, x5, x6, σ =>
    sv_if (x5 ≤ x6)
      (f_Mo_copy_150 sv_fu x3 x4 x5 (0 : Int32) σ)
      (sv_g (sv_in ((((24 : Int32) * x1) + x2) + x6) 96) (sv_g (sv_in x6 24) (f_Mo_copy_113 n x1 x2 x3 x4 x5 (x6 + (1 : Int32)) (sv_up σ 31 30 (x6.toNatClampNeg) (σ 31 6 (((((24 : Int32) * x1) + x2) + x6).toNatClampNeg))))))
noncomputable def f_Mo_copy (a1 : Int32) (a2 : Int32) (a3 : Int32) (a4 : Int32) (a5 : Int32) (σ : sv_S) : Option (Int32 × sv_S) :=
  sv_b (f_Mo_isSheet a1 σ) (fun v1 σ2 =>
    sv_if (v1 = 0)
      (some ((-1000000001 : Int32), σ2))
      (sv_b (f_Mo_isSheet a3 σ2) (fun v3 σ4 =>
        sv_if (v3 = 0)
          (some ((-1000000001 : Int32), σ4))
          (sv_g (sv_in a1 4) (sv_if ((σ4 31 4 (a1.toNatClampNeg)) < 0)
            (some ((-1000000011 : Int32), σ4))
            (sv_g (sv_in a3 4) (sv_if (0 ≤ (σ4 31 4 (a3.toNatClampNeg)))
              (sv_g (sv_in a1 4) (sv_g (sv_in a3 4) (sv_if ((σ4 31 4 (a1.toNatClampNeg)) = (σ4 31 4 (a3.toNatClampNeg)))
                (sv_if (a2 < 0)
                  (some ((-1000000013 : Int32), σ4))
                  (sv_if (a4 < 0)
                    (some ((-1000000013 : Int32), σ4))
                    (sv_if (a5 < 0)
                      (some ((-1000000013 : Int32), σ4))
                      (sv_g (sv_in a1 4) (sv_if (0 < (lg_cmp ((a2.toInt64) + (a5.toInt64)) ((σ4 31 5 (a1.toNatClampNeg)).toInt64)))
                        (some ((-1000000013 : Int32), σ4))
                        (sv_g (sv_in a3 4) (sv_if ((lg_cmp ((a4.toInt64) + (a5.toInt64)) ((σ4 31 5 (a3.toNatClampNeg)).toInt64)) ≤ 0)
                          (f_Mo_copy_113 sv_fu a1 a2 a3 a4 a5 (0 : Int32) σ4)
                          (some ((-1000000013 : Int32), σ4)))))))))
                (some ((-1000000012 : Int32), σ4)))))
              (some ((-1000000011 : Int32), σ4)))))))))
noncomputable def n_Mo_copy : List sv_V → sv_S → Option (Int32 × sv_S)
  | [.inr (.inr (some (30, 0))), .inl a1, .inl a2, .inl a3, .inl a4, .inl a5], σ => f_Mo_copy a1 a2 a3 a4 a5 σ
  | _, _ => none
def cd_Mo_copy : sv_C := [(0, (.iload_n 1, (sv_N, (1, (0, []))))), (1, (.invokestatic 297, (sv_N, (4, (0, []))))), (4, (.ifCond .eq 10, (sv_N, (7, (14, []))))), (7, (.iload_n 3, (sv_N, (8, (0, []))))), (8, (.invokestatic 297, (sv_N, (11, (0, []))))), (11, (.ifCond .ne 6, (sv_N, (14, (17, []))))), (14, (.ldc 84, (sv_N, (16, (0, []))))), (16, (.ireturn, (sv_N, (17, (0, []))))), (17, (.aload_n 0, (sv_N, (18, (0, []))))), (18, (.getfield 19, (sv_N, (21, (0, []))))), (21, (.iload_n 1, (sv_N, (22, (0, []))))), (22, (.iaload, (sv_N, (23, (0, []))))), (23, (.ifCond .lt 12, (sv_N, (26, (35, []))))), (26, (.aload_n 0, (sv_N, (27, (0, []))))), (27, (.getfield 19, (sv_N, (30, (0, []))))), (30, (.iload_n 3, (sv_N, (31, (0, []))))), (31, (.iaload, (sv_N, (32, (0, []))))), (32, (.ifCond .ge 7, (sv_N, (35, (39, []))))), (35, (.ldc_w 303, (sv_N, (38, (0, []))))), (38, (.ireturn, (sv_N, (39, (0, []))))), (39, (.aload_n 0, (sv_N, (40, (0, []))))), (40, (.getfield 19, (sv_N, (43, (0, []))))), (43, (.iload_n 1, (sv_N, (44, (0, []))))), (44, (.iaload, (sv_N, (45, (0, []))))), (45, (.aload_n 0, (sv_N, (46, (0, []))))), (46, (.getfield 19, (sv_N, (49, (0, []))))), (49, (.iload_n 3, (sv_N, (50, (0, []))))), (50, (.iaload, (sv_N, (51, (0, []))))), (51, (.if_icmp .eq 6, (sv_N, (54, (57, []))))), (54, (.ldc 133, (sv_N, (56, (0, []))))), (56, (.ireturn, (sv_N, (57, (0, []))))), (57, (.iload_n 2, (sv_N, (58, (0, []))))), (58, (.ifCond .lt 48, (sv_N, (61, (106, []))))), (61, (.iload 4, (sv_N, (63, (0, []))))), (63, (.ifCond .lt 43, (sv_N, (66, (106, []))))), (66, (.iload 5, (sv_N, (68, (0, []))))), (68, (.ifCond .lt 38, (sv_N, (71, (106, []))))), (71, (.iload_n 2, (sv_N, (72, (0, []))))), (72, (.i2l, (sv_N, (73, (0, []))))), (73, (.iload 5, (sv_N, (75, (0, []))))), (75, (.i2l, (sv_N, (76, (0, []))))), (76, (.ladd, (sv_N, (77, (0, []))))), (77, (.aload_n 0, (sv_N, (78, (0, []))))), (78, (.getfield 22, (sv_N, (81, (0, []))))), (81, (.iload_n 1, (sv_N, (82, (0, []))))), (82, (.iaload, (sv_N, (83, (0, []))))), (83, (.i2l, (sv_N, (84, (0, []))))), (84, (.lcmp, (sv_N, (85, (0, []))))), (85, (.ifCond .gt 21, (sv_N, (88, (106, []))))), (88, (.iload 4, (sv_N, (90, (0, []))))), (90, (.i2l, (sv_N, (91, (0, []))))), (91, (.iload 5, (sv_N, (93, (0, []))))), (93, (.i2l, (sv_N, (94, (0, []))))), (94, (.ladd, (sv_N, (95, (0, []))))), (95, (.aload_n 0, (sv_N, (96, (0, []))))), (96, (.getfield 22, (sv_N, (99, (0, []))))), (99, (.iload_n 3, (sv_N, (100, (0, []))))), (100, (.iaload, (sv_N, (101, (0, []))))), (101, (.i2l, (sv_N, (102, (0, []))))), (102, (.lcmp, (sv_N, (103, (0, []))))), (103, (.ifCond .le 7, (sv_N, (106, (110, []))))), (106, (.ldc_w 304, (sv_N, (109, (0, []))))), (109, (.ireturn, (sv_N, (110, (0, []))))), (110, (.iconst 0, (.inl (0 : Int32), (111, (0, []))))), (111, (.istore 6, (sv_N, (113, (0, []))))), (113, (.iload 6, (sv_N, (115, (0, []))))), (115, (.iload 5, (sv_N, (117, (0, []))))), (117, (.if_icmp .ge 30, (sv_N, (120, (147, []))))), (120, (.aload_n 0, (sv_N, (121, (0, []))))), (121, (.getfield 61, (sv_N, (124, (0, []))))), (124, (.iload 6, (sv_N, (126, (0, []))))), (126, (.aload_n 0, (sv_N, (127, (0, []))))), (127, (.getfield 25, (sv_N, (130, (0, []))))), (130, (.bipush 24, (.inl (24 : Int32), (132, (0, []))))), (132, (.iload_n 1, (sv_N, (133, (0, []))))), (133, (.imul, (sv_N, (134, (0, []))))), (134, (.iload_n 2, (sv_N, (135, (0, []))))), (135, (.iadd, (sv_N, (136, (0, []))))), (136, (.iload 6, (sv_N, (138, (0, []))))), (138, (.iadd, (sv_N, (139, (0, []))))), (139, (.iaload, (sv_N, (140, (0, []))))), (140, (.iastore, (sv_N, (141, (0, []))))), (141, (.iinc 6 1, (.inl (1 : Int32), (144, (0, []))))), (144, (.goto (-31), (sv_N, (147, (113, []))))), (147, (.iconst 0, (.inl (0 : Int32), (148, (0, []))))), (148, (.istore 6, (sv_N, (150, (0, []))))), (150, (.iload 6, (sv_N, (152, (0, []))))), (152, (.iload 5, (sv_N, (154, (0, []))))), (154, (.if_icmp .ge 31, (sv_N, (157, (185, []))))), (157, (.aload_n 0, (sv_N, (158, (0, []))))), (158, (.getfield 25, (sv_N, (161, (0, []))))), (161, (.bipush 24, (.inl (24 : Int32), (163, (0, []))))), (163, (.iload_n 3, (sv_N, (164, (0, []))))), (164, (.imul, (sv_N, (165, (0, []))))), (165, (.iload 4, (sv_N, (167, (0, []))))), (167, (.iadd, (sv_N, (168, (0, []))))), (168, (.iload 6, (sv_N, (170, (0, []))))), (170, (.iadd, (sv_N, (171, (0, []))))), (171, (.aload_n 0, (sv_N, (172, (0, []))))), (172, (.getfield 61, (sv_N, (175, (0, []))))), (175, (.iload 6, (sv_N, (177, (0, []))))), (177, (.iaload, (sv_N, (178, (0, []))))), (178, (.iastore, (sv_N, (179, (0, []))))), (179, (.iinc 6 1, (.inl (1 : Int32), (182, (0, []))))), (182, (.goto (-32), (sv_N, (185, (150, []))))), (185, (.iload 5, (sv_N, (187, (0, []))))), (187, (.ireturn, (sv_N, (188, (0, [])))))]
noncomputable def ev_Mo_copy : sv_E := (fun i => sv_lk i fl_12, (fun i => sv_lk i kc_12, (fun _ => 0, (true, (fun pc => sv_lk pc [(1, (1, .inl n_Mo_isSheet)), (8, (1, .inl n_Mo_isSheet))], none)))))
noncomputable def kk_Mo_copy_150 (n : Nat) : sv_K (Int32 × sv_S) := fun pc => sv_lk pc [(150, fun lo st σ => match lo, st with
    | [some (.inr (.inr (some (30, 0)))), _, _, some (.inl x3), some (.inl x4), some (.inl x5), some (.inl x6)], [] => f_Mo_copy_150 n x3 x4 x5 x6 σ
    | _, _ => none)]
set_option maxRecDepth 20000 in
theorem e_Mo_copy_150 (n : Nat) (x3 : Int32) (x4 : Int32) (x5 : Int32) (x6 : Int32) (z1 z2 : Option sv_V) (σ : sv_S) : sv_ex ev_Mo_copy sv_rI (kk_Mo_copy_150 n) cd_Mo_copy 109 150 [some (.inr (.inr (some (30, 0)))), z1, z2, some (.inl x3), some (.inl x4), some (.inl x5), some (.inl x6)] [] σ = f_Mo_copy_150 (n + 1) x3 x4 x5 x6 σ := by
  rw [f_Mo_copy_150.eq_2]
  delta ev_Mo_copy kk_Mo_copy_150 n_Mo_isSheet
  generalize f_Mo_isSheet = c0
  generalize f_Mo_copy_150 = c1
  rfl
noncomputable def kk_Mo_copy_113 (n : Nat) : sv_K (Int32 × sv_S) := fun pc => sv_lk pc [(113, fun lo st σ => match lo, st with
    | [some (.inr (.inr (some (30, 0)))), some (.inl x1), some (.inl x2), some (.inl x3), some (.inl x4), some (.inl x5), some (.inl x6)], [] => f_Mo_copy_113 n x1 x2 x3 x4 x5 x6 σ
    | _, _ => none),
  (150, fun lo st σ => match lo, st with
    | [some (.inr (.inr (some (30, 0)))), _, _, some (.inl x3), some (.inl x4), some (.inl x5), some (.inl x6)], [] => f_Mo_copy_150 sv_fu x3 x4 x5 x6 σ
    | _, _ => none)]
set_option maxRecDepth 20000 in
theorem e_Mo_copy_113 (n : Nat) (x1 : Int32) (x2 : Int32) (x3 : Int32) (x4 : Int32) (x5 : Int32) (x6 : Int32) (σ : sv_S) : sv_ex ev_Mo_copy sv_rI (kk_Mo_copy_113 n) cd_Mo_copy 109 113 [some (.inr (.inr (some (30, 0)))), some (.inl x1), some (.inl x2), some (.inl x3), some (.inl x4), some (.inl x5), some (.inl x6)] [] σ = f_Mo_copy_113 (n + 1) x1 x2 x3 x4 x5 x6 σ := by
  rw [f_Mo_copy_113.eq_2]
  delta ev_Mo_copy kk_Mo_copy_113 n_Mo_isSheet
  generalize f_Mo_isSheet = c0
  generalize f_Mo_copy_113 = c1
  generalize f_Mo_copy_150 = c2
  rfl
noncomputable def kk_Mo_copy : sv_K (Int32 × sv_S) := fun pc => sv_lk pc [(113, fun lo st σ => match lo, st with
    | [some (.inr (.inr (some (30, 0)))), some (.inl x1), some (.inl x2), some (.inl x3), some (.inl x4), some (.inl x5), some (.inl x6)], [] => f_Mo_copy_113 sv_fu x1 x2 x3 x4 x5 x6 σ
    | _, _ => none)]
set_option maxRecDepth 20000 in
theorem e_Mo_copy (a1 : Int32) (a2 : Int32) (a3 : Int32) (a4 : Int32) (a5 : Int32) (σ : sv_S) : sv_ex ev_Mo_copy sv_rI kk_Mo_copy cd_Mo_copy 109 0 [some (.inr (.inr (some (30, 0)))), some (.inl a1), some (.inl a2), some (.inl a3), some (.inl a4), some (.inl a5), none] [] σ = f_Mo_copy a1 a2 a3 a4 a5 σ := by
  unfold f_Mo_copy
  delta ev_Mo_copy kk_Mo_copy n_Mo_isSheet
  generalize f_Mo_isSheet = c0
  generalize f_Mo_copy_113 = c1
  rfl
theorem d_Mo_copy : cd_Mo_copy.all (sv_dk cX12_copy) = true := by decide +kernel
set_option maxRecDepth 20000 in
theorem w_Mo_copy_150 {Γ : sv_Ga} {res : Int32 × sv_S} (X : sv_Ok Γ ev_Mo_copy cX12_copy sv_rI res) : ∀ (n : Nat) (x3 : Int32) (x4 : Int32) (x5 : Int32) (x6 : Int32) (z1 z2 : Option sv_V) (σ : sv_S), f_Mo_copy_150 n x3 x4 x5 x6 σ = some res → sv_T Γ 150 [some (.inr (.inr (some (30, 0)))), z1, z2, some (.inl x3), some (.inl x4), some (.inl x5), some (.inl x6)] [] σ := by
  intro n
  induction n with
  | zero =>
    intro x3 x4 x5 x6 z1 z2 σ h
    rw [f_Mo_copy_150.eq_1] at h
    cases h
  | succ n ih =>
    intro x3 x4 x5 x6 z1 z2 σ h
    refine sv_run X d_Mo_copy (K := kk_Mo_copy_150 n) (sv_lk_all (P := fun pc (k : sv_Lo → List sv_V → sv_S → Option (Int32 × sv_S)) => ∀ lo st σ, k lo st σ = some res → sv_T Γ pc lo st σ) ?_) _ _ _ _ _ ((e_Mo_copy_150 n x3 x4 x5 x6 z1 z2 σ).trans h)
    clear h
    refine List.forall_mem_cons.mpr ⟨fun lo st σ h => ?_, fun _ h => absurd h List.not_mem_nil⟩
    · dsimp only at h
      split at h
      · exact ih _ _ _ _ _ _ _ h
      · cases h

set_option maxRecDepth 20000 in
theorem w_Mo_copy_113 {Γ : sv_Ga} {res : Int32 × sv_S} (X : sv_Ok Γ ev_Mo_copy cX12_copy sv_rI res) : ∀ (n : Nat) (x1 : Int32) (x2 : Int32) (x3 : Int32) (x4 : Int32) (x5 : Int32) (x6 : Int32) (σ : sv_S), f_Mo_copy_113 n x1 x2 x3 x4 x5 x6 σ = some res → sv_T Γ 113 [some (.inr (.inr (some (30, 0)))), some (.inl x1), some (.inl x2), some (.inl x3), some (.inl x4), some (.inl x5), some (.inl x6)] [] σ := by
  intro n
  induction n with
  | zero =>
    intro x1 x2 x3 x4 x5 x6 σ h
    rw [f_Mo_copy_113.eq_1] at h
    cases h
  | succ n ih =>
    intro x1 x2 x3 x4 x5 x6 σ h
    refine sv_run X d_Mo_copy (K := kk_Mo_copy_113 n) (sv_lk_all (P := fun pc (k : sv_Lo → List sv_V → sv_S → Option (Int32 × sv_S)) => ∀ lo st σ, k lo st σ = some res → sv_T Γ pc lo st σ) ?_) _ _ _ _ _ ((e_Mo_copy_113 n x1 x2 x3 x4 x5 x6 σ).trans h)
    clear h
    refine List.forall_mem_cons.mpr ⟨fun lo st σ h => ?_, List.forall_mem_cons.mpr ⟨fun lo st σ h => ?_, fun _ h => absurd h List.not_mem_nil⟩⟩
    · dsimp only at h
      split at h
      · exact ih _ _ _ _ _ _ _ h
      · cases h
    · dsimp only at h
      split at h
      · exact w_Mo_copy_150 X _ _ _ _ _ _ _ _ h
      · cases h

set_option maxRecDepth 20000 in
theorem b_Mo_copy (Γ : sv_Ga) (res : Int32 × sv_S) (X : sv_Ok Γ ev_Mo_copy cX12_copy sv_rI res) (as : List sv_V) (σ : sv_S) (h : n_Mo_copy as σ = some res) : sv_T Γ 0 (sv_e0 7 as) [] σ := by
  unfold n_Mo_copy at h
  split at h
  · refine sv_run X d_Mo_copy (K := kk_Mo_copy) (sv_lk_all (P := fun pc (k : sv_Lo → List sv_V → sv_S → Option (Int32 × sv_S)) => ∀ lo st σ, k lo st σ = some res → sv_T Γ pc lo st σ) ?_) _ _ _ _ _ ((e_Mo_copy _ _ _ _ _ _).trans h)
    clear h
    refine List.forall_mem_cons.mpr ⟨fun lo st σ h => ?_, fun _ h => absurd h List.not_mem_nil⟩
    · dsimp only at h
      split at h
      · exact w_Mo_copy_113 X _ _ _ _ _ _ _ _ h
      · cases h
  · cases h
theorem a_Mo_copy (as : List sv_V) (σ : sv_S) (x : Int32 × sv_S) (h : n_Mo_copy as σ = some x) : sv_args 7 ev_Mo_copy.2.2.2.1 as := by
  unfold n_Mo_copy at h
  split at h
  · exact ⟨Nat.le_of_ble_eq_true rfl, fun _ v hv => by
      simp only [List.mem_cons, List.not_mem_nil, or_false] at hv
      rcases hv with rfl | rfl | rfl | rfl | rfl | rfl <;> trivial⟩
  · cases h
theorem g_Mo_copy (as : List sv_V) (σ : sv_S) (x : Option sv_V × sv_S) (h : sv_gI n_Mo_copy as σ = some x) : ∃ r i as', as = sv_R r i :: as' ∧ sv_kd r i = .inl 12 := by
  obtain ⟨_, _, h, -⟩ := sv_b_some h
  unfold n_Mo_copy at h
  split at h
  · exact ⟨_, _, _, rfl, rfl⟩
  · cases h

set_option maxRecDepth 20000 in
theorem m_Mo_copy (l : Launch) : sv_M l yX12_copy cX12_copy 7 (some .int) (sv_gI n_Mo_copy) 2 := by
  refine sv_mI (E := ev_Mo_copy) (by decide +kernel) (ln_gen fk_12 kk_12 (sv_ns _ (fun _ => rfl) _)) rfl ?_ a_Mo_copy b_Mo_copy
  intro p e R s m args below meth c cells slots Q base ad dC dI cA n0 S hkn hR hf pc n f hcs
  refine sv_lk_all (P := fun pc (x : Nat × sv_F) => sv_cok p l e R s m args below meth c cells slots Q base ad dC dI cA true 7 n0 pc x.1 x.2) ?_ pc (n, f) hcs
  exact List.forall_mem_cons.mpr ⟨(sv_cS S hkn (m_Mo_isSheet l) ⟨Nat.le_trans (by decide) hR.1, Nat.le_trans (by decide) hR.2⟩ (by decide) hf (sv_w4 tw_1409 tw_1410 tw_65 tw_1411) (by decide +kernel) (sv_dc3 d_Mo_copy (pc := 1) rfl rfl)).I,
      List.forall_mem_cons.mpr ⟨(sv_cS S hkn (m_Mo_isSheet l) ⟨Nat.le_trans (by decide) hR.1, Nat.le_trans (by decide) hR.2⟩ (by decide) hf (sv_w4 tw_1409 tw_1410 tw_65 tw_1411) (by decide +kernel) (sv_dc3 d_Mo_copy (pc := 8) rfl rfl)).I,
      fun _ h => absurd h List.not_mem_nil⟩⟩
noncomputable def f_Mo_isSlot (a0 : Int32) (σ : sv_S) : Option (Int32 × sv_S) :=
  sv_b (f_Mo_isIn (a0.toInt64) (0 : Int64) (4 : Int64) σ) (fun v1 σ2 =>
    sv_g (v1 = 0 ∨ v1 = 1) (some (v1, σ2)))
noncomputable def n_Mo_isSlot : List sv_V → sv_S → Option (Int32 × sv_S)
  | [.inl a0], σ => f_Mo_isSlot a0 σ
  | _, _ => none
def cd_Mo_isSlot : sv_C := [(0, (.iload_n 0, (sv_N, (1, (0, []))))), (1, (.i2l, (sv_N, (2, (0, []))))), (2, (.lconst 0, (.inr (.inl (0 : Int64)), (3, (0, []))))), (3, (.ldc2_w 312, (sv_N, (6, (0, []))))), (6, (.invokestatic 71, (sv_N, (9, (0, []))))), (9, (.ireturn, (sv_N, (10, (0, [])))))]
noncomputable def ev_Mo_isSlot : sv_E := (fun i => sv_lk i fl_12, (fun i => sv_lk i kc_12, (fun _ => 0, (true, (fun pc => sv_lk pc [(6, (3, .inl n_Mo_isIn))], none)))))
noncomputable def kk_Mo_isSlot : sv_K (Int32 × sv_S) := fun pc => sv_lk pc []
set_option maxRecDepth 20000 in
theorem e_Mo_isSlot (a0 : Int32) (σ : sv_S) : sv_ex ev_Mo_isSlot sv_rZ kk_Mo_isSlot cd_Mo_isSlot 8 0 [some (.inl a0)] [] σ = f_Mo_isSlot a0 σ := by
  unfold f_Mo_isSlot
  delta ev_Mo_isSlot kk_Mo_isSlot n_Mo_isIn
  generalize f_Mo_isIn = c0
  rfl
theorem d_Mo_isSlot : cd_Mo_isSlot.all (sv_dk cX12_isSlot) = true := by decide +kernel
set_option maxRecDepth 20000 in
theorem b_Mo_isSlot (Γ : sv_Ga) (res : Int32 × sv_S) (X : sv_Ok Γ ev_Mo_isSlot cX12_isSlot sv_rZ res) (as : List sv_V) (σ : sv_S) (h : n_Mo_isSlot as σ = some res) : sv_T Γ 0 (sv_e0 1 as) [] σ := by
  unfold n_Mo_isSlot at h
  split at h
  · refine sv_run X d_Mo_isSlot (K := kk_Mo_isSlot) (sv_lk_all (P := fun pc (k : sv_Lo → List sv_V → sv_S → Option (Int32 × sv_S)) => ∀ lo st σ, k lo st σ = some res → sv_T Γ pc lo st σ) ?_) _ _ _ _ _ ((e_Mo_isSlot _ _).trans h)
    clear h
    exact fun _ h => absurd h List.not_mem_nil
  · cases h
theorem a_Mo_isSlot (as : List sv_V) (σ : sv_S) (x : Int32 × sv_S) (h : n_Mo_isSlot as σ = some x) : sv_args 1 ev_Mo_isSlot.2.2.2.1 as := by
  unfold n_Mo_isSlot at h
  split at h
  · exact ⟨Nat.le_of_ble_eq_true rfl, fun _ v hv => by
      simp only [List.mem_cons, List.not_mem_nil, or_false] at hv
      rcases hv with rfl <;> trivial⟩
  · cases h

set_option maxRecDepth 20000 in
theorem m_Mo_isSlot (l : Launch) : sv_M l yX12_isSlot cX12_isSlot 1 (some .boolean) (sv_gI n_Mo_isSlot) 1 := by
  refine sv_mZ (E := ev_Mo_isSlot) (by decide +kernel) (ln_gen fk_12 kk_12 (sv_ns _ (fun _ => rfl) _)) rfl ?_ a_Mo_isSlot b_Mo_isSlot
  intro p e R s m args below meth c cells slots Q base ad dC dI cA n0 S hkn hR hf pc n f hcs
  refine sv_lk_all (P := fun pc (x : Nat × sv_F) => sv_cok p l e R s m args below meth c cells slots Q base ad dC dI cA true 1 n0 pc x.1 x.2) ?_ pc (n, f) hcs
  exact List.forall_mem_cons.mpr ⟨(sv_cS S hkn (m_Mo_isIn l) ⟨Nat.le_trans (by decide) hR.1, Nat.le_trans (by decide) hR.2⟩ (by decide) hf (sv_w4 tw_1098 tw_1099 tw_65 tw_1100) (by decide +kernel) (sv_dc3 d_Mo_isSlot (pc := 6) rfl rfl)).I,
      fun _ h => absurd h List.not_mem_nil⟩
noncomputable def f_Mo_lay_150 : Nat → Int32 → Int32 → Int32 → Int32 → sv_S → Option (Int32 × sv_S)
  | 0, _, _, _, _, _ => none
  | n + 1, x1, x3, x5, x6, σ =>
    sv_if ((24 : Int32) ≤ x6)
      (some (x5, σ))
      (sv_g (sv_in (((24 : Int32) * x3) + x6) 96) (sv_g (sv_in (((24 : Int32) * x1) + x6) 120) (f_Mo_lay_150 n x1 x3 x5 (x6 + (1 : Int32)) (sv_up σ 31 11 ((((24 : Int32) * x1) + x6).toNatClampNeg) (σ 31 6 ((((24 : Int32) * x3) + x6).toNatClampNeg))))))
noncomputable def f_Mo_lay_129 (x1 : Int32) (x2 : Int32) (x3 : Int32) (x5 : Int32) (y0 : Int32) (y1 : Int32) (y2 : Nat) (σ : sv_S) : Option (Int32 × sv_S) :=
    sv_g (sv_in y1 (sv_ml y2)) (sv_if (x2 = (2 : Int32))
      (sv_g (sv_in x3 4) (sv_g (sv_in x1 5) (f_Mo_lay_150 sv_fu x1 x3 x5 (0 : Int32) (sv_up (sv_up σ 31 y2 (y1.toNatClampNeg) y0) 31 10 (x1.toNatClampNeg) ((sv_up σ 31 y2 (y1.toNatClampNeg) y0) 31 5 (x3.toNatClampNeg))))))
      (some (x5, sv_up σ 31 y2 (y1.toNatClampNeg) y0)))
noncomputable def f_Mo_lay_109 (x1 : Int32) (x2 : Int32) (x3 : Int32) (x5 : Int32) (y0 : Int32) (y1 : Int32) (y2 : Nat) (σ : sv_S) : Option (Int32 × sv_S) :=
    sv_g (sv_in y1 (sv_ml y2)) (sv_if (x2 = (1 : Int32))
      (sv_b (f_Mo_worth x3 (sv_up σ 31 y2 (y1.toNatClampNeg) y0)) (fun v1 σ2 =>
        f_Mo_lay_129 x1 x2 x3 x5 v1 x1 9 σ2))
      (f_Mo_lay_129 x1 x2 x3 x5 (0 : Int32) x1 9 (sv_up σ 31 y2 (y1.toNatClampNeg) y0)))
noncomputable def f_Mo_lay_74 (x1 : Int32) (x2 : Int32) (x3 : Int32) (σ : sv_S) : Option (Int32 × sv_S) :=
    sv_g (sv_in x1 5) (sv_g (sv_in x1 5) (sv_if (x2 = (1 : Int32))
      (sv_b (f_Mo_of x3 (0 : Int32) (sv_up σ 31 7 (x1.toNatClampNeg) x2)) (fun v1 σ2 =>
        f_Mo_lay_109 x1 x2 x3 (σ 31 7 (x1.toNatClampNeg)) v1 x1 8 σ2))
      (f_Mo_lay_109 x1 x2 x3 (σ 31 7 (x1.toNatClampNeg)) x3 x1 8 (sv_up σ 31 7 (x1.toNatClampNeg) x2))))
noncomputable def f_Mo_lay_39 (x1 : Int32) (x2 : Int32) (x3 : Int32) (y0 : Int32) (σ : sv_S) : Option (Int32 × sv_S) :=
    sv_b (f_Mo_isSlot x1 σ) (fun v1 σ2 =>
      sv_if (v1 = 0)
        (some ((-1000000001 : Int32), σ2))
        (sv_if (y0 = 0)
          (some ((-1000000001 : Int32), σ2))
          (sv_if (x2 = (2 : Int32))
            (sv_g (sv_in x3 4) (sv_if (0 ≤ (σ2 31 4 (x3.toNatClampNeg)))
              (f_Mo_lay_74 x1 x2 x3 σ2)
              (some ((-1000000011 : Int32), σ2))))
            (f_Mo_lay_74 x1 x2 x3 σ2))))
noncomputable def f_Mo_lay_22 (x1 : Int32) (x2 : Int32) (x3 : Int32) (σ : sv_S) : Option (Int32 × sv_S) :=
    sv_if (x2 = (2 : Int32))
      (sv_b (f_Mo_isSheet x3 σ) (fun v1 σ2 =>
        sv_if (v1 = 0)
          (f_Mo_lay_39 x1 x2 x3 (0 : Int32) σ2)
          (f_Mo_lay_39 x1 x2 x3 (1 : Int32) σ2)))
      (f_Mo_lay_39 x1 x2 x3 (0 : Int32) σ)
noncomputable def f_Mo_lay (a1 : Int32) (a2 : Int32) (a3 : Int32) (σ : sv_S) : Option (Int32 × sv_S) :=
  sv_if (a2 = 0)
    (f_Mo_lay_39 a1 a2 a3 (1 : Int32) σ)
    (sv_if (a2 = (3 : Int32))
      (f_Mo_lay_39 a1 a2 a3 (1 : Int32) σ)
      (sv_if (a2 = (1 : Int32))
        (sv_b (f_Mo_isDrummer a3 σ) (fun v1 σ2 =>
          sv_if (v1 = 0)
            (f_Mo_lay_22 a1 a2 a3 σ2)
            (f_Mo_lay_39 a1 a2 a3 (1 : Int32) σ2)))
        (f_Mo_lay_22 a1 a2 a3 σ)))
noncomputable def n_Mo_lay : List sv_V → sv_S → Option (Int32 × sv_S)
  | [.inr (.inr (some (30, 0))), .inl a1, .inl a2, .inl a3], σ => f_Mo_lay a1 a2 a3 σ
  | _, _ => none
def cd_Mo_lay : sv_C := [(0, (.iload_n 2, (sv_N, (1, (0, []))))), (1, (.ifCond .eq 33, (sv_N, (4, (34, []))))), (4, (.iload_n 2, (sv_N, (5, (0, []))))), (5, (.iconst 3, (.inl (3 : Int32), (6, (0, []))))), (6, (.if_icmp .eq 28, (sv_N, (9, (34, []))))), (9, (.iload_n 2, (sv_N, (10, (0, []))))), (10, (.iconst 1, (.inl (1 : Int32), (11, (0, []))))), (11, (.if_icmp .ne 11, (sv_N, (14, (22, []))))), (14, (.aload_n 0, (sv_N, (15, (0, []))))), (15, (.iload_n 3, (sv_N, (16, (0, []))))), (16, (.invokevirtual 113, (sv_N, (19, (0, []))))), (19, (.ifCond .ne 15, (sv_N, (22, (34, []))))), (22, (.iload_n 2, (sv_N, (23, (0, []))))), (23, (.iconst 2, (.inl (2 : Int32), (24, (0, []))))), (24, (.if_icmp .ne 14, (sv_N, (27, (38, []))))), (27, (.iload_n 3, (sv_N, (28, (0, []))))), (28, (.invokestatic 297, (sv_N, (31, (0, []))))), (31, (.ifCond .eq 7, (sv_N, (34, (38, []))))), (34, (.iconst 1, (.inl (1 : Int32), (35, (0, []))))), (35, (.goto 4, (sv_N, (38, (39, []))))), (38, (.iconst 0, (.inl (0 : Int32), (39, (0, []))))), (39, (.istore 4, (sv_N, (41, (0, []))))), (41, (.iload_n 1, (sv_N, (42, (0, []))))), (42, (.invokestatic 314, (sv_N, (45, (0, []))))), (45, (.ifCond .eq 8, (sv_N, (48, (53, []))))), (48, (.iload 4, (sv_N, (50, (0, []))))), (50, (.ifCond .ne 6, (sv_N, (53, (56, []))))), (53, (.ldc 84, (sv_N, (55, (0, []))))), (55, (.ireturn, (sv_N, (56, (0, []))))), (56, (.iload_n 2, (sv_N, (57, (0, []))))), (57, (.iconst 2, (.inl (2 : Int32), (58, (0, []))))), (58, (.if_icmp .ne 16, (sv_N, (61, (74, []))))), (61, (.aload_n 0, (sv_N, (62, (0, []))))), (62, (.getfield 19, (sv_N, (65, (0, []))))), (65, (.iload_n 3, (sv_N, (66, (0, []))))), (66, (.iaload, (sv_N, (67, (0, []))))), (67, (.ifCond .ge 7, (sv_N, (70, (74, []))))), (70, (.ldc_w 303, (sv_N, (73, (0, []))))), (73, (.ireturn, (sv_N, (74, (0, []))))), (74, (.aload_n 0, (sv_N, (75, (0, []))))), (75, (.getfield 28, (sv_N, (78, (0, []))))), (78, (.iload_n 1, (sv_N, (79, (0, []))))), (79, (.iaload, (sv_N, (80, (0, []))))), (80, (.istore 5, (sv_N, (82, (0, []))))), (82, (.aload_n 0, (sv_N, (83, (0, []))))), (83, (.getfield 28, (sv_N, (86, (0, []))))), (86, (.iload_n 1, (sv_N, (87, (0, []))))), (87, (.iload_n 2, (sv_N, (88, (0, []))))), (88, (.iastore, (sv_N, (89, (0, []))))), (89, (.aload_n 0, (sv_N, (90, (0, []))))), (90, (.getfield 31, (sv_N, (93, (0, []))))), (93, (.iload_n 1, (sv_N, (94, (0, []))))), (94, (.iload_n 2, (sv_N, (95, (0, []))))), (95, (.iconst 1, (.inl (1 : Int32), (96, (0, []))))), (96, (.if_icmp .ne 12, (sv_N, (99, (108, []))))), (99, (.aload_n 0, (sv_N, (100, (0, []))))), (100, (.iload_n 3, (sv_N, (101, (0, []))))), (101, (.iconst 0, (.inl (0 : Int32), (102, (0, []))))), (102, (.invokevirtual 90, (sv_N, (105, (0, []))))), (105, (.goto 4, (sv_N, (108, (109, []))))), (108, (.iload_n 3, (sv_N, (109, (0, []))))), (109, (.iastore, (sv_N, (110, (0, []))))), (110, (.aload_n 0, (sv_N, (111, (0, []))))), (111, (.getfield 34, (sv_N, (114, (0, []))))), (114, (.iload_n 1, (sv_N, (115, (0, []))))), (115, (.iload_n 2, (sv_N, (116, (0, []))))), (116, (.iconst 1, (.inl (1 : Int32), (117, (0, []))))), (117, (.if_icmp .ne 11, (sv_N, (120, (128, []))))), (120, (.aload_n 0, (sv_N, (121, (0, []))))), (121, (.iload_n 3, (sv_N, (122, (0, []))))), (122, (.invokevirtual 126, (sv_N, (125, (0, []))))), (125, (.goto 4, (sv_N, (128, (129, []))))), (128, (.iconst 0, (.inl (0 : Int32), (129, (0, []))))), (129, (.iastore, (sv_N, (130, (0, []))))), (130, (.iload_n 2, (sv_N, (131, (0, []))))), (131, (.iconst 2, (.inl (2 : Int32), (132, (0, []))))), (132, (.if_icmp .ne 55, (sv_N, (135, (187, []))))), (135, (.aload_n 0, (sv_N, (136, (0, []))))), (136, (.getfield 37, (sv_N, (139, (0, []))))), (139, (.iload_n 1, (sv_N, (140, (0, []))))), (140, (.aload_n 0, (sv_N, (141, (0, []))))), (141, (.getfield 22, (sv_N, (144, (0, []))))), (144, (.iload_n 3, (sv_N, (145, (0, []))))), (145, (.iaload, (sv_N, (146, (0, []))))), (146, (.iastore, (sv_N, (147, (0, []))))), (147, (.iconst 0, (.inl (0 : Int32), (148, (0, []))))), (148, (.istore 6, (sv_N, (150, (0, []))))), (150, (.iload 6, (sv_N, (152, (0, []))))), (152, (.bipush 24, (.inl (24 : Int32), (154, (0, []))))), (154, (.if_icmp .ge 33, (sv_N, (157, (187, []))))), (157, (.aload_n 0, (sv_N, (158, (0, []))))), (158, (.getfield 40, (sv_N, (161, (0, []))))), (161, (.bipush 24, (.inl (24 : Int32), (163, (0, []))))), (163, (.iload_n 1, (sv_N, (164, (0, []))))), (164, (.imul, (sv_N, (165, (0, []))))), (165, (.iload 6, (sv_N, (167, (0, []))))), (167, (.iadd, (sv_N, (168, (0, []))))), (168, (.aload_n 0, (sv_N, (169, (0, []))))), (169, (.getfield 25, (sv_N, (172, (0, []))))), (172, (.bipush 24, (.inl (24 : Int32), (174, (0, []))))), (174, (.iload_n 3, (sv_N, (175, (0, []))))), (175, (.imul, (sv_N, (176, (0, []))))), (176, (.iload 6, (sv_N, (178, (0, []))))), (178, (.iadd, (sv_N, (179, (0, []))))), (179, (.iaload, (sv_N, (180, (0, []))))), (180, (.iastore, (sv_N, (181, (0, []))))), (181, (.iinc 6 1, (.inl (1 : Int32), (184, (0, []))))), (184, (.goto (-34), (sv_N, (187, (150, []))))), (187, (.iload 5, (sv_N, (189, (0, []))))), (189, (.ireturn, (sv_N, (190, (0, [])))))]
noncomputable def ev_Mo_lay : sv_E := (fun i => sv_lk i fl_12, (fun i => sv_lk i kc_12, (fun _ => 0, (true, (fun pc => sv_lk pc [(16, (2, .inl n_Mo_isDrummer)), (28, (1, .inl n_Mo_isSheet)), (42, (1, .inl n_Mo_isSlot)), (102, (3, .inl n_Mo_of)), (122, (2, .inl n_Mo_worth))], none)))))
noncomputable def kk_Mo_lay_150 (n : Nat) : sv_K (Int32 × sv_S) := fun pc => sv_lk pc [(150, fun lo st σ => match lo, st with
    | [some (.inr (.inr (some (30, 0)))), some (.inl x1), _, some (.inl x3), _, some (.inl x5), some (.inl x6)], [] => f_Mo_lay_150 n x1 x3 x5 x6 σ
    | _, _ => none)]
set_option maxRecDepth 20000 in
theorem e_Mo_lay_150 (n : Nat) (x1 : Int32) (x3 : Int32) (x5 : Int32) (x6 : Int32) (z2 z4 : Option sv_V) (σ : sv_S) : sv_ex ev_Mo_lay sv_rI (kk_Mo_lay_150 n) cd_Mo_lay 112 150 [some (.inr (.inr (some (30, 0)))), some (.inl x1), z2, some (.inl x3), z4, some (.inl x5), some (.inl x6)] [] σ = f_Mo_lay_150 (n + 1) x1 x3 x5 x6 σ := by
  rw [f_Mo_lay_150.eq_2]
  delta ev_Mo_lay kk_Mo_lay_150 n_Mo_isDrummer n_Mo_isSheet n_Mo_isSlot n_Mo_of n_Mo_worth
  generalize f_Mo_isDrummer = c0
  generalize f_Mo_isSheet = c1
  generalize f_Mo_isSlot = c2
  generalize f_Mo_of = c3
  generalize f_Mo_worth = c4
  generalize f_Mo_lay_150 = c5
  rfl
noncomputable def kk_Mo_lay_129 : sv_K (Int32 × sv_S) := fun pc => sv_lk pc [(150, fun lo st σ => match lo, st with
    | [some (.inr (.inr (some (30, 0)))), some (.inl x1), _, some (.inl x3), _, some (.inl x5), some (.inl x6)], [] => f_Mo_lay_150 sv_fu x1 x3 x5 x6 σ
    | _, _ => none)]
set_option maxRecDepth 20000 in
theorem e_Mo_lay_129 (x1 : Int32) (x2 : Int32) (x3 : Int32) (x5 : Int32) (y0 : Int32) (y1 : Int32) (y2 : Nat) (z4 z6 : Option sv_V) (σ : sv_S) : sv_ex ev_Mo_lay sv_rI (kk_Mo_lay_129) cd_Mo_lay 112 129 [some (.inr (.inr (some (30, 0)))), some (.inl x1), some (.inl x2), some (.inl x3), z4, some (.inl x5), z6] [.inl y0, .inl y1, .inr (.inr (some (31, y2)))] σ = f_Mo_lay_129 x1 x2 x3 x5 y0 y1 y2 σ := by
  unfold f_Mo_lay_129
  delta ev_Mo_lay kk_Mo_lay_129 n_Mo_isDrummer n_Mo_isSheet n_Mo_isSlot n_Mo_of n_Mo_worth
  generalize f_Mo_isDrummer = c0
  generalize f_Mo_isSheet = c1
  generalize f_Mo_isSlot = c2
  generalize f_Mo_of = c3
  generalize f_Mo_worth = c4
  generalize f_Mo_lay_150 = c5
  rfl
noncomputable def kk_Mo_lay_109 : sv_K (Int32 × sv_S) := fun pc => sv_lk pc [(129, fun lo st σ => match lo, st with
    | [some (.inr (.inr (some (30, 0)))), some (.inl x1), some (.inl x2), some (.inl x3), _, some (.inl x5), _], [.inl y0, .inl y1, .inr (.inr (some (31, y2)))] => f_Mo_lay_129 x1 x2 x3 x5 y0 y1 y2 σ
    | _, _ => none)]
set_option maxRecDepth 20000 in
theorem e_Mo_lay_109 (x1 : Int32) (x2 : Int32) (x3 : Int32) (x5 : Int32) (y0 : Int32) (y1 : Int32) (y2 : Nat) (z4 z6 : Option sv_V) (σ : sv_S) : sv_ex ev_Mo_lay sv_rI (kk_Mo_lay_109) cd_Mo_lay 112 109 [some (.inr (.inr (some (30, 0)))), some (.inl x1), some (.inl x2), some (.inl x3), z4, some (.inl x5), z6] [.inl y0, .inl y1, .inr (.inr (some (31, y2)))] σ = f_Mo_lay_109 x1 x2 x3 x5 y0 y1 y2 σ := by
  unfold f_Mo_lay_109
  delta ev_Mo_lay kk_Mo_lay_109 n_Mo_isDrummer n_Mo_isSheet n_Mo_isSlot n_Mo_of n_Mo_worth
  generalize f_Mo_isDrummer = c0
  generalize f_Mo_isSheet = c1
  generalize f_Mo_isSlot = c2
  generalize f_Mo_of = c3
  generalize f_Mo_worth = c4
  generalize f_Mo_lay_129 = c5
  rfl
noncomputable def kk_Mo_lay_74 : sv_K (Int32 × sv_S) := fun pc => sv_lk pc [(109, fun lo st σ => match lo, st with
    | [some (.inr (.inr (some (30, 0)))), some (.inl x1), some (.inl x2), some (.inl x3), _, some (.inl x5), _], [.inl y0, .inl y1, .inr (.inr (some (31, y2)))] => f_Mo_lay_109 x1 x2 x3 x5 y0 y1 y2 σ
    | _, _ => none)]
set_option maxRecDepth 20000 in
theorem e_Mo_lay_74 (x1 : Int32) (x2 : Int32) (x3 : Int32) (z4 z5 z6 : Option sv_V) (σ : sv_S) : sv_ex ev_Mo_lay sv_rI (kk_Mo_lay_74) cd_Mo_lay 112 74 [some (.inr (.inr (some (30, 0)))), some (.inl x1), some (.inl x2), some (.inl x3), z4, z5, z6] [] σ = f_Mo_lay_74 x1 x2 x3 σ := by
  unfold f_Mo_lay_74
  delta ev_Mo_lay kk_Mo_lay_74 n_Mo_isDrummer n_Mo_isSheet n_Mo_isSlot n_Mo_of n_Mo_worth
  generalize f_Mo_isDrummer = c0
  generalize f_Mo_isSheet = c1
  generalize f_Mo_isSlot = c2
  generalize f_Mo_of = c3
  generalize f_Mo_worth = c4
  generalize f_Mo_lay_109 = c5
  rfl
noncomputable def kk_Mo_lay_39 : sv_K (Int32 × sv_S) := fun pc => sv_lk pc [(74, fun lo st σ => match lo, st with
    | [some (.inr (.inr (some (30, 0)))), some (.inl x1), some (.inl x2), some (.inl x3), _, _, _], [] => f_Mo_lay_74 x1 x2 x3 σ
    | _, _ => none)]
set_option maxRecDepth 20000 in
theorem e_Mo_lay_39 (x1 : Int32) (x2 : Int32) (x3 : Int32) (y0 : Int32) (z4 z5 z6 : Option sv_V) (σ : sv_S) : sv_ex ev_Mo_lay sv_rI (kk_Mo_lay_39) cd_Mo_lay 112 39 [some (.inr (.inr (some (30, 0)))), some (.inl x1), some (.inl x2), some (.inl x3), z4, z5, z6] [.inl y0] σ = f_Mo_lay_39 x1 x2 x3 y0 σ := by
  unfold f_Mo_lay_39
  delta ev_Mo_lay kk_Mo_lay_39 n_Mo_isDrummer n_Mo_isSheet n_Mo_isSlot n_Mo_of n_Mo_worth
  generalize f_Mo_isDrummer = c0
  generalize f_Mo_isSheet = c1
  generalize f_Mo_isSlot = c2
  generalize f_Mo_of = c3
  generalize f_Mo_worth = c4
  generalize f_Mo_lay_74 = c5
  rfl
noncomputable def kk_Mo_lay_22 : sv_K (Int32 × sv_S) := fun pc => sv_lk pc [(39, fun lo st σ => match lo, st with
    | [some (.inr (.inr (some (30, 0)))), some (.inl x1), some (.inl x2), some (.inl x3), _, _, _], [.inl y0] => f_Mo_lay_39 x1 x2 x3 y0 σ
    | _, _ => none)]
set_option maxRecDepth 20000 in
theorem e_Mo_lay_22 (x1 : Int32) (x2 : Int32) (x3 : Int32) (z4 z5 z6 : Option sv_V) (σ : sv_S) : sv_ex ev_Mo_lay sv_rI (kk_Mo_lay_22) cd_Mo_lay 112 22 [some (.inr (.inr (some (30, 0)))), some (.inl x1), some (.inl x2), some (.inl x3), z4, z5, z6] [] σ = f_Mo_lay_22 x1 x2 x3 σ := by
  unfold f_Mo_lay_22
  delta ev_Mo_lay kk_Mo_lay_22 n_Mo_isDrummer n_Mo_isSheet n_Mo_isSlot n_Mo_of n_Mo_worth
  generalize f_Mo_isDrummer = c0
  generalize f_Mo_isSheet = c1
  generalize f_Mo_isSlot = c2
  generalize f_Mo_of = c3
  generalize f_Mo_worth = c4
  generalize f_Mo_lay_39 = c5
  rfl
noncomputable def kk_Mo_lay : sv_K (Int32 × sv_S) := fun pc => sv_lk pc [(22, fun lo st σ => match lo, st with
    | [some (.inr (.inr (some (30, 0)))), some (.inl x1), some (.inl x2), some (.inl x3), _, _, _], [] => f_Mo_lay_22 x1 x2 x3 σ
    | _, _ => none),
  (39, fun lo st σ => match lo, st with
    | [some (.inr (.inr (some (30, 0)))), some (.inl x1), some (.inl x2), some (.inl x3), _, _, _], [.inl y0] => f_Mo_lay_39 x1 x2 x3 y0 σ
    | _, _ => none)]
set_option maxRecDepth 20000 in
theorem e_Mo_lay (a1 : Int32) (a2 : Int32) (a3 : Int32) (σ : sv_S) : sv_ex ev_Mo_lay sv_rI kk_Mo_lay cd_Mo_lay 112 0 [some (.inr (.inr (some (30, 0)))), some (.inl a1), some (.inl a2), some (.inl a3), none, none, none] [] σ = f_Mo_lay a1 a2 a3 σ := by
  unfold f_Mo_lay
  delta ev_Mo_lay kk_Mo_lay n_Mo_isDrummer n_Mo_isSheet n_Mo_isSlot n_Mo_of n_Mo_worth
  generalize f_Mo_isDrummer = c0
  generalize f_Mo_isSheet = c1
  generalize f_Mo_isSlot = c2
  generalize f_Mo_of = c3
  generalize f_Mo_worth = c4
  generalize f_Mo_lay_22 = c5
  generalize f_Mo_lay_39 = c6
  rfl
theorem d_Mo_lay : cd_Mo_lay.all (sv_dk cX12_lay) = true := by decide +kernel
set_option maxRecDepth 20000 in
theorem w_Mo_lay_150 {Γ : sv_Ga} {res : Int32 × sv_S} (X : sv_Ok Γ ev_Mo_lay cX12_lay sv_rI res) : ∀ (n : Nat) (x1 : Int32) (x3 : Int32) (x5 : Int32) (x6 : Int32) (z2 z4 : Option sv_V) (σ : sv_S), f_Mo_lay_150 n x1 x3 x5 x6 σ = some res → sv_T Γ 150 [some (.inr (.inr (some (30, 0)))), some (.inl x1), z2, some (.inl x3), z4, some (.inl x5), some (.inl x6)] [] σ := by
  intro n
  induction n with
  | zero =>
    intro x1 x3 x5 x6 z2 z4 σ h
    rw [f_Mo_lay_150.eq_1] at h
    cases h
  | succ n ih =>
    intro x1 x3 x5 x6 z2 z4 σ h
    refine sv_run X d_Mo_lay (K := kk_Mo_lay_150 n) (sv_lk_all (P := fun pc (k : sv_Lo → List sv_V → sv_S → Option (Int32 × sv_S)) => ∀ lo st σ, k lo st σ = some res → sv_T Γ pc lo st σ) ?_) _ _ _ _ _ ((e_Mo_lay_150 n x1 x3 x5 x6 z2 z4 σ).trans h)
    clear h
    refine List.forall_mem_cons.mpr ⟨fun lo st σ h => ?_, fun _ h => absurd h List.not_mem_nil⟩
    · dsimp only at h
      split at h
      · exact ih _ _ _ _ _ _ _ h
      · cases h

set_option maxRecDepth 20000 in
theorem w_Mo_lay_129 {Γ : sv_Ga} {res : Int32 × sv_S} (X : sv_Ok Γ ev_Mo_lay cX12_lay sv_rI res) : ∀ (x1 : Int32) (x2 : Int32) (x3 : Int32) (x5 : Int32) (y0 : Int32) (y1 : Int32) (y2 : Nat) (z4 z6 : Option sv_V) (σ : sv_S), f_Mo_lay_129 x1 x2 x3 x5 y0 y1 y2 σ = some res → sv_T Γ 129 [some (.inr (.inr (some (30, 0)))), some (.inl x1), some (.inl x2), some (.inl x3), z4, some (.inl x5), z6] [.inl y0, .inl y1, .inr (.inr (some (31, y2)))] σ := by
  intro x1 x2 x3 x5 y0 y1 y2 z4 z6 σ h
  refine sv_run X d_Mo_lay (K := kk_Mo_lay_129) (sv_lk_all (P := fun pc (k : sv_Lo → List sv_V → sv_S → Option (Int32 × sv_S)) => ∀ lo st σ, k lo st σ = some res → sv_T Γ pc lo st σ) ?_) _ _ _ _ _ ((e_Mo_lay_129 x1 x2 x3 x5 y0 y1 y2 z4 z6 σ).trans h)
  clear h
  refine List.forall_mem_cons.mpr ⟨fun lo st σ h => ?_, fun _ h => absurd h List.not_mem_nil⟩
  · dsimp only at h
    split at h
    · exact w_Mo_lay_150 X _ _ _ _ _ _ _ _ h
    · cases h

set_option maxRecDepth 20000 in
theorem w_Mo_lay_109 {Γ : sv_Ga} {res : Int32 × sv_S} (X : sv_Ok Γ ev_Mo_lay cX12_lay sv_rI res) : ∀ (x1 : Int32) (x2 : Int32) (x3 : Int32) (x5 : Int32) (y0 : Int32) (y1 : Int32) (y2 : Nat) (z4 z6 : Option sv_V) (σ : sv_S), f_Mo_lay_109 x1 x2 x3 x5 y0 y1 y2 σ = some res → sv_T Γ 109 [some (.inr (.inr (some (30, 0)))), some (.inl x1), some (.inl x2), some (.inl x3), z4, some (.inl x5), z6] [.inl y0, .inl y1, .inr (.inr (some (31, y2)))] σ := by
  intro x1 x2 x3 x5 y0 y1 y2 z4 z6 σ h
  refine sv_run X d_Mo_lay (K := kk_Mo_lay_109) (sv_lk_all (P := fun pc (k : sv_Lo → List sv_V → sv_S → Option (Int32 × sv_S)) => ∀ lo st σ, k lo st σ = some res → sv_T Γ pc lo st σ) ?_) _ _ _ _ _ ((e_Mo_lay_109 x1 x2 x3 x5 y0 y1 y2 z4 z6 σ).trans h)
  clear h
  refine List.forall_mem_cons.mpr ⟨fun lo st σ h => ?_, fun _ h => absurd h List.not_mem_nil⟩
  · dsimp only at h
    split at h
    · exact w_Mo_lay_129 X _ _ _ _ _ _ _ _ _ _ h
    · cases h

set_option maxRecDepth 20000 in
theorem w_Mo_lay_74 {Γ : sv_Ga} {res : Int32 × sv_S} (X : sv_Ok Γ ev_Mo_lay cX12_lay sv_rI res) : ∀ (x1 : Int32) (x2 : Int32) (x3 : Int32) (z4 z5 z6 : Option sv_V) (σ : sv_S), f_Mo_lay_74 x1 x2 x3 σ = some res → sv_T Γ 74 [some (.inr (.inr (some (30, 0)))), some (.inl x1), some (.inl x2), some (.inl x3), z4, z5, z6] [] σ := by
  intro x1 x2 x3 z4 z5 z6 σ h
  refine sv_run X d_Mo_lay (K := kk_Mo_lay_74) (sv_lk_all (P := fun pc (k : sv_Lo → List sv_V → sv_S → Option (Int32 × sv_S)) => ∀ lo st σ, k lo st σ = some res → sv_T Γ pc lo st σ) ?_) _ _ _ _ _ ((e_Mo_lay_74 x1 x2 x3 z4 z5 z6 σ).trans h)
  clear h
  refine List.forall_mem_cons.mpr ⟨fun lo st σ h => ?_, fun _ h => absurd h List.not_mem_nil⟩
  · dsimp only at h
    split at h
    · exact w_Mo_lay_109 X _ _ _ _ _ _ _ _ _ _ h
    · cases h

set_option maxRecDepth 20000 in
theorem w_Mo_lay_39 {Γ : sv_Ga} {res : Int32 × sv_S} (X : sv_Ok Γ ev_Mo_lay cX12_lay sv_rI res) : ∀ (x1 : Int32) (x2 : Int32) (x3 : Int32) (y0 : Int32) (z4 z5 z6 : Option sv_V) (σ : sv_S), f_Mo_lay_39 x1 x2 x3 y0 σ = some res → sv_T Γ 39 [some (.inr (.inr (some (30, 0)))), some (.inl x1), some (.inl x2), some (.inl x3), z4, z5, z6] [.inl y0] σ := by
  intro x1 x2 x3 y0 z4 z5 z6 σ h
  refine sv_run X d_Mo_lay (K := kk_Mo_lay_39) (sv_lk_all (P := fun pc (k : sv_Lo → List sv_V → sv_S → Option (Int32 × sv_S)) => ∀ lo st σ, k lo st σ = some res → sv_T Γ pc lo st σ) ?_) _ _ _ _ _ ((e_Mo_lay_39 x1 x2 x3 y0 z4 z5 z6 σ).trans h)
  clear h
  refine List.forall_mem_cons.mpr ⟨fun lo st σ h => ?_, fun _ h => absurd h List.not_mem_nil⟩
  · dsimp only at h
    split at h
    · exact w_Mo_lay_74 X _ _ _ _ _ _ _ h
    · cases h

set_option maxRecDepth 20000 in
theorem w_Mo_lay_22 {Γ : sv_Ga} {res : Int32 × sv_S} (X : sv_Ok Γ ev_Mo_lay cX12_lay sv_rI res) : ∀ (x1 : Int32) (x2 : Int32) (x3 : Int32) (z4 z5 z6 : Option sv_V) (σ : sv_S), f_Mo_lay_22 x1 x2 x3 σ = some res → sv_T Γ 22 [some (.inr (.inr (some (30, 0)))), some (.inl x1), some (.inl x2), some (.inl x3), z4, z5, z6] [] σ := by
  intro x1 x2 x3 z4 z5 z6 σ h
  refine sv_run X d_Mo_lay (K := kk_Mo_lay_22) (sv_lk_all (P := fun pc (k : sv_Lo → List sv_V → sv_S → Option (Int32 × sv_S)) => ∀ lo st σ, k lo st σ = some res → sv_T Γ pc lo st σ) ?_) _ _ _ _ _ ((e_Mo_lay_22 x1 x2 x3 z4 z5 z6 σ).trans h)
  clear h
  refine List.forall_mem_cons.mpr ⟨fun lo st σ h => ?_, fun _ h => absurd h List.not_mem_nil⟩
  · dsimp only at h
    split at h
    · exact w_Mo_lay_39 X _ _ _ _ _ _ _ _ h
    · cases h

set_option maxRecDepth 20000 in
theorem b_Mo_lay (Γ : sv_Ga) (res : Int32 × sv_S) (X : sv_Ok Γ ev_Mo_lay cX12_lay sv_rI res) (as : List sv_V) (σ : sv_S) (h : n_Mo_lay as σ = some res) : sv_T Γ 0 (sv_e0 7 as) [] σ := by
  unfold n_Mo_lay at h
  split at h
  · refine sv_run X d_Mo_lay (K := kk_Mo_lay) (sv_lk_all (P := fun pc (k : sv_Lo → List sv_V → sv_S → Option (Int32 × sv_S)) => ∀ lo st σ, k lo st σ = some res → sv_T Γ pc lo st σ) ?_) _ _ _ _ _ ((e_Mo_lay _ _ _ _).trans h)
    clear h
    refine List.forall_mem_cons.mpr ⟨fun lo st σ h => ?_, List.forall_mem_cons.mpr ⟨fun lo st σ h => ?_, fun _ h => absurd h List.not_mem_nil⟩⟩
    · dsimp only at h
      split at h
      · exact w_Mo_lay_22 X _ _ _ _ _ _ _ h
      · cases h
    · dsimp only at h
      split at h
      · exact w_Mo_lay_39 X _ _ _ _ _ _ _ _ h
      · cases h
  · cases h
theorem a_Mo_lay (as : List sv_V) (σ : sv_S) (x : Int32 × sv_S) (h : n_Mo_lay as σ = some x) : sv_args 7 ev_Mo_lay.2.2.2.1 as := by
  unfold n_Mo_lay at h
  split at h
  · exact ⟨Nat.le_of_ble_eq_true rfl, fun _ v hv => by
      simp only [List.mem_cons, List.not_mem_nil, or_false] at hv
      rcases hv with rfl | rfl | rfl | rfl <;> trivial⟩
  · cases h
theorem g_Mo_lay (as : List sv_V) (σ : sv_S) (x : Option sv_V × sv_S) (h : sv_gI n_Mo_lay as σ = some x) : ∃ r i as', as = sv_R r i :: as' ∧ sv_kd r i = .inl 12 := by
  obtain ⟨_, _, h, -⟩ := sv_b_some h
  unfold n_Mo_lay at h
  split at h
  · exact ⟨_, _, _, rfl, rfl⟩
  · cases h
theorem tw_1445 : Cond.methodLink RX12 314 yX12_isSlot ∈ gw_tbl := gw_at 1445 (by decide +kernel) rfl
theorem tw_1446 : Cond.static yX12_isSlot ∈ gw_tbl := gw_at 1446 (by decide +kernel) rfl
theorem tw_1447 : Cond.code yX12_isSlot cX12_isSlot 1 (some .boolean) ∈ gw_tbl := gw_at 1447 (by decide +kernel) rfl
set_option maxRecDepth 20000 in
theorem m_Mo_lay (l : Launch) : sv_M l yX12_lay cX12_lay 7 (some .int) (sv_gI n_Mo_lay) 2 := by
  refine sv_mI (E := ev_Mo_lay) (by decide +kernel) (ln_gen fk_12 kk_12 (sv_ns _ (fun _ => rfl) _)) rfl ?_ a_Mo_lay b_Mo_lay
  intro p e R s m args below meth c cells slots Q base ad dC dI cA n0 S hkn hR hf pc n f hcs
  refine sv_lk_all (P := fun pc (x : Nat × sv_F) => sv_cok p l e R s m args below meth c cells slots Q base ad dC dI cA true 7 n0 pc x.1 x.2) ?_ pc (n, f) hcs
  exact List.forall_mem_cons.mpr ⟨(sv_cV S hkn (m_Mo_isDrummer l) ⟨Nat.le_trans (by decide) hR.1, Nat.le_trans (by decide) hR.2⟩ (by decide) hf rfl (g_Mo_isDrummer) (sv_w5 tw_1116 tw_1118 tw_9 tw_65 tw_1119) (by decide +kernel) (sv_dc3 d_Mo_lay (pc := 16) rfl rfl)).I,
      List.forall_mem_cons.mpr ⟨(sv_cS S hkn (m_Mo_isSheet l) ⟨Nat.le_trans (by decide) hR.1, Nat.le_trans (by decide) hR.2⟩ (by decide) hf (sv_w4 tw_1409 tw_1410 tw_65 tw_1411) (by decide +kernel) (sv_dc3 d_Mo_lay (pc := 28) rfl rfl)).I,
      List.forall_mem_cons.mpr ⟨(sv_cS S hkn (m_Mo_isSlot l) ⟨Nat.le_trans (by decide) hR.1, Nat.le_trans (by decide) hR.2⟩ (by decide) hf (sv_w4 tw_1445 tw_1446 tw_65 tw_1447) (by decide +kernel) (sv_dc3 d_Mo_lay (pc := 42) rfl rfl)).I,
      List.forall_mem_cons.mpr ⟨(sv_cV S hkn (m_Mo_of l) ⟨Nat.le_trans (by decide) hR.1, Nat.le_trans (by decide) hR.2⟩ (by decide) hf rfl (g_Mo_of) (sv_w5 tw_1120 tw_1122 tw_10 tw_65 tw_1123) (by decide +kernel) (sv_dc3 d_Mo_lay (pc := 102) rfl rfl)).I,
      List.forall_mem_cons.mpr ⟨(sv_cV S hkn (m_Mo_worth l) ⟨Nat.le_trans (by decide) hR.1, Nat.le_trans (by decide) hR.2⟩ (by decide) hf rfl (g_Mo_worth) (sv_w5 tw_1167 tw_1169 tw_20 tw_65 tw_1170) (by decide +kernel) (sv_dc3 d_Mo_lay (pc := 122) rfl rfl)).I,
      fun _ h => absurd h List.not_mem_nil⟩⟩⟩⟩⟩
noncomputable def f_Mo_ask (a1 : Int32) (a2 : Int32) (σ : sv_S) : Option (Int32 × sv_S) :=
  sv_b (f_Mo_isSlot a1 σ) (fun v1 σ2 =>
    sv_if (v1 = 0)
      (some ((-1000000001 : Int32), σ2))
      (sv_b (f_Mo_isIn (a2.toInt64) (0 : Int64) (5 : Int64) σ2) (fun v3 σ4 =>
        sv_if (v3 = 0)
          (some ((-1000000001 : Int32), σ4))
          (sv_g (sv_in a1 5) (sv_if ((σ4 31 7 (a1.toNatClampNeg)) = 0)
            (some ((-1000000011 : Int32), σ4))
            (sv_g (sv_in a1 5) (sv_if ((σ4 31 7 (a1.toNatClampNeg)) = (1 : Int32))
              (sv_g (sv_in a1 5) (sv_b (f_Mo_isOf (σ4 31 8 (a1.toNatClampNeg)) a2 σ4) (fun v5 σ6 =>
                sv_if (v5 = 0)
                  (some ((-1000000012 : Int32), σ6))
                  (sv_g (sv_in a1 5) (some (σ6 31 9 (a1.toNatClampNeg), σ6))))))
              (some ((-1000000012 : Int32), σ4)))))))))
noncomputable def n_Mo_ask : List sv_V → sv_S → Option (Int32 × sv_S)
  | [.inr (.inr (some (30, 0))), .inl a1, .inl a2], σ => f_Mo_ask a1 a2 σ
  | _, _ => none
def cd_Mo_ask : sv_C := [(0, (.iload_n 1, (sv_N, (1, (0, []))))), (1, (.invokestatic 314, (sv_N, (4, (0, []))))), (4, (.ifCond .eq 15, (sv_N, (7, (19, []))))), (7, (.iload_n 2, (sv_N, (8, (0, []))))), (8, (.i2l, (sv_N, (9, (0, []))))), (9, (.lconst 0, (.inr (.inl (0 : Int64)), (10, (0, []))))), (10, (.ldc2_w 80, (sv_N, (13, (0, []))))), (13, (.invokestatic 71, (sv_N, (16, (0, []))))), (16, (.ifCond .ne 6, (sv_N, (19, (22, []))))), (19, (.ldc 84, (sv_N, (21, (0, []))))), (21, (.ireturn, (sv_N, (22, (0, []))))), (22, (.aload_n 0, (sv_N, (23, (0, []))))), (23, (.getfield 28, (sv_N, (26, (0, []))))), (26, (.iload_n 1, (sv_N, (27, (0, []))))), (27, (.iaload, (sv_N, (28, (0, []))))), (28, (.ifCond .ne 7, (sv_N, (31, (35, []))))), (31, (.ldc_w 303, (sv_N, (34, (0, []))))), (34, (.ireturn, (sv_N, (35, (0, []))))), (35, (.aload_n 0, (sv_N, (36, (0, []))))), (36, (.getfield 28, (sv_N, (39, (0, []))))), (39, (.iload_n 1, (sv_N, (40, (0, []))))), (40, (.iaload, (sv_N, (41, (0, []))))), (41, (.iconst 1, (.inl (1 : Int32), (42, (0, []))))), (42, (.if_icmp .ne 25, (sv_N, (45, (67, []))))), (45, (.aload_n 0, (sv_N, (46, (0, []))))), (46, (.getfield 31, (sv_N, (49, (0, []))))), (49, (.iload_n 1, (sv_N, (50, (0, []))))), (50, (.iaload, (sv_N, (51, (0, []))))), (51, (.iload_n 2, (sv_N, (52, (0, []))))), (52, (.invokestatic 129, (sv_N, (55, (0, []))))), (55, (.ifCond .eq 12, (sv_N, (58, (67, []))))), (58, (.aload_n 0, (sv_N, (59, (0, []))))), (59, (.getfield 34, (sv_N, (62, (0, []))))), (62, (.iload_n 1, (sv_N, (63, (0, []))))), (63, (.iaload, (sv_N, (64, (0, []))))), (64, (.goto 5, (sv_N, (67, (69, []))))), (67, (.ldc 133, (sv_N, (69, (0, []))))), (69, (.ireturn, (sv_N, (70, (0, [])))))]
noncomputable def ev_Mo_ask : sv_E := (fun i => sv_lk i fl_12, (fun i => sv_lk i kc_12, (fun _ => 0, (true, (fun pc => sv_lk pc [(1, (1, .inl n_Mo_isSlot)), (13, (3, .inl n_Mo_isIn)), (52, (2, .inl n_Mo_isOf))], none)))))
noncomputable def kk_Mo_ask : sv_K (Int32 × sv_S) := fun pc => sv_lk pc []
set_option maxRecDepth 20000 in
theorem e_Mo_ask (a1 : Int32) (a2 : Int32) (σ : sv_S) : sv_ex ev_Mo_ask sv_rI kk_Mo_ask cd_Mo_ask 40 0 [some (.inr (.inr (some (30, 0)))), some (.inl a1), some (.inl a2)] [] σ = f_Mo_ask a1 a2 σ := by
  unfold f_Mo_ask
  delta ev_Mo_ask kk_Mo_ask n_Mo_isSlot n_Mo_isIn n_Mo_isOf
  generalize f_Mo_isSlot = c0
  generalize f_Mo_isIn = c1
  generalize f_Mo_isOf = c2
  rfl
theorem d_Mo_ask : cd_Mo_ask.all (sv_dk cX12_ask) = true := by decide +kernel
set_option maxRecDepth 20000 in
theorem b_Mo_ask (Γ : sv_Ga) (res : Int32 × sv_S) (X : sv_Ok Γ ev_Mo_ask cX12_ask sv_rI res) (as : List sv_V) (σ : sv_S) (h : n_Mo_ask as σ = some res) : sv_T Γ 0 (sv_e0 3 as) [] σ := by
  unfold n_Mo_ask at h
  split at h
  · refine sv_run X d_Mo_ask (K := kk_Mo_ask) (sv_lk_all (P := fun pc (k : sv_Lo → List sv_V → sv_S → Option (Int32 × sv_S)) => ∀ lo st σ, k lo st σ = some res → sv_T Γ pc lo st σ) ?_) _ _ _ _ _ ((e_Mo_ask _ _ _).trans h)
    clear h
    exact fun _ h => absurd h List.not_mem_nil
  · cases h
theorem a_Mo_ask (as : List sv_V) (σ : sv_S) (x : Int32 × sv_S) (h : n_Mo_ask as σ = some x) : sv_args 3 ev_Mo_ask.2.2.2.1 as := by
  unfold n_Mo_ask at h
  split at h
  · exact ⟨Nat.le_of_ble_eq_true rfl, fun _ v hv => by
      simp only [List.mem_cons, List.not_mem_nil, or_false] at hv
      rcases hv with rfl | rfl | rfl <;> trivial⟩
  · cases h
theorem g_Mo_ask (as : List sv_V) (σ : sv_S) (x : Option sv_V × sv_S) (h : sv_gI n_Mo_ask as σ = some x) : ∃ r i as', as = sv_R r i :: as' ∧ sv_kd r i = .inl 12 := by
  obtain ⟨_, _, h, -⟩ := sv_b_some h
  unfold n_Mo_ask at h
  split at h
  · exact ⟨_, _, _, rfl, rfl⟩
  · cases h

set_option maxRecDepth 20000 in
theorem m_Mo_ask (l : Launch) : sv_M l yX12_ask cX12_ask 3 (some .int) (sv_gI n_Mo_ask) 2 := by
  refine sv_mI (E := ev_Mo_ask) (by decide +kernel) (ln_gen fk_12 kk_12 (sv_ns _ (fun _ => rfl) _)) rfl ?_ a_Mo_ask b_Mo_ask
  intro p e R s m args below meth c cells slots Q base ad dC dI cA n0 S hkn hR hf pc n f hcs
  refine sv_lk_all (P := fun pc (x : Nat × sv_F) => sv_cok p l e R s m args below meth c cells slots Q base ad dC dI cA true 3 n0 pc x.1 x.2) ?_ pc (n, f) hcs
  exact List.forall_mem_cons.mpr ⟨(sv_cS S hkn (m_Mo_isSlot l) ⟨Nat.le_trans (by decide) hR.1, Nat.le_trans (by decide) hR.2⟩ (by decide) hf (sv_w4 tw_1445 tw_1446 tw_65 tw_1447) (by decide +kernel) (sv_dc3 d_Mo_ask (pc := 1) rfl rfl)).I,
      List.forall_mem_cons.mpr ⟨(sv_cS S hkn (m_Mo_isIn l) ⟨Nat.le_trans (by decide) hR.1, Nat.le_trans (by decide) hR.2⟩ (by decide) hf (sv_w4 tw_1098 tw_1099 tw_65 tw_1100) (by decide +kernel) (sv_dc3 d_Mo_ask (pc := 13) rfl rfl)).I,
      List.forall_mem_cons.mpr ⟨(sv_cS S hkn (m_Mo_isOf l) ⟨Nat.le_trans (by decide) hR.1, Nat.le_trans (by decide) hR.2⟩ (by decide) hf (sv_w4 tw_1175 tw_1176 tw_65 tw_1177) (by decide +kernel) (sv_dc3 d_Mo_ask (pc := 52) rfl rfl)).I,
      fun _ h => absurd h List.not_mem_nil⟩⟩⟩
noncomputable def f_Mo_item (a1 : Int32) (a2 : Int32) (σ : sv_S) : Option (Int32 × sv_S) :=
  sv_b (f_Mo_isSlot a1 σ) (fun v1 σ2 =>
    sv_if (v1 = 0)
      (some ((-1000000001 : Int32), σ2))
      (sv_g (sv_in a1 5) (sv_if ((σ2 31 7 (a1.toNatClampNeg)) = (2 : Int32))
        (sv_g (sv_in a1 5) (sv_b (f_Mo_isIn (a2.toInt64) (0 : Int64) (((σ2 31 10 (a1.toNatClampNeg)) - (1 : Int32)).toInt64) σ2) (fun v3 σ4 =>
          sv_if (v3 = 0)
            (some ((-1000000013 : Int32), σ4))
            (sv_g (sv_in (((24 : Int32) * a1) + a2) 120) (sv_if ((σ4 31 11 ((((24 : Int32) * a1) + a2).toNatClampNeg)) = (-1000000005 : Int32))
              (some ((-1000000012 : Int32), σ4))
              (some (σ4 31 11 ((((24 : Int32) * a1) + a2).toNatClampNeg), σ4)))))))
        (sv_g (sv_in a1 5) (sv_if ((σ2 31 7 (a1.toNatClampNeg)) = 0)
          (some ((-1000000011 : Int32), σ2))
          (some ((-1000000012 : Int32), σ2)))))))
noncomputable def n_Mo_item : List sv_V → sv_S → Option (Int32 × sv_S)
  | [.inr (.inr (some (30, 0))), .inl a1, .inl a2], σ => f_Mo_item a1 a2 σ
  | _, _ => none
def cd_Mo_item : sv_C := [(0, (.iload_n 1, (sv_N, (1, (0, []))))), (1, (.invokestatic 314, (sv_N, (4, (0, []))))), (4, (.ifCond .ne 6, (sv_N, (7, (10, []))))), (7, (.ldc 84, (sv_N, (9, (0, []))))), (9, (.ireturn, (sv_N, (10, (0, []))))), (10, (.aload_n 0, (sv_N, (11, (0, []))))), (11, (.getfield 28, (sv_N, (14, (0, []))))), (14, (.iload_n 1, (sv_N, (15, (0, []))))), (15, (.iaload, (sv_N, (16, (0, []))))), (16, (.iconst 2, (.inl (2 : Int32), (17, (0, []))))), (17, (.if_icmp .eq 21, (sv_N, (20, (38, []))))), (20, (.aload_n 0, (sv_N, (21, (0, []))))), (21, (.getfield 28, (sv_N, (24, (0, []))))), (24, (.iload_n 1, (sv_N, (25, (0, []))))), (25, (.iaload, (sv_N, (26, (0, []))))), (26, (.ifCond .ne 9, (sv_N, (29, (35, []))))), (29, (.ldc_w 303, (sv_N, (32, (0, []))))), (32, (.goto 5, (sv_N, (35, (37, []))))), (35, (.ldc 133, (sv_N, (37, (0, []))))), (37, (.ireturn, (sv_N, (38, (0, []))))), (38, (.iload_n 2, (sv_N, (39, (0, []))))), (39, (.i2l, (sv_N, (40, (0, []))))), (40, (.lconst 0, (.inr (.inl (0 : Int64)), (41, (0, []))))), (41, (.aload_n 0, (sv_N, (42, (0, []))))), (42, (.getfield 37, (sv_N, (45, (0, []))))), (45, (.iload_n 1, (sv_N, (46, (0, []))))), (46, (.iaload, (sv_N, (47, (0, []))))), (47, (.iconst 1, (.inl (1 : Int32), (48, (0, []))))), (48, (.isub, (sv_N, (49, (0, []))))), (49, (.i2l, (sv_N, (50, (0, []))))), (50, (.invokestatic 71, (sv_N, (53, (0, []))))), (53, (.ifCond .ne 7, (sv_N, (56, (60, []))))), (56, (.ldc_w 304, (sv_N, (59, (0, []))))), (59, (.ireturn, (sv_N, (60, (0, []))))), (60, (.aload_n 0, (sv_N, (61, (0, []))))), (61, (.getfield 40, (sv_N, (64, (0, []))))), (64, (.bipush 24, (.inl (24 : Int32), (66, (0, []))))), (66, (.iload_n 1, (sv_N, (67, (0, []))))), (67, (.imul, (sv_N, (68, (0, []))))), (68, (.iload_n 2, (sv_N, (69, (0, []))))), (69, (.iadd, (sv_N, (70, (0, []))))), (70, (.iaload, (sv_N, (71, (0, []))))), (71, (.istore_n 3, (sv_N, (72, (0, []))))), (72, (.iload_n 3, (sv_N, (73, (0, []))))), (73, (.ldc 70, (sv_N, (75, (0, []))))), (75, (.if_icmp .ne 8, (sv_N, (78, (83, []))))), (78, (.ldc 133, (sv_N, (80, (0, []))))), (80, (.goto 4, (sv_N, (83, (84, []))))), (83, (.iload_n 3, (sv_N, (84, (0, []))))), (84, (.ireturn, (sv_N, (85, (0, [])))))]
noncomputable def ev_Mo_item : sv_E := (fun i => sv_lk i fl_12, (fun i => sv_lk i kc_12, (fun _ => 0, (true, (fun pc => sv_lk pc [(1, (1, .inl n_Mo_isSlot)), (50, (3, .inl n_Mo_isIn))], none)))))
noncomputable def kk_Mo_item : sv_K (Int32 × sv_S) := fun pc => sv_lk pc []
set_option maxRecDepth 20000 in
theorem e_Mo_item (a1 : Int32) (a2 : Int32) (σ : sv_S) : sv_ex ev_Mo_item sv_rI kk_Mo_item cd_Mo_item 52 0 [some (.inr (.inr (some (30, 0)))), some (.inl a1), some (.inl a2), none] [] σ = f_Mo_item a1 a2 σ := by
  unfold f_Mo_item
  delta ev_Mo_item kk_Mo_item n_Mo_isSlot n_Mo_isIn
  generalize f_Mo_isSlot = c0
  generalize f_Mo_isIn = c1
  rfl
theorem d_Mo_item : cd_Mo_item.all (sv_dk cX12_item) = true := by decide +kernel
set_option maxRecDepth 20000 in
theorem b_Mo_item (Γ : sv_Ga) (res : Int32 × sv_S) (X : sv_Ok Γ ev_Mo_item cX12_item sv_rI res) (as : List sv_V) (σ : sv_S) (h : n_Mo_item as σ = some res) : sv_T Γ 0 (sv_e0 4 as) [] σ := by
  unfold n_Mo_item at h
  split at h
  · refine sv_run X d_Mo_item (K := kk_Mo_item) (sv_lk_all (P := fun pc (k : sv_Lo → List sv_V → sv_S → Option (Int32 × sv_S)) => ∀ lo st σ, k lo st σ = some res → sv_T Γ pc lo st σ) ?_) _ _ _ _ _ ((e_Mo_item _ _ _).trans h)
    clear h
    exact fun _ h => absurd h List.not_mem_nil
  · cases h
theorem a_Mo_item (as : List sv_V) (σ : sv_S) (x : Int32 × sv_S) (h : n_Mo_item as σ = some x) : sv_args 4 ev_Mo_item.2.2.2.1 as := by
  unfold n_Mo_item at h
  split at h
  · exact ⟨Nat.le_of_ble_eq_true rfl, fun _ v hv => by
      simp only [List.mem_cons, List.not_mem_nil, or_false] at hv
      rcases hv with rfl | rfl | rfl <;> trivial⟩
  · cases h
theorem g_Mo_item (as : List sv_V) (σ : sv_S) (x : Option sv_V × sv_S) (h : sv_gI n_Mo_item as σ = some x) : ∃ r i as', as = sv_R r i :: as' ∧ sv_kd r i = .inl 12 := by
  obtain ⟨_, _, h, -⟩ := sv_b_some h
  unfold n_Mo_item at h
  split at h
  · exact ⟨_, _, _, rfl, rfl⟩
  · cases h

set_option maxRecDepth 20000 in
theorem m_Mo_item (l : Launch) : sv_M l yX12_item cX12_item 4 (some .int) (sv_gI n_Mo_item) 2 := by
  refine sv_mI (E := ev_Mo_item) (by decide +kernel) (ln_gen fk_12 kk_12 (sv_ns _ (fun _ => rfl) _)) rfl ?_ a_Mo_item b_Mo_item
  intro p e R s m args below meth c cells slots Q base ad dC dI cA n0 S hkn hR hf pc n f hcs
  refine sv_lk_all (P := fun pc (x : Nat × sv_F) => sv_cok p l e R s m args below meth c cells slots Q base ad dC dI cA true 4 n0 pc x.1 x.2) ?_ pc (n, f) hcs
  exact List.forall_mem_cons.mpr ⟨(sv_cS S hkn (m_Mo_isSlot l) ⟨Nat.le_trans (by decide) hR.1, Nat.le_trans (by decide) hR.2⟩ (by decide) hf (sv_w4 tw_1445 tw_1446 tw_65 tw_1447) (by decide +kernel) (sv_dc3 d_Mo_item (pc := 1) rfl rfl)).I,
      List.forall_mem_cons.mpr ⟨(sv_cS S hkn (m_Mo_isIn l) ⟨Nat.le_trans (by decide) hR.1, Nat.le_trans (by decide) hR.2⟩ (by decide) hf (sv_w4 tw_1098 tw_1099 tw_65 tw_1100) (by decide +kernel) (sv_dc3 d_Mo_item (pc := 50) rfl rfl)).I,
      fun _ h => absurd h List.not_mem_nil⟩⟩
noncomputable def f_Mo_rest (a1 : Int32) (a2 : Int32) (σ : sv_S) : Option (Int32 × sv_S) :=
  sv_b (f_Mo_isSlot a1 σ) (fun v1 σ2 =>
    sv_if (v1 = 0)
      (some ((-1000000001 : Int32), σ2))
      (sv_g (sv_in a1 5) (sv_if ((σ2 31 7 (a1.toNatClampNeg)) = (3 : Int32))
        (sv_if (a2 = 0)
          (some ((-1000000002 : Int32), σ2))
          (sv_g (sv_in a1 5) (sv_g (¬ a2 = 0) (some ((σ2 31 8 (a1.toNatClampNeg)) - (σ2 31 8 (a1.toNatClampNeg)) / a2 * a2, σ2)))))
        (sv_g (sv_in a1 5) (sv_if ((σ2 31 7 (a1.toNatClampNeg)) = 0)
          (some ((-1000000011 : Int32), σ2))
          (some ((-1000000012 : Int32), σ2)))))))
noncomputable def n_Mo_rest : List sv_V → sv_S → Option (Int32 × sv_S)
  | [.inr (.inr (some (30, 0))), .inl a1, .inl a2], σ => f_Mo_rest a1 a2 σ
  | _, _ => none
def cd_Mo_rest : sv_C := [(0, (.iload_n 1, (sv_N, (1, (0, []))))), (1, (.invokestatic 314, (sv_N, (4, (0, []))))), (4, (.ifCond .ne 6, (sv_N, (7, (10, []))))), (7, (.ldc 84, (sv_N, (9, (0, []))))), (9, (.ireturn, (sv_N, (10, (0, []))))), (10, (.aload_n 0, (sv_N, (11, (0, []))))), (11, (.getfield 28, (sv_N, (14, (0, []))))), (14, (.iload_n 1, (sv_N, (15, (0, []))))), (15, (.iaload, (sv_N, (16, (0, []))))), (16, (.iconst 3, (.inl (3 : Int32), (17, (0, []))))), (17, (.if_icmp .eq 21, (sv_N, (20, (38, []))))), (20, (.aload_n 0, (sv_N, (21, (0, []))))), (21, (.getfield 28, (sv_N, (24, (0, []))))), (24, (.iload_n 1, (sv_N, (25, (0, []))))), (25, (.iaload, (sv_N, (26, (0, []))))), (26, (.ifCond .ne 9, (sv_N, (29, (35, []))))), (29, (.ldc_w 303, (sv_N, (32, (0, []))))), (32, (.goto 5, (sv_N, (35, (37, []))))), (35, (.ldc 133, (sv_N, (37, (0, []))))), (37, (.ireturn, (sv_N, (38, (0, []))))), (38, (.iload_n 2, (sv_N, (39, (0, []))))), (39, (.ifCond .ne 8, (sv_N, (42, (47, []))))), (42, (.ldc 153, (sv_N, (44, (0, []))))), (44, (.goto 11, (sv_N, (47, (55, []))))), (47, (.aload_n 0, (sv_N, (48, (0, []))))), (48, (.getfield 31, (sv_N, (51, (0, []))))), (51, (.iload_n 1, (sv_N, (52, (0, []))))), (52, (.iaload, (sv_N, (53, (0, []))))), (53, (.iload_n 2, (sv_N, (54, (0, []))))), (54, (.irem, (sv_N, (55, (0, []))))), (55, (.ireturn, (sv_N, (56, (0, [])))))]
noncomputable def ev_Mo_rest : sv_E := (fun i => sv_lk i fl_12, (fun i => sv_lk i kc_12, (fun _ => 0, (true, (fun pc => sv_lk pc [(1, (1, .inl n_Mo_isSlot))], none)))))
noncomputable def kk_Mo_rest : sv_K (Int32 × sv_S) := fun pc => sv_lk pc []
set_option maxRecDepth 20000 in
theorem e_Mo_rest (a1 : Int32) (a2 : Int32) (σ : sv_S) : sv_ex ev_Mo_rest sv_rI kk_Mo_rest cd_Mo_rest 33 0 [some (.inr (.inr (some (30, 0)))), some (.inl a1), some (.inl a2)] [] σ = f_Mo_rest a1 a2 σ := by
  unfold f_Mo_rest
  delta ev_Mo_rest kk_Mo_rest n_Mo_isSlot
  generalize f_Mo_isSlot = c0
  rfl
theorem d_Mo_rest : cd_Mo_rest.all (sv_dk cX12_rest) = true := by decide +kernel
set_option maxRecDepth 20000 in
theorem b_Mo_rest (Γ : sv_Ga) (res : Int32 × sv_S) (X : sv_Ok Γ ev_Mo_rest cX12_rest sv_rI res) (as : List sv_V) (σ : sv_S) (h : n_Mo_rest as σ = some res) : sv_T Γ 0 (sv_e0 3 as) [] σ := by
  unfold n_Mo_rest at h
  split at h
  · refine sv_run X d_Mo_rest (K := kk_Mo_rest) (sv_lk_all (P := fun pc (k : sv_Lo → List sv_V → sv_S → Option (Int32 × sv_S)) => ∀ lo st σ, k lo st σ = some res → sv_T Γ pc lo st σ) ?_) _ _ _ _ _ ((e_Mo_rest _ _ _).trans h)
    clear h
    exact fun _ h => absurd h List.not_mem_nil
  · cases h
theorem a_Mo_rest (as : List sv_V) (σ : sv_S) (x : Int32 × sv_S) (h : n_Mo_rest as σ = some x) : sv_args 3 ev_Mo_rest.2.2.2.1 as := by
  unfold n_Mo_rest at h
  split at h
  · exact ⟨Nat.le_of_ble_eq_true rfl, fun _ v hv => by
      simp only [List.mem_cons, List.not_mem_nil, or_false] at hv
      rcases hv with rfl | rfl | rfl <;> trivial⟩
  · cases h
theorem g_Mo_rest (as : List sv_V) (σ : sv_S) (x : Option sv_V × sv_S) (h : sv_gI n_Mo_rest as σ = some x) : ∃ r i as', as = sv_R r i :: as' ∧ sv_kd r i = .inl 12 := by
  obtain ⟨_, _, h, -⟩ := sv_b_some h
  unfold n_Mo_rest at h
  split at h
  · exact ⟨_, _, _, rfl, rfl⟩
  · cases h

set_option maxRecDepth 20000 in
theorem m_Mo_rest (l : Launch) : sv_M l yX12_rest cX12_rest 3 (some .int) (sv_gI n_Mo_rest) 2 := by
  refine sv_mI (E := ev_Mo_rest) (by decide +kernel) (ln_gen fk_12 kk_12 (sv_ns _ (fun _ => rfl) _)) rfl ?_ a_Mo_rest b_Mo_rest
  intro p e R s m args below meth c cells slots Q base ad dC dI cA n0 S hkn hR hf pc n f hcs
  refine sv_lk_all (P := fun pc (x : Nat × sv_F) => sv_cok p l e R s m args below meth c cells slots Q base ad dC dI cA true 3 n0 pc x.1 x.2) ?_ pc (n, f) hcs
  exact List.forall_mem_cons.mpr ⟨(sv_cS S hkn (m_Mo_isSlot l) ⟨Nat.le_trans (by decide) hR.1, Nat.le_trans (by decide) hR.2⟩ (by decide) hf (sv_w4 tw_1445 tw_1446 tw_65 tw_1447) (by decide +kernel) (sv_dc3 d_Mo_rest (pc := 1) rfl rfl)).I,
      fun _ h => absurd h List.not_mem_nil⟩
noncomputable def f_Mo_tell (a1 : Int32) (σ : sv_S) : Option (Int32 × sv_S) :=
  sv_if ((σ 30 0 32) = (60 : Int32))
    (some ((-1000000003 : Int32), σ))
    (sv_g (sv_in (σ 30 0 32) 60) (let σ1 := sv_up (sv_up σ 31 31 ((σ 30 0 32).toNatClampNeg) a1) 30 0 32 (((sv_up σ 31 31 ((σ 30 0 32).toNatClampNeg) a1) 30 0 32) + (1 : Int32))
    some (σ1 30 0 32, σ1)))
noncomputable def n_Mo_tell : List sv_V → sv_S → Option (Int32 × sv_S)
  | [.inr (.inr (some (30, 0))), .inl a1], σ => f_Mo_tell a1 σ
  | _, _ => none
def cd_Mo_tell : sv_C := [(0, (.aload_n 0, (sv_N, (1, (0, []))))), (1, (.getfield 317, (sv_N, (4, (0, []))))), (4, (.bipush 60, (.inl (60 : Int32), (6, (0, []))))), (6, (.if_icmp .ne 6, (sv_N, (9, (12, []))))), (9, (.ldc 85, (sv_N, (11, (0, []))))), (11, (.ireturn, (sv_N, (12, (0, []))))), (12, (.aload_n 0, (sv_N, (13, (0, []))))), (13, (.getfield 64, (sv_N, (16, (0, []))))), (16, (.aload_n 0, (sv_N, (17, (0, []))))), (17, (.getfield 317, (sv_N, (20, (0, []))))), (20, (.iload_n 1, (sv_N, (21, (0, []))))), (21, (.iastore, (sv_N, (22, (0, []))))), (22, (.aload_n 0, (sv_N, (23, (0, []))))), (23, (.dup, (sv_N, (24, (0, []))))), (24, (.getfield 317, (sv_N, (27, (0, []))))), (27, (.iconst 1, (.inl (1 : Int32), (28, (0, []))))), (28, (.iadd, (sv_N, (29, (0, []))))), (29, (.putfield 317, (sv_N, (32, (0, []))))), (32, (.aload_n 0, (sv_N, (33, (0, []))))), (33, (.getfield 317, (sv_N, (36, (0, []))))), (36, (.ireturn, (sv_N, (37, (0, [])))))]
noncomputable def ev_Mo_tell : sv_E := (fun i => sv_lk i fl_12, (fun i => sv_lk i kc_12, (fun _ => 0, (true, (fun pc => sv_lk pc [], none)))))
noncomputable def kk_Mo_tell : sv_K (Int32 × sv_S) := fun pc => sv_lk pc []
set_option maxRecDepth 20000 in
theorem e_Mo_tell (a1 : Int32) (σ : sv_S) : sv_ex ev_Mo_tell sv_rI kk_Mo_tell cd_Mo_tell 23 0 [some (.inr (.inr (some (30, 0)))), some (.inl a1)] [] σ = f_Mo_tell a1 σ := by
  unfold f_Mo_tell
  delta ev_Mo_tell kk_Mo_tell
  rfl
theorem d_Mo_tell : cd_Mo_tell.all (sv_dk cX12_tell) = true := by decide +kernel
set_option maxRecDepth 20000 in
theorem b_Mo_tell (Γ : sv_Ga) (res : Int32 × sv_S) (X : sv_Ok Γ ev_Mo_tell cX12_tell sv_rI res) (as : List sv_V) (σ : sv_S) (h : n_Mo_tell as σ = some res) : sv_T Γ 0 (sv_e0 2 as) [] σ := by
  unfold n_Mo_tell at h
  split at h
  · refine sv_run X d_Mo_tell (K := kk_Mo_tell) (sv_lk_all (P := fun pc (k : sv_Lo → List sv_V → sv_S → Option (Int32 × sv_S)) => ∀ lo st σ, k lo st σ = some res → sv_T Γ pc lo st σ) ?_) _ _ _ _ _ ((e_Mo_tell _ _).trans h)
    clear h
    exact fun _ h => absurd h List.not_mem_nil
  · cases h
theorem a_Mo_tell (as : List sv_V) (σ : sv_S) (x : Int32 × sv_S) (h : n_Mo_tell as σ = some x) : sv_args 2 ev_Mo_tell.2.2.2.1 as := by
  unfold n_Mo_tell at h
  split at h
  · exact ⟨Nat.le_of_ble_eq_true rfl, fun _ v hv => by
      simp only [List.mem_cons, List.not_mem_nil, or_false] at hv
      rcases hv with rfl | rfl <;> trivial⟩
  · cases h
theorem g_Mo_tell (as : List sv_V) (σ : sv_S) (x : Option sv_V × sv_S) (h : sv_gI n_Mo_tell as σ = some x) : ∃ r i as', as = sv_R r i :: as' ∧ sv_kd r i = .inl 12 := by
  obtain ⟨_, _, h, -⟩ := sv_b_some h
  unfold n_Mo_tell at h
  split at h
  · exact ⟨_, _, _, rfl, rfl⟩
  · cases h

set_option maxRecDepth 20000 in
theorem m_Mo_tell (l : Launch) : sv_M l yX12_tell cX12_tell 2 (some .int) (sv_gI n_Mo_tell) 0 := by
  refine sv_mI (E := ev_Mo_tell) (by decide +kernel) (ln_gen fk_12 kk_12 (sv_ns _ (fun _ => rfl) _)) rfl ?_ a_Mo_tell b_Mo_tell
  intro p e R s m args below meth c cells slots Q base ad dC dI cA n0 S hkn hR hf pc n f hcs
  refine sv_lk_all (P := fun pc (x : Nat × sv_F) => sv_cok p l e R s m args below meth c cells slots Q base ad dC dI cA true 2 n0 pc x.1 x.2) ?_ pc (n, f) hcs
  exact fun _ h => absurd h List.not_mem_nil
noncomputable def f_Mo_setAside_2 : Nat → Nat → Nat → Int32 → sv_S → Option (sv_S)
  | 0, _, _, _, _ => none
  | n + 1, x1, x2, x3, σ =>
    sv_if ((2886 : Int32) ≤ x3)
      (some σ)
      (sv_g (sv_in x3 (sv_ml x1)) (sv_g (sv_in x3 (sv_ml x2)) (f_Mo_setAside_2 n x1 x2 (x3 + (1 : Int32)) (sv_up σ 31 x2 (x3.toNatClampNeg) (σ 31 x1 (x3.toNatClampNeg))))))
noncomputable def f_Mo_setAside (a1 : Nat) (a2 : Nat) (σ : sv_S) : Option (sv_S) :=
  f_Mo_setAside_2 sv_fu a1 a2 (0 : Int32) σ
noncomputable def n_Mo_setAside : List sv_V → sv_S → Option (sv_S)
  | [.inr (.inr (some (30, 0))), .inr (.inr (some (31, a1))), .inr (.inr (some (31, a2)))], σ => f_Mo_setAside a1 a2 σ
  | _, _ => none
def cd_Mo_setAside : sv_C := [(0, (.iconst 0, (.inl (0 : Int32), (1, (0, []))))), (1, (.istore_n 3, (sv_N, (2, (0, []))))), (2, (.iload_n 3, (sv_N, (3, (0, []))))), (3, (.sipush 2886, (.inl (2886 : Int32), (6, (0, []))))), (6, (.if_icmp .ge 15, (sv_N, (9, (21, []))))), (9, (.aload_n 2, (sv_N, (10, (0, []))))), (10, (.iload_n 3, (sv_N, (11, (0, []))))), (11, (.aload_n 1, (sv_N, (12, (0, []))))), (12, (.iload_n 3, (sv_N, (13, (0, []))))), (13, (.iaload, (sv_N, (14, (0, []))))), (14, (.iastore, (sv_N, (15, (0, []))))), (15, (.iinc 3 1, (.inl (1 : Int32), (18, (0, []))))), (18, (.goto (-16), (sv_N, (21, (2, []))))), (21, (.return_, (sv_N, (22, (0, [])))))]
noncomputable def ev_Mo_setAside : sv_E := (fun i => sv_lk i fl_12, (fun i => sv_lk i kc_12, (fun _ => 0, (true, (fun pc => sv_lk pc [], none)))))
noncomputable def kk_Mo_setAside_2 (n : Nat) : sv_K (sv_S) := fun pc => sv_lk pc [(2, fun lo st σ => match lo, st with
    | [_, some (.inr (.inr (some (31, x1)))), some (.inr (.inr (some (31, x2)))), some (.inl x3)], [] => f_Mo_setAside_2 n x1 x2 x3 σ
    | _, _ => none)]
set_option maxRecDepth 20000 in
theorem e_Mo_setAside_2 (n : Nat) (x1 : Nat) (x2 : Nat) (x3 : Int32) (z0 : Option sv_V) (σ : sv_S) : sv_ex ev_Mo_setAside sv_rV (kk_Mo_setAside_2 n) cd_Mo_setAside 16 2 [z0, some (.inr (.inr (some (31, x1)))), some (.inr (.inr (some (31, x2)))), some (.inl x3)] [] σ = f_Mo_setAside_2 (n + 1) x1 x2 x3 σ := by
  rw [f_Mo_setAside_2.eq_2]
  delta ev_Mo_setAside kk_Mo_setAside_2
  generalize f_Mo_setAside_2 = c0
  rfl
noncomputable def kk_Mo_setAside : sv_K (sv_S) := fun pc => sv_lk pc [(2, fun lo st σ => match lo, st with
    | [_, some (.inr (.inr (some (31, x1)))), some (.inr (.inr (some (31, x2)))), some (.inl x3)], [] => f_Mo_setAside_2 sv_fu x1 x2 x3 σ
    | _, _ => none)]
set_option maxRecDepth 20000 in
theorem e_Mo_setAside (a1 : Nat) (a2 : Nat) (σ : sv_S) : sv_ex ev_Mo_setAside sv_rV kk_Mo_setAside cd_Mo_setAside 16 0 [some (.inr (.inr (some (30, 0)))), some (.inr (.inr (some (31, a1)))), some (.inr (.inr (some (31, a2)))), none] [] σ = f_Mo_setAside a1 a2 σ := by
  unfold f_Mo_setAside
  delta ev_Mo_setAside kk_Mo_setAside
  generalize f_Mo_setAside_2 = c0
  rfl
theorem d_Mo_setAside : cd_Mo_setAside.all (sv_dk cX12_setAside) = true := by decide +kernel
set_option maxRecDepth 20000 in
theorem w_Mo_setAside_2 {Γ : sv_Ga} {res : sv_S} (X : sv_Ok Γ ev_Mo_setAside cX12_setAside sv_rV res) : ∀ (n : Nat) (x1 : Nat) (x2 : Nat) (x3 : Int32) (z0 : Option sv_V) (σ : sv_S), f_Mo_setAside_2 n x1 x2 x3 σ = some res → sv_T Γ 2 [z0, some (.inr (.inr (some (31, x1)))), some (.inr (.inr (some (31, x2)))), some (.inl x3)] [] σ := by
  intro n
  induction n with
  | zero =>
    intro x1 x2 x3 z0 σ h
    rw [f_Mo_setAside_2.eq_1] at h
    cases h
  | succ n ih =>
    intro x1 x2 x3 z0 σ h
    refine sv_run X d_Mo_setAside (K := kk_Mo_setAside_2 n) (sv_lk_all (P := fun pc (k : sv_Lo → List sv_V → sv_S → Option (sv_S)) => ∀ lo st σ, k lo st σ = some res → sv_T Γ pc lo st σ) ?_) _ _ _ _ _ ((e_Mo_setAside_2 n x1 x2 x3 z0 σ).trans h)
    clear h
    refine List.forall_mem_cons.mpr ⟨fun lo st σ h => ?_, fun _ h => absurd h List.not_mem_nil⟩
    · dsimp only at h
      split at h
      · exact ih _ _ _ _ _ h
      · cases h

set_option maxRecDepth 20000 in
theorem b_Mo_setAside (Γ : sv_Ga) (res : sv_S) (X : sv_Ok Γ ev_Mo_setAside cX12_setAside sv_rV res) (as : List sv_V) (σ : sv_S) (h : n_Mo_setAside as σ = some res) : sv_T Γ 0 (sv_e0 4 as) [] σ := by
  unfold n_Mo_setAside at h
  split at h
  · refine sv_run X d_Mo_setAside (K := kk_Mo_setAside) (sv_lk_all (P := fun pc (k : sv_Lo → List sv_V → sv_S → Option (sv_S)) => ∀ lo st σ, k lo st σ = some res → sv_T Γ pc lo st σ) ?_) _ _ _ _ _ ((e_Mo_setAside _ _ _).trans h)
    clear h
    refine List.forall_mem_cons.mpr ⟨fun lo st σ h => ?_, fun _ h => absurd h List.not_mem_nil⟩
    · dsimp only at h
      split at h
      · exact w_Mo_setAside_2 X _ _ _ _ _ _ h
      · cases h
  · cases h
theorem a_Mo_setAside (as : List sv_V) (σ : sv_S) (x : sv_S) (h : n_Mo_setAside as σ = some x) : sv_args 4 ev_Mo_setAside.2.2.2.1 as := by
  unfold n_Mo_setAside at h
  split at h
  · exact ⟨Nat.le_of_ble_eq_true rfl, fun _ v hv => by
      simp only [List.mem_cons, List.not_mem_nil, or_false] at hv
      rcases hv with rfl | rfl | rfl <;> trivial⟩
  · cases h
theorem g_Mo_setAside (as : List sv_V) (σ : sv_S) (x : Option sv_V × sv_S) (h : sv_gV n_Mo_setAside as σ = some x) : ∃ r i as', as = sv_R r i :: as' ∧ sv_kd r i = .inl 12 := by
  obtain ⟨_, h, -⟩ := sv_b0_some h
  unfold n_Mo_setAside at h
  split at h
  · exact ⟨_, _, _, rfl, rfl⟩
  · cases h

set_option maxRecDepth 20000 in
theorem m_Mo_setAside (l : Launch) : sv_M l yX12_setAside cX12_setAside 4 none (sv_gV n_Mo_setAside) 0 := by
  refine sv_mV (E := ev_Mo_setAside) (by decide +kernel) (ln_gen fk_12 kk_12 (sv_ns _ (fun _ => rfl) _)) rfl ?_ a_Mo_setAside b_Mo_setAside
  intro p e R s m args below meth c cells slots Q base ad dC dI cA n0 S hkn hR hf pc n f hcs
  refine sv_lk_all (P := fun pc (x : Nat × sv_F) => sv_cok p l e R s m args below meth c cells slots Q base ad dC dI cA true 4 n0 pc x.1 x.2) ?_ pc (n, f) hcs
  exact fun _ h => absurd h List.not_mem_nil
noncomputable def f_Mo_countsOfAll_4 : Nat → Int32 → Int32 → sv_S → Option (Int32 × sv_S)
  | 0, _, _, _ => none
  | n + 1, x1, x2, σ =>
    sv_g (sv_in (0 : Int32) 3086) (sv_if ((σ 31 0 ((0 : Int32).toNatClampNeg)) ≤ x2)
      (some (x1, σ))
      (sv_b (f_Mo_of x2 (2 : Int32) σ) (fun v1 σ2 =>
        f_Mo_countsOfAll_4 n (x1 + v1) (x2 + (1 : Int32)) σ2)))
noncomputable def f_Mo_countsOfAll (σ : sv_S) : Option (Int32 × sv_S) :=
  f_Mo_countsOfAll_4 sv_fu (0 : Int32) (0 : Int32) σ
noncomputable def n_Mo_countsOfAll : List sv_V → sv_S → Option (Int32 × sv_S)
  | [.inr (.inr (some (30, 0)))], σ => f_Mo_countsOfAll σ
  | _, _ => none
def cd_Mo_countsOfAll : sv_C := [(0, (.iconst 0, (.inl (0 : Int32), (1, (0, []))))), (1, (.istore_n 1, (sv_N, (2, (0, []))))), (2, (.iconst 0, (.inl (0 : Int32), (3, (0, []))))), (3, (.istore_n 2, (sv_N, (4, (0, []))))), (4, (.iload_n 2, (sv_N, (5, (0, []))))), (5, (.aload_n 0, (sv_N, (6, (0, []))))), (6, (.getfield 7, (sv_N, (9, (0, []))))), (9, (.iconst 0, (.inl (0 : Int32), (10, (0, []))))), (10, (.iaload, (sv_N, (11, (0, []))))), (11, (.if_icmp .ge 18, (sv_N, (14, (29, []))))), (14, (.iload_n 1, (sv_N, (15, (0, []))))), (15, (.aload_n 0, (sv_N, (16, (0, []))))), (16, (.iload_n 2, (sv_N, (17, (0, []))))), (17, (.iconst 2, (.inl (2 : Int32), (18, (0, []))))), (18, (.invokevirtual 90, (sv_N, (21, (0, []))))), (21, (.iadd, (sv_N, (22, (0, []))))), (22, (.istore_n 1, (sv_N, (23, (0, []))))), (23, (.iinc 2 1, (.inl (1 : Int32), (26, (0, []))))), (26, (.goto (-22), (sv_N, (29, (4, []))))), (29, (.iload_n 1, (sv_N, (30, (0, []))))), (30, (.ireturn, (sv_N, (31, (0, [])))))]
noncomputable def ev_Mo_countsOfAll : sv_E := (fun i => sv_lk i fl_12, (fun i => sv_lk i kc_12, (fun _ => 0, (true, (fun pc => sv_lk pc [(18, (3, .inl n_Mo_of))], none)))))
noncomputable def kk_Mo_countsOfAll_4 (n : Nat) : sv_K (Int32 × sv_S) := fun pc => sv_lk pc [(4, fun lo st σ => match lo, st with
    | [some (.inr (.inr (some (30, 0)))), some (.inl x1), some (.inl x2)], [] => f_Mo_countsOfAll_4 n x1 x2 σ
    | _, _ => none)]
set_option maxRecDepth 20000 in
theorem e_Mo_countsOfAll_4 (n : Nat) (x1 : Int32) (x2 : Int32) (σ : sv_S) : sv_ex ev_Mo_countsOfAll sv_rI (kk_Mo_countsOfAll_4 n) cd_Mo_countsOfAll 23 4 [some (.inr (.inr (some (30, 0)))), some (.inl x1), some (.inl x2)] [] σ = f_Mo_countsOfAll_4 (n + 1) x1 x2 σ := by
  rw [f_Mo_countsOfAll_4.eq_2]
  delta ev_Mo_countsOfAll kk_Mo_countsOfAll_4 n_Mo_of
  generalize f_Mo_of = c0
  generalize f_Mo_countsOfAll_4 = c1
  rfl
noncomputable def kk_Mo_countsOfAll : sv_K (Int32 × sv_S) := fun pc => sv_lk pc [(4, fun lo st σ => match lo, st with
    | [some (.inr (.inr (some (30, 0)))), some (.inl x1), some (.inl x2)], [] => f_Mo_countsOfAll_4 sv_fu x1 x2 σ
    | _, _ => none)]
set_option maxRecDepth 20000 in
theorem e_Mo_countsOfAll (σ : sv_S) : sv_ex ev_Mo_countsOfAll sv_rI kk_Mo_countsOfAll cd_Mo_countsOfAll 23 0 [some (.inr (.inr (some (30, 0)))), none, none] [] σ = f_Mo_countsOfAll σ := by
  unfold f_Mo_countsOfAll
  delta ev_Mo_countsOfAll kk_Mo_countsOfAll n_Mo_of
  generalize f_Mo_of = c0
  generalize f_Mo_countsOfAll_4 = c1
  rfl
theorem d_Mo_countsOfAll : cd_Mo_countsOfAll.all (sv_dk cX12_countsOfAll) = true := by decide +kernel
set_option maxRecDepth 20000 in
theorem w_Mo_countsOfAll_4 {Γ : sv_Ga} {res : Int32 × sv_S} (X : sv_Ok Γ ev_Mo_countsOfAll cX12_countsOfAll sv_rI res) : ∀ (n : Nat) (x1 : Int32) (x2 : Int32) (σ : sv_S), f_Mo_countsOfAll_4 n x1 x2 σ = some res → sv_T Γ 4 [some (.inr (.inr (some (30, 0)))), some (.inl x1), some (.inl x2)] [] σ := by
  intro n
  induction n with
  | zero =>
    intro x1 x2 σ h
    rw [f_Mo_countsOfAll_4.eq_1] at h
    cases h
  | succ n ih =>
    intro x1 x2 σ h
    refine sv_run X d_Mo_countsOfAll (K := kk_Mo_countsOfAll_4 n) (sv_lk_all (P := fun pc (k : sv_Lo → List sv_V → sv_S → Option (Int32 × sv_S)) => ∀ lo st σ, k lo st σ = some res → sv_T Γ pc lo st σ) ?_) _ _ _ _ _ ((e_Mo_countsOfAll_4 n x1 x2 σ).trans h)
    clear h
    refine List.forall_mem_cons.mpr ⟨fun lo st σ h => ?_, fun _ h => absurd h List.not_mem_nil⟩
    · dsimp only at h
      split at h
      · exact ih _ _ _ h
      · cases h

set_option maxRecDepth 20000 in
theorem b_Mo_countsOfAll (Γ : sv_Ga) (res : Int32 × sv_S) (X : sv_Ok Γ ev_Mo_countsOfAll cX12_countsOfAll sv_rI res) (as : List sv_V) (σ : sv_S) (h : n_Mo_countsOfAll as σ = some res) : sv_T Γ 0 (sv_e0 3 as) [] σ := by
  unfold n_Mo_countsOfAll at h
  split at h
  · refine sv_run X d_Mo_countsOfAll (K := kk_Mo_countsOfAll) (sv_lk_all (P := fun pc (k : sv_Lo → List sv_V → sv_S → Option (Int32 × sv_S)) => ∀ lo st σ, k lo st σ = some res → sv_T Γ pc lo st σ) ?_) _ _ _ _ _ ((e_Mo_countsOfAll _).trans h)
    clear h
    refine List.forall_mem_cons.mpr ⟨fun lo st σ h => ?_, fun _ h => absurd h List.not_mem_nil⟩
    · dsimp only at h
      split at h
      · exact w_Mo_countsOfAll_4 X _ _ _ _ h
      · cases h
  · cases h
theorem a_Mo_countsOfAll (as : List sv_V) (σ : sv_S) (x : Int32 × sv_S) (h : n_Mo_countsOfAll as σ = some x) : sv_args 3 ev_Mo_countsOfAll.2.2.2.1 as := by
  unfold n_Mo_countsOfAll at h
  split at h
  · exact ⟨Nat.le_of_ble_eq_true rfl, fun _ v hv => by
      simp only [List.mem_cons, List.not_mem_nil, or_false] at hv
      rcases hv with rfl <;> trivial⟩
  · cases h
theorem g_Mo_countsOfAll (as : List sv_V) (σ : sv_S) (x : Option sv_V × sv_S) (h : sv_gI n_Mo_countsOfAll as σ = some x) : ∃ r i as', as = sv_R r i :: as' ∧ sv_kd r i = .inl 12 := by
  obtain ⟨_, _, h, -⟩ := sv_b_some h
  unfold n_Mo_countsOfAll at h
  split at h
  · exact ⟨_, _, _, rfl, rfl⟩
  · cases h

set_option maxRecDepth 20000 in
theorem m_Mo_countsOfAll (l : Launch) : sv_M l yX12_countsOfAll cX12_countsOfAll 3 (some .int) (sv_gI n_Mo_countsOfAll) 1 := by
  refine sv_mI (E := ev_Mo_countsOfAll) (by decide +kernel) (ln_gen fk_12 kk_12 (sv_ns _ (fun _ => rfl) _)) rfl ?_ a_Mo_countsOfAll b_Mo_countsOfAll
  intro p e R s m args below meth c cells slots Q base ad dC dI cA n0 S hkn hR hf pc n f hcs
  refine sv_lk_all (P := fun pc (x : Nat × sv_F) => sv_cok p l e R s m args below meth c cells slots Q base ad dC dI cA true 3 n0 pc x.1 x.2) ?_ pc (n, f) hcs
  exact List.forall_mem_cons.mpr ⟨(sv_cV S hkn (m_Mo_of l) ⟨Nat.le_trans (by decide) hR.1, Nat.le_trans (by decide) hR.2⟩ (by decide) hf rfl (g_Mo_of) (sv_w5 tw_1120 tw_1122 tw_10 tw_65 tw_1123) (by decide +kernel) (sv_dc3 d_Mo_countsOfAll (pc := 18) rfl rfl)).I,
      fun _ h => absurd h List.not_mem_nil⟩
noncomputable def f_Mo_check_166 (x2 : Int32) (x3 : Int32) (x4 : Int32) (σ : sv_S) : Option (Int32 × sv_S) :=
    sv_if (x4 = x2)
      (sv_if (x4 = x3)
        (some ((0 : Int32), σ))
        (some ((1 : Int32) + x4, σ)))
      (some ((1 : Int32) + x4, σ))
noncomputable def f_Mo_check_131 : Nat → Int32 → Int32 → Int32 → sv_S → Option (Int32 × sv_S)
  | 0, _, _, _, _ => none
  | n + 1, x2, x3, x4, σ =>
    sv_if (x2 ≤ x4)
      (f_Mo_check_166 x2 x3 x4 σ)
      (sv_if (x3 ≤ x4)
        (f_Mo_check_166 x2 x3 x4 σ)
        (sv_g (sv_in x4 60) (sv_g (sv_in x4 60) (sv_if ((σ 31 31 (x4.toNatClampNeg)) = (σ 31 33 (x4.toNatClampNeg)))
          (f_Mo_check_131 n x2 x3 (x4 + (1 : Int32)) σ)
          (f_Mo_check_166 x2 x3 x4 σ)))))
noncomputable def f_Mo_check_116 (x2 : Int32) (x3 : Int32) (σ : sv_S) : Option (Int32 × sv_S) :=
    sv_b0 (f_Mo_setAside 2 0 σ) (fun σ1 =>
      f_Mo_check_131 sv_fu x2 x3 (0 : Int32) σ1)
noncomputable def f_Mo_check_64 : Nat → Int32 → Int32 → Int32 → Int32 → sv_S → Option (Int32 × sv_S)
  | 0, _, _, _, _, _ => none
  | n + 1, x1, x2, x3, x4, σ =>
    sv_if (x1 ≤ x4)
      (f_Mo_check_116 x2 x3 σ)
      (sv_g (sv_in (3 : Int32) 3086) (sv_if ((9999 : Int32) ≤ (σ 31 0 ((3 : Int32).toNatClampNeg)))
        (f_Mo_check_116 x2 x3 σ)
        (sv_b (f_Mo_goesOn σ) (fun v1 σ2 =>
          sv_b (f_Mo_ones v1 σ2) (fun v3 σ4 =>
            sv_g (sv_in x3 60) (sv_b (f_Mo_countsOfAll (sv_up σ4 31 33 (x3.toNatClampNeg) v3)) (fun v5 σ6 =>
              sv_g (sv_in (x3 + (1 : Int32)) 60) (f_Mo_check_64 n x1 x2 (x3 + (2 : Int32)) (x4 + (1 : Int32)) (sv_up σ6 31 33 ((x3 + (1 : Int32)).toNatClampNeg) v5)))))))))
noncomputable def f_Mo_check (a1 : Int32) (σ : sv_S) : Option (Int32 × sv_S) :=
  let σ1 := sv_up σ 30 0 32 (0 : Int32)
  sv_b (f_Mo_isIn (a1.toInt64) (1 : Int64) (30 : Int64) σ1) (fun v2 σ3 =>
    sv_if (v2 = 0)
      (some ((-1000000001 : Int32), σ3))
      (sv_if ((σ3 30 0 3) = 0)
        (some ((-1000000002 : Int32), σ3))
        (sv_b0 (f_Mo_setAside 0 2 σ3) (fun σ4 =>
          sv_b0 (f_Mo_setAside 1 0 σ4) (fun σ5 =>
            f_Mo_check_64 sv_fu a1 (σ 30 0 32) (0 : Int32) (0 : Int32) σ5)))))
noncomputable def n_Mo_check : List sv_V → sv_S → Option (Int32 × sv_S)
  | [.inr (.inr (some (30, 0))), .inl a1], σ => f_Mo_check a1 σ
  | _, _ => none
def cd_Mo_check : sv_C := [(0, (.aload_n 0, (sv_N, (1, (0, []))))), (1, (.getfield 317, (sv_N, (4, (0, []))))), (4, (.istore_n 2, (sv_N, (5, (0, []))))), (5, (.aload_n 0, (sv_N, (6, (0, []))))), (6, (.iconst 0, (.inl (0 : Int32), (7, (0, []))))), (7, (.putfield 317, (sv_N, (10, (0, []))))), (10, (.iload_n 1, (sv_N, (11, (0, []))))), (11, (.i2l, (sv_N, (12, (0, []))))), (12, (.lconst 1, (.inr (.inl (1 : Int64)), (13, (0, []))))), (13, (.ldc2_w 192, (sv_N, (16, (0, []))))), (16, (.invokestatic 71, (sv_N, (19, (0, []))))), (19, (.ifCond .ne 6, (sv_N, (22, (25, []))))), (22, (.ldc 84, (sv_N, (24, (0, []))))), (24, (.ireturn, (sv_N, (25, (0, []))))), (25, (.aload_n 0, (sv_N, (26, (0, []))))), (26, (.getfield 320, (sv_N, (29, (0, []))))), (29, (.ifCond .ne 6, (sv_N, (32, (35, []))))), (32, (.ldc 153, (sv_N, (34, (0, []))))), (34, (.ireturn, (sv_N, (35, (0, []))))), (35, (.aload_n 0, (sv_N, (36, (0, []))))), (36, (.aload_n 0, (sv_N, (37, (0, []))))), (37, (.getfield 7, (sv_N, (40, (0, []))))), (40, (.aload_n 0, (sv_N, (41, (0, []))))), (41, (.getfield 16, (sv_N, (44, (0, []))))), (44, (.invokevirtual 324, (sv_N, (47, (0, []))))), (47, (.aload_n 0, (sv_N, (48, (0, []))))), (48, (.aload_n 0, (sv_N, (49, (0, []))))), (49, (.getfield 13, (sv_N, (52, (0, []))))), (52, (.aload_n 0, (sv_N, (53, (0, []))))), (53, (.getfield 7, (sv_N, (56, (0, []))))), (56, (.invokevirtual 324, (sv_N, (59, (0, []))))), (59, (.iconst 0, (.inl (0 : Int32), (60, (0, []))))), (60, (.istore_n 3, (sv_N, (61, (0, []))))), (61, (.iconst 0, (.inl (0 : Int32), (62, (0, []))))), (62, (.istore 4, (sv_N, (64, (0, []))))), (64, (.iload 4, (sv_N, (66, (0, []))))), (66, (.iload_n 1, (sv_N, (67, (0, []))))), (67, (.if_icmp .ge 49, (sv_N, (70, (116, []))))), (70, (.aload_n 0, (sv_N, (71, (0, []))))), (71, (.getfield 7, (sv_N, (74, (0, []))))), (74, (.iconst 3, (.inl (3 : Int32), (75, (0, []))))), (75, (.iaload, (sv_N, (76, (0, []))))), (76, (.sipush 9999, (.inl (9999 : Int32), (79, (0, []))))), (79, (.if_icmp .ge 37, (sv_N, (82, (116, []))))), (82, (.aload_n 0, (sv_N, (83, (0, []))))), (83, (.getfield 67, (sv_N, (86, (0, []))))), (86, (.iload_n 3, (sv_N, (87, (0, []))))), (87, (.aload_n 0, (sv_N, (88, (0, []))))), (88, (.invokevirtual 154, (sv_N, (91, (0, []))))), (91, (.invokestatic 157, (sv_N, (94, (0, []))))), (94, (.iastore, (sv_N, (95, (0, []))))), (95, (.aload_n 0, (sv_N, (96, (0, []))))), (96, (.getfield 67, (sv_N, (99, (0, []))))), (99, (.iload_n 3, (sv_N, (100, (0, []))))), (100, (.iconst 1, (.inl (1 : Int32), (101, (0, []))))), (101, (.iadd, (sv_N, (102, (0, []))))), (102, (.aload_n 0, (sv_N, (103, (0, []))))), (103, (.invokevirtual 328, (sv_N, (106, (0, []))))), (106, (.iastore, (sv_N, (107, (0, []))))), (107, (.iinc 3 2, (.inl (2 : Int32), (110, (0, []))))), (110, (.iinc 4 1, (.inl (1 : Int32), (113, (0, []))))), (113, (.goto (-49), (sv_N, (116, (64, []))))), (116, (.aload_n 0, (sv_N, (117, (0, []))))), (117, (.aload_n 0, (sv_N, (118, (0, []))))), (118, (.getfield 16, (sv_N, (121, (0, []))))), (121, (.aload_n 0, (sv_N, (122, (0, []))))), (122, (.getfield 7, (sv_N, (125, (0, []))))), (125, (.invokevirtual 324, (sv_N, (128, (0, []))))), (128, (.iconst 0, (.inl (0 : Int32), (129, (0, []))))), (129, (.istore 4, (sv_N, (131, (0, []))))), (131, (.iload 4, (sv_N, (133, (0, []))))), (133, (.iload_n 2, (sv_N, (134, (0, []))))), (134, (.if_icmp .ge 32, (sv_N, (137, (166, []))))), (137, (.iload 4, (sv_N, (139, (0, []))))), (139, (.iload_n 3, (sv_N, (140, (0, []))))), (140, (.if_icmp .ge 26, (sv_N, (143, (166, []))))), (143, (.aload_n 0, (sv_N, (144, (0, []))))), (144, (.getfield 64, (sv_N, (147, (0, []))))), (147, (.iload 4, (sv_N, (149, (0, []))))), (149, (.iaload, (sv_N, (150, (0, []))))), (150, (.aload_n 0, (sv_N, (151, (0, []))))), (151, (.getfield 67, (sv_N, (154, (0, []))))), (154, (.iload 4, (sv_N, (156, (0, []))))), (156, (.iaload, (sv_N, (157, (0, []))))), (157, (.if_icmp .ne 9, (sv_N, (160, (166, []))))), (160, (.iinc 4 1, (.inl (1 : Int32), (163, (0, []))))), (163, (.goto (-32), (sv_N, (166, (131, []))))), (166, (.iload 4, (sv_N, (168, (0, []))))), (168, (.iload_n 2, (sv_N, (169, (0, []))))), (169, (.if_icmp .ne 13, (sv_N, (172, (182, []))))), (172, (.iload 4, (sv_N, (174, (0, []))))), (174, (.iload_n 3, (sv_N, (175, (0, []))))), (175, (.if_icmp .ne 7, (sv_N, (178, (182, []))))), (178, (.iconst 0, (.inl (0 : Int32), (179, (0, []))))), (179, (.goto 7, (sv_N, (182, (186, []))))), (182, (.iconst 1, (.inl (1 : Int32), (183, (0, []))))), (183, (.iload 4, (sv_N, (185, (0, []))))), (185, (.iadd, (sv_N, (186, (0, []))))), (186, (.ireturn, (sv_N, (187, (0, [])))))]
noncomputable def ev_Mo_check : sv_E := (fun i => sv_lk i fl_12, (fun i => sv_lk i kc_12, (fun _ => 0, (true, (fun pc => sv_lk pc [(16, (3, .inl n_Mo_isIn)), (44, (3, .inr (.inl n_Mo_setAside))), (56, (3, .inr (.inl n_Mo_setAside))), (88, (1, .inl n_Mo_goesOn)), (91, (1, .inl n_Mo_ones)), (103, (1, .inl n_Mo_countsOfAll)), (125, (3, .inr (.inl n_Mo_setAside)))], none)))))
noncomputable def kk_Mo_check_166 : sv_K (Int32 × sv_S) := fun pc => sv_lk pc []
set_option maxRecDepth 20000 in
theorem e_Mo_check_166 (x2 : Int32) (x3 : Int32) (x4 : Int32) (z0 z1 : Option sv_V) (σ : sv_S) : sv_ex ev_Mo_check sv_rI (kk_Mo_check_166) cd_Mo_check 101 166 [z0, z1, some (.inl x2), some (.inl x3), some (.inl x4)] [] σ = f_Mo_check_166 x2 x3 x4 σ := by
  unfold f_Mo_check_166
  delta ev_Mo_check kk_Mo_check_166 n_Mo_isIn n_Mo_setAside n_Mo_goesOn n_Mo_ones n_Mo_countsOfAll
  generalize f_Mo_isIn = c0
  generalize f_Mo_setAside = c1
  generalize f_Mo_goesOn = c2
  generalize f_Mo_ones = c3
  generalize f_Mo_countsOfAll = c4
  rfl
noncomputable def kk_Mo_check_131 (n : Nat) : sv_K (Int32 × sv_S) := fun pc => sv_lk pc [(131, fun lo st σ => match lo, st with
    | [some (.inr (.inr (some (30, 0)))), _, some (.inl x2), some (.inl x3), some (.inl x4)], [] => f_Mo_check_131 n x2 x3 x4 σ
    | _, _ => none),
  (166, fun lo st σ => match lo, st with
    | [_, _, some (.inl x2), some (.inl x3), some (.inl x4)], [] => f_Mo_check_166 x2 x3 x4 σ
    | _, _ => none)]
set_option maxRecDepth 20000 in
theorem e_Mo_check_131 (n : Nat) (x2 : Int32) (x3 : Int32) (x4 : Int32) (z1 : Option sv_V) (σ : sv_S) : sv_ex ev_Mo_check sv_rI (kk_Mo_check_131 n) cd_Mo_check 101 131 [some (.inr (.inr (some (30, 0)))), z1, some (.inl x2), some (.inl x3), some (.inl x4)] [] σ = f_Mo_check_131 (n + 1) x2 x3 x4 σ := by
  rw [f_Mo_check_131.eq_2]
  delta ev_Mo_check kk_Mo_check_131 n_Mo_isIn n_Mo_setAside n_Mo_goesOn n_Mo_ones n_Mo_countsOfAll
  generalize f_Mo_isIn = c0
  generalize f_Mo_setAside = c1
  generalize f_Mo_goesOn = c2
  generalize f_Mo_ones = c3
  generalize f_Mo_countsOfAll = c4
  generalize f_Mo_check_131 = c5
  generalize f_Mo_check_166 = c6
  rfl
noncomputable def kk_Mo_check_116 : sv_K (Int32 × sv_S) := fun pc => sv_lk pc [(131, fun lo st σ => match lo, st with
    | [some (.inr (.inr (some (30, 0)))), _, some (.inl x2), some (.inl x3), some (.inl x4)], [] => f_Mo_check_131 sv_fu x2 x3 x4 σ
    | _, _ => none)]
set_option maxRecDepth 20000 in
theorem e_Mo_check_116 (x2 : Int32) (x3 : Int32) (z1 z4 : Option sv_V) (σ : sv_S) : sv_ex ev_Mo_check sv_rI (kk_Mo_check_116) cd_Mo_check 101 116 [some (.inr (.inr (some (30, 0)))), z1, some (.inl x2), some (.inl x3), z4] [] σ = f_Mo_check_116 x2 x3 σ := by
  unfold f_Mo_check_116
  delta ev_Mo_check kk_Mo_check_116 n_Mo_isIn n_Mo_setAside n_Mo_goesOn n_Mo_ones n_Mo_countsOfAll
  generalize f_Mo_isIn = c0
  generalize f_Mo_setAside = c1
  generalize f_Mo_goesOn = c2
  generalize f_Mo_ones = c3
  generalize f_Mo_countsOfAll = c4
  generalize f_Mo_check_131 = c5
  rfl
noncomputable def kk_Mo_check_64 (n : Nat) : sv_K (Int32 × sv_S) := fun pc => sv_lk pc [(64, fun lo st σ => match lo, st with
    | [some (.inr (.inr (some (30, 0)))), some (.inl x1), some (.inl x2), some (.inl x3), some (.inl x4)], [] => f_Mo_check_64 n x1 x2 x3 x4 σ
    | _, _ => none),
  (116, fun lo st σ => match lo, st with
    | [some (.inr (.inr (some (30, 0)))), _, some (.inl x2), some (.inl x3), _], [] => f_Mo_check_116 x2 x3 σ
    | _, _ => none)]
set_option maxRecDepth 20000 in
theorem e_Mo_check_64 (n : Nat) (x1 : Int32) (x2 : Int32) (x3 : Int32) (x4 : Int32) (σ : sv_S) : sv_ex ev_Mo_check sv_rI (kk_Mo_check_64 n) cd_Mo_check 101 64 [some (.inr (.inr (some (30, 0)))), some (.inl x1), some (.inl x2), some (.inl x3), some (.inl x4)] [] σ = f_Mo_check_64 (n + 1) x1 x2 x3 x4 σ := by
  rw [f_Mo_check_64.eq_2]
  delta ev_Mo_check kk_Mo_check_64 n_Mo_isIn n_Mo_setAside n_Mo_goesOn n_Mo_ones n_Mo_countsOfAll
  generalize f_Mo_isIn = c0
  generalize f_Mo_setAside = c1
  generalize f_Mo_goesOn = c2
  generalize f_Mo_ones = c3
  generalize f_Mo_countsOfAll = c4
  generalize f_Mo_check_64 = c5
  generalize f_Mo_check_116 = c6
  rfl
noncomputable def kk_Mo_check : sv_K (Int32 × sv_S) := fun pc => sv_lk pc [(64, fun lo st σ => match lo, st with
    | [some (.inr (.inr (some (30, 0)))), some (.inl x1), some (.inl x2), some (.inl x3), some (.inl x4)], [] => f_Mo_check_64 sv_fu x1 x2 x3 x4 σ
    | _, _ => none)]
set_option maxRecDepth 20000 in
theorem e_Mo_check (a1 : Int32) (σ : sv_S) : sv_ex ev_Mo_check sv_rI kk_Mo_check cd_Mo_check 101 0 [some (.inr (.inr (some (30, 0)))), some (.inl a1), none, none, none] [] σ = f_Mo_check a1 σ := by
  unfold f_Mo_check
  delta ev_Mo_check kk_Mo_check n_Mo_isIn n_Mo_setAside n_Mo_goesOn n_Mo_ones n_Mo_countsOfAll
  generalize f_Mo_isIn = c0
  generalize f_Mo_setAside = c1
  generalize f_Mo_goesOn = c2
  generalize f_Mo_ones = c3
  generalize f_Mo_countsOfAll = c4
  generalize f_Mo_check_64 = c5
  rfl
theorem d_Mo_check : cd_Mo_check.all (sv_dk cX12_check) = true := by decide +kernel
set_option maxRecDepth 20000 in
theorem w_Mo_check_166 {Γ : sv_Ga} {res : Int32 × sv_S} (X : sv_Ok Γ ev_Mo_check cX12_check sv_rI res) : ∀ (x2 : Int32) (x3 : Int32) (x4 : Int32) (z0 z1 : Option sv_V) (σ : sv_S), f_Mo_check_166 x2 x3 x4 σ = some res → sv_T Γ 166 [z0, z1, some (.inl x2), some (.inl x3), some (.inl x4)] [] σ := by
  intro x2 x3 x4 z0 z1 σ h
  refine sv_run X d_Mo_check (K := kk_Mo_check_166) (sv_lk_all (P := fun pc (k : sv_Lo → List sv_V → sv_S → Option (Int32 × sv_S)) => ∀ lo st σ, k lo st σ = some res → sv_T Γ pc lo st σ) ?_) _ _ _ _ _ ((e_Mo_check_166 x2 x3 x4 z0 z1 σ).trans h)
  clear h
  exact fun _ h => absurd h List.not_mem_nil

set_option maxRecDepth 20000 in
theorem w_Mo_check_131 {Γ : sv_Ga} {res : Int32 × sv_S} (X : sv_Ok Γ ev_Mo_check cX12_check sv_rI res) : ∀ (n : Nat) (x2 : Int32) (x3 : Int32) (x4 : Int32) (z1 : Option sv_V) (σ : sv_S), f_Mo_check_131 n x2 x3 x4 σ = some res → sv_T Γ 131 [some (.inr (.inr (some (30, 0)))), z1, some (.inl x2), some (.inl x3), some (.inl x4)] [] σ := by
  intro n
  induction n with
  | zero =>
    intro x2 x3 x4 z1 σ h
    rw [f_Mo_check_131.eq_1] at h
    cases h
  | succ n ih =>
    intro x2 x3 x4 z1 σ h
    refine sv_run X d_Mo_check (K := kk_Mo_check_131 n) (sv_lk_all (P := fun pc (k : sv_Lo → List sv_V → sv_S → Option (Int32 × sv_S)) => ∀ lo st σ, k lo st σ = some res → sv_T Γ pc lo st σ) ?_) _ _ _ _ _ ((e_Mo_check_131 n x2 x3 x4 z1 σ).trans h)
    clear h
    refine List.forall_mem_cons.mpr ⟨fun lo st σ h => ?_, List.forall_mem_cons.mpr ⟨fun lo st σ h => ?_, fun _ h => absurd h List.not_mem_nil⟩⟩
    · dsimp only at h
      split at h
      · exact ih _ _ _ _ _ h
      · cases h
    · dsimp only at h
      split at h
      · exact w_Mo_check_166 X _ _ _ _ _ _ h
      · cases h

set_option maxRecDepth 20000 in
theorem w_Mo_check_116 {Γ : sv_Ga} {res : Int32 × sv_S} (X : sv_Ok Γ ev_Mo_check cX12_check sv_rI res) : ∀ (x2 : Int32) (x3 : Int32) (z1 z4 : Option sv_V) (σ : sv_S), f_Mo_check_116 x2 x3 σ = some res → sv_T Γ 116 [some (.inr (.inr (some (30, 0)))), z1, some (.inl x2), some (.inl x3), z4] [] σ := by
  intro x2 x3 z1 z4 σ h
  refine sv_run X d_Mo_check (K := kk_Mo_check_116) (sv_lk_all (P := fun pc (k : sv_Lo → List sv_V → sv_S → Option (Int32 × sv_S)) => ∀ lo st σ, k lo st σ = some res → sv_T Γ pc lo st σ) ?_) _ _ _ _ _ ((e_Mo_check_116 x2 x3 z1 z4 σ).trans h)
  clear h
  refine List.forall_mem_cons.mpr ⟨fun lo st σ h => ?_, fun _ h => absurd h List.not_mem_nil⟩
  · dsimp only at h
    split at h
    · exact w_Mo_check_131 X _ _ _ _ _ _ h
    · cases h

set_option maxRecDepth 20000 in
theorem w_Mo_check_64 {Γ : sv_Ga} {res : Int32 × sv_S} (X : sv_Ok Γ ev_Mo_check cX12_check sv_rI res) : ∀ (n : Nat) (x1 : Int32) (x2 : Int32) (x3 : Int32) (x4 : Int32) (σ : sv_S), f_Mo_check_64 n x1 x2 x3 x4 σ = some res → sv_T Γ 64 [some (.inr (.inr (some (30, 0)))), some (.inl x1), some (.inl x2), some (.inl x3), some (.inl x4)] [] σ := by
  intro n
  induction n with
  | zero =>
    intro x1 x2 x3 x4 σ h
    rw [f_Mo_check_64.eq_1] at h
    cases h
  | succ n ih =>
    intro x1 x2 x3 x4 σ h
    refine sv_run X d_Mo_check (K := kk_Mo_check_64 n) (sv_lk_all (P := fun pc (k : sv_Lo → List sv_V → sv_S → Option (Int32 × sv_S)) => ∀ lo st σ, k lo st σ = some res → sv_T Γ pc lo st σ) ?_) _ _ _ _ _ ((e_Mo_check_64 n x1 x2 x3 x4 σ).trans h)
    clear h
    refine List.forall_mem_cons.mpr ⟨fun lo st σ h => ?_, List.forall_mem_cons.mpr ⟨fun lo st σ h => ?_, fun _ h => absurd h List.not_mem_nil⟩⟩
    · dsimp only at h
      split at h
      · exact ih _ _ _ _ _ h
      · cases h
    · dsimp only at h
      split at h
      · exact w_Mo_check_116 X _ _ _ _ _ h
      · cases h

set_option maxRecDepth 20000 in
theorem b_Mo_check (Γ : sv_Ga) (res : Int32 × sv_S) (X : sv_Ok Γ ev_Mo_check cX12_check sv_rI res) (as : List sv_V) (σ : sv_S) (h : n_Mo_check as σ = some res) : sv_T Γ 0 (sv_e0 5 as) [] σ := by
  unfold n_Mo_check at h
  split at h
  · refine sv_run X d_Mo_check (K := kk_Mo_check) (sv_lk_all (P := fun pc (k : sv_Lo → List sv_V → sv_S → Option (Int32 × sv_S)) => ∀ lo st σ, k lo st σ = some res → sv_T Γ pc lo st σ) ?_) _ _ _ _ _ ((e_Mo_check _ _).trans h)
    clear h
    refine List.forall_mem_cons.mpr ⟨fun lo st σ h => ?_, fun _ h => absurd h List.not_mem_nil⟩
    · dsimp only at h
      split at h
      · exact w_Mo_check_64 X _ _ _ _ _ _ h
      · cases h
  · cases h
theorem a_Mo_check (as : List sv_V) (σ : sv_S) (x : Int32 × sv_S) (h : n_Mo_check as σ = some x) : sv_args 5 ev_Mo_check.2.2.2.1 as := by
  unfold n_Mo_check at h
  split at h
  · exact ⟨Nat.le_of_ble_eq_true rfl, fun _ v hv => by
      simp only [List.mem_cons, List.not_mem_nil, or_false] at hv
      rcases hv with rfl | rfl <;> trivial⟩
  · cases h
theorem g_Mo_check (as : List sv_V) (σ : sv_S) (x : Option sv_V × sv_S) (h : sv_gI n_Mo_check as σ = some x) : ∃ r i as', as = sv_R r i :: as' ∧ sv_kd r i = .inl 12 := by
  obtain ⟨_, _, h, -⟩ := sv_b_some h
  unfold n_Mo_check at h
  split at h
  · exact ⟨_, _, _, rfl, rfl⟩
  · cases h
theorem tw_49 : Cond.selects RX12 yX12_setAside yX12_setAside ∈ gw_tbl := gw_at 49 (by decide +kernel) rfl
theorem tw_50 : Cond.selects RX12 yX12_countsOfAll yX12_countsOfAll ∈ gw_tbl := gw_at 50 (by decide +kernel) rfl
theorem tw_1469 : Cond.methodLink RX12 324 yX12_setAside ∈ gw_tbl := gw_at 1469 (by decide +kernel) rfl
theorem tw_1471 : Cond.instanceMethod yX12_setAside ∈ gw_tbl := gw_at 1471 (by decide +kernel) rfl
theorem tw_1472 : Cond.code yX12_setAside cX12_setAside 4 none ∈ gw_tbl := gw_at 1472 (by decide +kernel) rfl
theorem tw_1473 : Cond.methodLink RX12 328 yX12_countsOfAll ∈ gw_tbl := gw_at 1473 (by decide +kernel) rfl
theorem tw_1475 : Cond.instanceMethod yX12_countsOfAll ∈ gw_tbl := gw_at 1475 (by decide +kernel) rfl
theorem tw_1476 : Cond.code yX12_countsOfAll cX12_countsOfAll 3 (some .int) ∈ gw_tbl := gw_at 1476 (by decide +kernel) rfl
set_option maxRecDepth 20000 in
theorem m_Mo_check (l : Launch) : sv_M l yX12_check cX12_check 5 (some .int) (sv_gI n_Mo_check) 5 := by
  refine sv_mI (E := ev_Mo_check) (by decide +kernel) (ln_gen fk_12 kk_12 (sv_ns _ (fun _ => rfl) _)) rfl ?_ a_Mo_check b_Mo_check
  intro p e R s m args below meth c cells slots Q base ad dC dI cA n0 S hkn hR hf pc n f hcs
  refine sv_lk_all (P := fun pc (x : Nat × sv_F) => sv_cok p l e R s m args below meth c cells slots Q base ad dC dI cA true 5 n0 pc x.1 x.2) ?_ pc (n, f) hcs
  exact List.forall_mem_cons.mpr ⟨(sv_cS S hkn (m_Mo_isIn l) ⟨Nat.le_trans (by decide) hR.1, Nat.le_trans (by decide) hR.2⟩ (by decide) hf (sv_w4 tw_1098 tw_1099 tw_65 tw_1100) (by decide +kernel) (sv_dc3 d_Mo_check (pc := 16) rfl rfl)).I,
      List.forall_mem_cons.mpr ⟨(sv_cV S hkn (m_Mo_setAside l) ⟨Nat.le_trans (by decide) hR.1, Nat.le_trans (by decide) hR.2⟩ (by decide) hf rfl (g_Mo_setAside) (sv_w5 tw_1469 tw_1471 tw_49 tw_65 tw_1472) (by decide +kernel) (sv_dc3 d_Mo_check (pc := 44) rfl rfl)).V,
      List.forall_mem_cons.mpr ⟨(sv_cV S hkn (m_Mo_setAside l) ⟨Nat.le_trans (by decide) hR.1, Nat.le_trans (by decide) hR.2⟩ (by decide) hf rfl (g_Mo_setAside) (sv_w5 tw_1469 tw_1471 tw_49 tw_65 tw_1472) (by decide +kernel) (sv_dc3 d_Mo_check (pc := 56) rfl rfl)).V,
      List.forall_mem_cons.mpr ⟨(sv_cV S hkn (m_Mo_goesOn l) ⟨Nat.le_trans (by decide) hR.1, Nat.le_trans (by decide) hR.2⟩ (by decide) hf rfl (g_Mo_goesOn) (sv_w5 tw_1232 tw_1234 tw_25 tw_65 tw_1235) (by decide +kernel) (sv_dc3 d_Mo_check (pc := 88) rfl rfl)).I,
      List.forall_mem_cons.mpr ⟨(sv_cS S hkn (m_Mo_ones l) ⟨Nat.le_trans (by decide) hR.1, Nat.le_trans (by decide) hR.2⟩ (by decide) hf (sv_w4 tw_1236 tw_1237 tw_65 tw_1238) (by decide +kernel) (sv_dc3 d_Mo_check (pc := 91) rfl rfl)).I,
      List.forall_mem_cons.mpr ⟨(sv_cV S hkn (m_Mo_countsOfAll l) ⟨Nat.le_trans (by decide) hR.1, Nat.le_trans (by decide) hR.2⟩ (by decide) hf rfl (g_Mo_countsOfAll) (sv_w5 tw_1473 tw_1475 tw_50 tw_65 tw_1476) (by decide +kernel) (sv_dc3 d_Mo_check (pc := 103) rfl rfl)).I,
      List.forall_mem_cons.mpr ⟨(sv_cV S hkn (m_Mo_setAside l) ⟨Nat.le_trans (by decide) hR.1, Nat.le_trans (by decide) hR.2⟩ (by decide) hf rfl (g_Mo_setAside) (sv_w5 tw_1469 tw_1471 tw_49 tw_65 tw_1472) (by decide +kernel) (sv_dc3 d_Mo_check (pc := 125) rfl rfl)).V,
      fun _ h => absurd h List.not_mem_nil⟩⟩⟩⟩⟩⟩⟩
noncomputable def f_Mo_keep (σ : sv_S) : Option (Int32 × sv_S) :=
  sv_g ((1 : Int32) = 0 ∨ (1 : Int32) = 1) (sv_b0 (f_Mo_setAside 0 1 (sv_up σ 30 0 3 (1 : Int32))) (fun σ1 =>
    sv_g (sv_in (0 : Int32) 3086) (some (σ1 31 0 ((0 : Int32).toNatClampNeg), σ1))))
noncomputable def n_Mo_keep : List sv_V → sv_S → Option (Int32 × sv_S)
  | [.inr (.inr (some (30, 0)))], σ => f_Mo_keep σ
  | _, _ => none
def cd_Mo_keep : sv_C := [(0, (.aload_n 0, (sv_N, (1, (0, []))))), (1, (.iconst 1, (.inl (1 : Int32), (2, (0, []))))), (2, (.putfield 320, (sv_N, (5, (0, []))))), (5, (.aload_n 0, (sv_N, (6, (0, []))))), (6, (.aload_n 0, (sv_N, (7, (0, []))))), (7, (.getfield 7, (sv_N, (10, (0, []))))), (10, (.aload_n 0, (sv_N, (11, (0, []))))), (11, (.getfield 13, (sv_N, (14, (0, []))))), (14, (.invokevirtual 324, (sv_N, (17, (0, []))))), (17, (.aload_n 0, (sv_N, (18, (0, []))))), (18, (.getfield 7, (sv_N, (21, (0, []))))), (21, (.iconst 0, (.inl (0 : Int32), (22, (0, []))))), (22, (.iaload, (sv_N, (23, (0, []))))), (23, (.ireturn, (sv_N, (24, (0, [])))))]
noncomputable def ev_Mo_keep : sv_E := (fun i => sv_lk i fl_12, (fun i => sv_lk i kc_12, (fun _ => 0, (true, (fun pc => sv_lk pc [(14, (3, .inr (.inl n_Mo_setAside)))], none)))))
noncomputable def kk_Mo_keep : sv_K (Int32 × sv_S) := fun pc => sv_lk pc []
set_option maxRecDepth 20000 in
theorem e_Mo_keep (σ : sv_S) : sv_ex ev_Mo_keep sv_rI kk_Mo_keep cd_Mo_keep 16 0 [some (.inr (.inr (some (30, 0))))] [] σ = f_Mo_keep σ := by
  unfold f_Mo_keep
  delta ev_Mo_keep kk_Mo_keep n_Mo_setAside
  generalize f_Mo_setAside = c0
  rfl
theorem d_Mo_keep : cd_Mo_keep.all (sv_dk cX12_keep) = true := by decide +kernel
set_option maxRecDepth 20000 in
theorem b_Mo_keep (Γ : sv_Ga) (res : Int32 × sv_S) (X : sv_Ok Γ ev_Mo_keep cX12_keep sv_rI res) (as : List sv_V) (σ : sv_S) (h : n_Mo_keep as σ = some res) : sv_T Γ 0 (sv_e0 1 as) [] σ := by
  unfold n_Mo_keep at h
  split at h
  · refine sv_run X d_Mo_keep (K := kk_Mo_keep) (sv_lk_all (P := fun pc (k : sv_Lo → List sv_V → sv_S → Option (Int32 × sv_S)) => ∀ lo st σ, k lo st σ = some res → sv_T Γ pc lo st σ) ?_) _ _ _ _ _ ((e_Mo_keep _).trans h)
    clear h
    exact fun _ h => absurd h List.not_mem_nil
  · cases h
theorem a_Mo_keep (as : List sv_V) (σ : sv_S) (x : Int32 × sv_S) (h : n_Mo_keep as σ = some x) : sv_args 1 ev_Mo_keep.2.2.2.1 as := by
  unfold n_Mo_keep at h
  split at h
  · exact ⟨Nat.le_of_ble_eq_true rfl, fun _ v hv => by
      simp only [List.mem_cons, List.not_mem_nil, or_false] at hv
      rcases hv with rfl <;> trivial⟩
  · cases h
theorem g_Mo_keep (as : List sv_V) (σ : sv_S) (x : Option sv_V × sv_S) (h : sv_gI n_Mo_keep as σ = some x) : ∃ r i as', as = sv_R r i :: as' ∧ sv_kd r i = .inl 12 := by
  obtain ⟨_, _, h, -⟩ := sv_b_some h
  unfold n_Mo_keep at h
  split at h
  · exact ⟨_, _, _, rfl, rfl⟩
  · cases h

set_option maxRecDepth 20000 in
theorem m_Mo_keep (l : Launch) : sv_M l yX12_keep cX12_keep 1 (some .int) (sv_gI n_Mo_keep) 1 := by
  refine sv_mI (E := ev_Mo_keep) (by decide +kernel) (ln_gen fk_12 kk_12 (sv_ns _ (fun _ => rfl) _)) rfl ?_ a_Mo_keep b_Mo_keep
  intro p e R s m args below meth c cells slots Q base ad dC dI cA n0 S hkn hR hf pc n f hcs
  refine sv_lk_all (P := fun pc (x : Nat × sv_F) => sv_cok p l e R s m args below meth c cells slots Q base ad dC dI cA true 1 n0 pc x.1 x.2) ?_ pc (n, f) hcs
  exact List.forall_mem_cons.mpr ⟨(sv_cV S hkn (m_Mo_setAside l) ⟨Nat.le_trans (by decide) hR.1, Nat.le_trans (by decide) hR.2⟩ (by decide) hf rfl (g_Mo_setAside) (sv_w5 tw_1469 tw_1471 tw_49 tw_65 tw_1472) (by decide +kernel) (sv_dc3 d_Mo_keep (pc := 14) rfl rfl)).V,
      fun _ h => absurd h List.not_mem_nil⟩
noncomputable def f_Mo_back (σ : sv_S) : Option (Int32 × sv_S) :=
  sv_if ((σ 30 0 3) = 0)
    (some ((-1000000002 : Int32), σ))
    (sv_b0 (f_Mo_setAside 1 0 σ) (fun σ1 =>
      sv_g (sv_in (0 : Int32) 3086) (some (σ1 31 0 ((0 : Int32).toNatClampNeg), σ1))))
noncomputable def n_Mo_back : List sv_V → sv_S → Option (Int32 × sv_S)
  | [.inr (.inr (some (30, 0)))], σ => f_Mo_back σ
  | _, _ => none
def cd_Mo_back : sv_C := [(0, (.aload_n 0, (sv_N, (1, (0, []))))), (1, (.getfield 320, (sv_N, (4, (0, []))))), (4, (.ifCond .ne 6, (sv_N, (7, (10, []))))), (7, (.ldc 153, (sv_N, (9, (0, []))))), (9, (.ireturn, (sv_N, (10, (0, []))))), (10, (.aload_n 0, (sv_N, (11, (0, []))))), (11, (.aload_n 0, (sv_N, (12, (0, []))))), (12, (.getfield 13, (sv_N, (15, (0, []))))), (15, (.aload_n 0, (sv_N, (16, (0, []))))), (16, (.getfield 7, (sv_N, (19, (0, []))))), (19, (.invokevirtual 324, (sv_N, (22, (0, []))))), (22, (.aload_n 0, (sv_N, (23, (0, []))))), (23, (.getfield 7, (sv_N, (26, (0, []))))), (26, (.iconst 0, (.inl (0 : Int32), (27, (0, []))))), (27, (.iaload, (sv_N, (28, (0, []))))), (28, (.ireturn, (sv_N, (29, (0, [])))))]
noncomputable def ev_Mo_back : sv_E := (fun i => sv_lk i fl_12, (fun i => sv_lk i kc_12, (fun _ => 0, (true, (fun pc => sv_lk pc [(19, (3, .inr (.inl n_Mo_setAside)))], none)))))
noncomputable def kk_Mo_back : sv_K (Int32 × sv_S) := fun pc => sv_lk pc []
set_option maxRecDepth 20000 in
theorem e_Mo_back (σ : sv_S) : sv_ex ev_Mo_back sv_rI kk_Mo_back cd_Mo_back 18 0 [some (.inr (.inr (some (30, 0))))] [] σ = f_Mo_back σ := by
  unfold f_Mo_back
  delta ev_Mo_back kk_Mo_back n_Mo_setAside
  generalize f_Mo_setAside = c0
  rfl
theorem d_Mo_back : cd_Mo_back.all (sv_dk cX12_back) = true := by decide +kernel
set_option maxRecDepth 20000 in
theorem b_Mo_back (Γ : sv_Ga) (res : Int32 × sv_S) (X : sv_Ok Γ ev_Mo_back cX12_back sv_rI res) (as : List sv_V) (σ : sv_S) (h : n_Mo_back as σ = some res) : sv_T Γ 0 (sv_e0 1 as) [] σ := by
  unfold n_Mo_back at h
  split at h
  · refine sv_run X d_Mo_back (K := kk_Mo_back) (sv_lk_all (P := fun pc (k : sv_Lo → List sv_V → sv_S → Option (Int32 × sv_S)) => ∀ lo st σ, k lo st σ = some res → sv_T Γ pc lo st σ) ?_) _ _ _ _ _ ((e_Mo_back _).trans h)
    clear h
    exact fun _ h => absurd h List.not_mem_nil
  · cases h
theorem a_Mo_back (as : List sv_V) (σ : sv_S) (x : Int32 × sv_S) (h : n_Mo_back as σ = some x) : sv_args 1 ev_Mo_back.2.2.2.1 as := by
  unfold n_Mo_back at h
  split at h
  · exact ⟨Nat.le_of_ble_eq_true rfl, fun _ v hv => by
      simp only [List.mem_cons, List.not_mem_nil, or_false] at hv
      rcases hv with rfl <;> trivial⟩
  · cases h
theorem g_Mo_back (as : List sv_V) (σ : sv_S) (x : Option sv_V × sv_S) (h : sv_gI n_Mo_back as σ = some x) : ∃ r i as', as = sv_R r i :: as' ∧ sv_kd r i = .inl 12 := by
  obtain ⟨_, _, h, -⟩ := sv_b_some h
  unfold n_Mo_back at h
  split at h
  · exact ⟨_, _, _, rfl, rfl⟩
  · cases h

set_option maxRecDepth 20000 in
theorem m_Mo_back (l : Launch) : sv_M l yX12_back cX12_back 1 (some .int) (sv_gI n_Mo_back) 1 := by
  refine sv_mI (E := ev_Mo_back) (by decide +kernel) (ln_gen fk_12 kk_12 (sv_ns _ (fun _ => rfl) _)) rfl ?_ a_Mo_back b_Mo_back
  intro p e R s m args below meth c cells slots Q base ad dC dI cA n0 S hkn hR hf pc n f hcs
  refine sv_lk_all (P := fun pc (x : Nat × sv_F) => sv_cok p l e R s m args below meth c cells slots Q base ad dC dI cA true 1 n0 pc x.1 x.2) ?_ pc (n, f) hcs
  exact List.forall_mem_cons.mpr ⟨(sv_cV S hkn (m_Mo_setAside l) ⟨Nat.le_trans (by decide) hR.1, Nat.le_trans (by decide) hR.2⟩ (by decide) hf rfl (g_Mo_setAside) (sv_w5 tw_1469 tw_1471 tw_49 tw_65 tw_1472) (by decide +kernel) (sv_dc3 d_Mo_back (pc := 19) rfl rfl)).V,
      fun _ h => absurd h List.not_mem_nil⟩
noncomputable def f_Mo_counting_4 : Nat → Int32 → Int32 → sv_S → Option (Int32 × sv_S)
  | 0, _, _, _ => none
  | n + 1, x1, x2, σ =>
    sv_g (sv_in (0 : Int32) 3086) (sv_if ((σ 31 0 ((0 : Int32).toNatClampNeg)) ≤ x2)
      (some (x1, σ))
      (sv_b (f_Mo_of x2 (2 : Int32) σ) (fun v1 σ2 =>
        sv_if (v1 ≤ 0)
          (f_Mo_counting_4 n (x1 + (0 : Int32)) (x2 + (1 : Int32)) σ2)
          (f_Mo_counting_4 n (x1 + (1 : Int32)) (x2 + (1 : Int32)) σ2))))
noncomputable def f_Mo_counting (σ : sv_S) : Option (Int32 × sv_S) :=
  f_Mo_counting_4 sv_fu (0 : Int32) (0 : Int32) σ
noncomputable def n_Mo_counting : List sv_V → sv_S → Option (Int32 × sv_S)
  | [.inr (.inr (some (30, 0)))], σ => f_Mo_counting σ
  | _, _ => none
def cd_Mo_counting : sv_C := [(0, (.iconst 0, (.inl (0 : Int32), (1, (0, []))))), (1, (.istore_n 1, (sv_N, (2, (0, []))))), (2, (.iconst 0, (.inl (0 : Int32), (3, (0, []))))), (3, (.istore_n 2, (sv_N, (4, (0, []))))), (4, (.iload_n 2, (sv_N, (5, (0, []))))), (5, (.aload_n 0, (sv_N, (6, (0, []))))), (6, (.getfield 7, (sv_N, (9, (0, []))))), (9, (.iconst 0, (.inl (0 : Int32), (10, (0, []))))), (10, (.iaload, (sv_N, (11, (0, []))))), (11, (.if_icmp .ge 26, (sv_N, (14, (37, []))))), (14, (.iload_n 1, (sv_N, (15, (0, []))))), (15, (.aload_n 0, (sv_N, (16, (0, []))))), (16, (.iload_n 2, (sv_N, (17, (0, []))))), (17, (.iconst 2, (.inl (2 : Int32), (18, (0, []))))), (18, (.invokevirtual 90, (sv_N, (21, (0, []))))), (21, (.ifCond .le 7, (sv_N, (24, (28, []))))), (24, (.iconst 1, (.inl (1 : Int32), (25, (0, []))))), (25, (.goto 4, (sv_N, (28, (29, []))))), (28, (.iconst 0, (.inl (0 : Int32), (29, (0, []))))), (29, (.iadd, (sv_N, (30, (0, []))))), (30, (.istore_n 1, (sv_N, (31, (0, []))))), (31, (.iinc 2 1, (.inl (1 : Int32), (34, (0, []))))), (34, (.goto (-30), (sv_N, (37, (4, []))))), (37, (.iload_n 1, (sv_N, (38, (0, []))))), (38, (.ireturn, (sv_N, (39, (0, [])))))]
noncomputable def ev_Mo_counting : sv_E := (fun i => sv_lk i fl_12, (fun i => sv_lk i kc_12, (fun _ => 0, (true, (fun pc => sv_lk pc [(18, (3, .inl n_Mo_of))], none)))))
noncomputable def kk_Mo_counting_4 (n : Nat) : sv_K (Int32 × sv_S) := fun pc => sv_lk pc [(4, fun lo st σ => match lo, st with
    | [some (.inr (.inr (some (30, 0)))), some (.inl x1), some (.inl x2)], [] => f_Mo_counting_4 n x1 x2 σ
    | _, _ => none)]
set_option maxRecDepth 20000 in
theorem e_Mo_counting_4 (n : Nat) (x1 : Int32) (x2 : Int32) (σ : sv_S) : sv_ex ev_Mo_counting sv_rI (kk_Mo_counting_4 n) cd_Mo_counting 27 4 [some (.inr (.inr (some (30, 0)))), some (.inl x1), some (.inl x2)] [] σ = f_Mo_counting_4 (n + 1) x1 x2 σ := by
  rw [f_Mo_counting_4.eq_2]
  delta ev_Mo_counting kk_Mo_counting_4 n_Mo_of
  generalize f_Mo_of = c0
  generalize f_Mo_counting_4 = c1
  rfl
noncomputable def kk_Mo_counting : sv_K (Int32 × sv_S) := fun pc => sv_lk pc [(4, fun lo st σ => match lo, st with
    | [some (.inr (.inr (some (30, 0)))), some (.inl x1), some (.inl x2)], [] => f_Mo_counting_4 sv_fu x1 x2 σ
    | _, _ => none)]
set_option maxRecDepth 20000 in
theorem e_Mo_counting (σ : sv_S) : sv_ex ev_Mo_counting sv_rI kk_Mo_counting cd_Mo_counting 27 0 [some (.inr (.inr (some (30, 0)))), none, none] [] σ = f_Mo_counting σ := by
  unfold f_Mo_counting
  delta ev_Mo_counting kk_Mo_counting n_Mo_of
  generalize f_Mo_of = c0
  generalize f_Mo_counting_4 = c1
  rfl
theorem d_Mo_counting : cd_Mo_counting.all (sv_dk cX12_counting) = true := by decide +kernel
set_option maxRecDepth 20000 in
theorem w_Mo_counting_4 {Γ : sv_Ga} {res : Int32 × sv_S} (X : sv_Ok Γ ev_Mo_counting cX12_counting sv_rI res) : ∀ (n : Nat) (x1 : Int32) (x2 : Int32) (σ : sv_S), f_Mo_counting_4 n x1 x2 σ = some res → sv_T Γ 4 [some (.inr (.inr (some (30, 0)))), some (.inl x1), some (.inl x2)] [] σ := by
  intro n
  induction n with
  | zero =>
    intro x1 x2 σ h
    rw [f_Mo_counting_4.eq_1] at h
    cases h
  | succ n ih =>
    intro x1 x2 σ h
    refine sv_run X d_Mo_counting (K := kk_Mo_counting_4 n) (sv_lk_all (P := fun pc (k : sv_Lo → List sv_V → sv_S → Option (Int32 × sv_S)) => ∀ lo st σ, k lo st σ = some res → sv_T Γ pc lo st σ) ?_) _ _ _ _ _ ((e_Mo_counting_4 n x1 x2 σ).trans h)
    clear h
    refine List.forall_mem_cons.mpr ⟨fun lo st σ h => ?_, fun _ h => absurd h List.not_mem_nil⟩
    · dsimp only at h
      split at h
      · exact ih _ _ _ h
      · cases h

set_option maxRecDepth 20000 in
theorem b_Mo_counting (Γ : sv_Ga) (res : Int32 × sv_S) (X : sv_Ok Γ ev_Mo_counting cX12_counting sv_rI res) (as : List sv_V) (σ : sv_S) (h : n_Mo_counting as σ = some res) : sv_T Γ 0 (sv_e0 3 as) [] σ := by
  unfold n_Mo_counting at h
  split at h
  · refine sv_run X d_Mo_counting (K := kk_Mo_counting) (sv_lk_all (P := fun pc (k : sv_Lo → List sv_V → sv_S → Option (Int32 × sv_S)) => ∀ lo st σ, k lo st σ = some res → sv_T Γ pc lo st σ) ?_) _ _ _ _ _ ((e_Mo_counting _).trans h)
    clear h
    refine List.forall_mem_cons.mpr ⟨fun lo st σ h => ?_, fun _ h => absurd h List.not_mem_nil⟩
    · dsimp only at h
      split at h
      · exact w_Mo_counting_4 X _ _ _ _ h
      · cases h
  · cases h
theorem a_Mo_counting (as : List sv_V) (σ : sv_S) (x : Int32 × sv_S) (h : n_Mo_counting as σ = some x) : sv_args 3 ev_Mo_counting.2.2.2.1 as := by
  unfold n_Mo_counting at h
  split at h
  · exact ⟨Nat.le_of_ble_eq_true rfl, fun _ v hv => by
      simp only [List.mem_cons, List.not_mem_nil, or_false] at hv
      rcases hv with rfl <;> trivial⟩
  · cases h
theorem g_Mo_counting (as : List sv_V) (σ : sv_S) (x : Option sv_V × sv_S) (h : sv_gI n_Mo_counting as σ = some x) : ∃ r i as', as = sv_R r i :: as' ∧ sv_kd r i = .inl 12 := by
  obtain ⟨_, _, h, -⟩ := sv_b_some h
  unfold n_Mo_counting at h
  split at h
  · exact ⟨_, _, _, rfl, rfl⟩
  · cases h

set_option maxRecDepth 20000 in
theorem m_Mo_counting (l : Launch) : sv_M l yX12_counting cX12_counting 3 (some .int) (sv_gI n_Mo_counting) 1 := by
  refine sv_mI (E := ev_Mo_counting) (by decide +kernel) (ln_gen fk_12 kk_12 (sv_ns _ (fun _ => rfl) _)) rfl ?_ a_Mo_counting b_Mo_counting
  intro p e R s m args below meth c cells slots Q base ad dC dI cA n0 S hkn hR hf pc n f hcs
  refine sv_lk_all (P := fun pc (x : Nat × sv_F) => sv_cok p l e R s m args below meth c cells slots Q base ad dC dI cA true 3 n0 pc x.1 x.2) ?_ pc (n, f) hcs
  exact List.forall_mem_cons.mpr ⟨(sv_cV S hkn (m_Mo_of l) ⟨Nat.le_trans (by decide) hR.1, Nat.le_trans (by decide) hR.2⟩ (by decide) hf rfl (g_Mo_of) (sv_w5 tw_1120 tw_1122 tw_10 tw_65 tw_1123) (by decide +kernel) (sv_dc3 d_Mo_counting (pc := 18) rfl rfl)).I,
      fun _ h => absurd h List.not_mem_nil⟩
noncomputable def f_Mo_count (a1 : Int32) (σ : sv_S) : Option (Int32 × sv_S) :=
  sv_if (a1.toInt = 0)
    (sv_g (sv_in (0 : Int32) 3086) (some (σ 31 0 ((0 : Int32).toNatClampNeg), σ)))
    (sv_if (a1.toInt = 1)
    (sv_g (sv_in (3 : Int32) 3086) (some (σ 31 0 ((3 : Int32).toNatClampNeg), σ)))
    (sv_if (a1.toInt = 2)
    (sv_g (sv_in (2 : Int32) 3086) (some (σ 31 0 ((2 : Int32).toNatClampNeg), σ)))
    (sv_if (a1.toInt = 3)
    (sv_b (f_Mo_strokesOfAll σ) (fun v1 σ2 =>
      some (v1, σ2)))
    (sv_if (a1.toInt = 4)
    (sv_b (f_Mo_counting σ) (fun v3 σ4 =>
      some (v3, σ4)))
    (sv_if (a1.toInt = 5)
    (sv_b (f_Mo_countsOfAll σ) (fun v5 σ6 =>
      some (v5, σ6)))
    (sv_if (a1.toInt = 6)
    (sv_g (sv_in (1 : Int32) 3086) (some (σ 31 0 ((1 : Int32).toNatClampNeg), σ)))
    (sv_if (a1.toInt = 7)
    (some (σ 30 0 32, σ))
    (sv_if (a1.toInt = 8)
    (some (σ 30 0 17, σ))
    (sv_if (a1.toInt = 9)
    (sv_g (sv_in (4 : Int32) 3086) (some (σ 31 0 ((4 : Int32).toNatClampNeg), σ)))
    (some ((-1000000001 : Int32), σ)))))))))))
noncomputable def n_Mo_count : List sv_V → sv_S → Option (Int32 × sv_S)
  | [.inr (.inr (some (30, 0))), .inl a1], σ => f_Mo_count a1 σ
  | _, _ => none
def cd_Mo_count : sv_C := [(0, (.iload_n 1, (sv_N, (1, (0, []))))), (1, (.tableswitch 115 0 9 #[55, 62, 69, 76, 81, 86, 91, 98, 103, 108], (sv_N, (1, (116, [(0, 56), (1, 63), (2, 70), (3, 77), (4, 82), (5, 87), (6, 92), (7, 99), (8, 104), (9, 109)]))))), (56, (.aload_n 0, (sv_N, (57, (0, []))))), (57, (.getfield 7, (sv_N, (60, (0, []))))), (60, (.iconst 0, (.inl (0 : Int32), (61, (0, []))))), (61, (.iaload, (sv_N, (62, (0, []))))), (62, (.ireturn, (sv_N, (63, (0, []))))), (63, (.aload_n 0, (sv_N, (64, (0, []))))), (64, (.getfield 7, (sv_N, (67, (0, []))))), (67, (.iconst 3, (.inl (3 : Int32), (68, (0, []))))), (68, (.iaload, (sv_N, (69, (0, []))))), (69, (.ireturn, (sv_N, (70, (0, []))))), (70, (.aload_n 0, (sv_N, (71, (0, []))))), (71, (.getfield 7, (sv_N, (74, (0, []))))), (74, (.iconst 2, (.inl (2 : Int32), (75, (0, []))))), (75, (.iaload, (sv_N, (76, (0, []))))), (76, (.ireturn, (sv_N, (77, (0, []))))), (77, (.aload_n 0, (sv_N, (78, (0, []))))), (78, (.invokevirtual 194, (sv_N, (81, (0, []))))), (81, (.ireturn, (sv_N, (82, (0, []))))), (82, (.aload_n 0, (sv_N, (83, (0, []))))), (83, (.invokevirtual 331, (sv_N, (86, (0, []))))), (86, (.ireturn, (sv_N, (87, (0, []))))), (87, (.aload_n 0, (sv_N, (88, (0, []))))), (88, (.invokevirtual 328, (sv_N, (91, (0, []))))), (91, (.ireturn, (sv_N, (92, (0, []))))), (92, (.aload_n 0, (sv_N, (93, (0, []))))), (93, (.getfield 7, (sv_N, (96, (0, []))))), (96, (.iconst 1, (.inl (1 : Int32), (97, (0, []))))), (97, (.iaload, (sv_N, (98, (0, []))))), (98, (.ireturn, (sv_N, (99, (0, []))))), (99, (.aload_n 0, (sv_N, (100, (0, []))))), (100, (.getfield 317, (sv_N, (103, (0, []))))), (103, (.ireturn, (sv_N, (104, (0, []))))), (104, (.aload_n 0, (sv_N, (105, (0, []))))), (105, (.getfield 197, (sv_N, (108, (0, []))))), (108, (.ireturn, (sv_N, (109, (0, []))))), (109, (.aload_n 0, (sv_N, (110, (0, []))))), (110, (.getfield 7, (sv_N, (113, (0, []))))), (113, (.iconst 4, (.inl (4 : Int32), (114, (0, []))))), (114, (.iaload, (sv_N, (115, (0, []))))), (115, (.ireturn, (sv_N, (116, (0, []))))), (116, (.ldc 84, (sv_N, (118, (0, []))))), (118, (.ireturn, (sv_N, (119, (0, [])))))]
noncomputable def ev_Mo_count : sv_E := (fun i => sv_lk i fl_12, (fun i => sv_lk i kc_12, (fun _ => 0, (true, (fun pc => sv_lk pc [(78, (1, .inl n_Mo_strokesOfAll)), (83, (1, .inl n_Mo_counting)), (88, (1, .inl n_Mo_countsOfAll))], none)))))
noncomputable def kk_Mo_count : sv_K (Int32 × sv_S) := fun pc => sv_lk pc []
set_option maxRecDepth 20000 in
theorem e_Mo_count (a1 : Int32) (σ : sv_S) : sv_ex ev_Mo_count sv_rI kk_Mo_count cd_Mo_count 46 0 [some (.inr (.inr (some (30, 0)))), some (.inl a1)] [] σ = f_Mo_count a1 σ := by
  unfold f_Mo_count
  delta ev_Mo_count kk_Mo_count n_Mo_strokesOfAll n_Mo_counting n_Mo_countsOfAll
  generalize f_Mo_strokesOfAll = c0
  generalize f_Mo_counting = c1
  generalize f_Mo_countsOfAll = c2
  rfl
theorem d_Mo_count : cd_Mo_count.all (sv_dk cX12_count) = true := by decide +kernel
set_option maxRecDepth 20000 in
theorem b_Mo_count (Γ : sv_Ga) (res : Int32 × sv_S) (X : sv_Ok Γ ev_Mo_count cX12_count sv_rI res) (as : List sv_V) (σ : sv_S) (h : n_Mo_count as σ = some res) : sv_T Γ 0 (sv_e0 2 as) [] σ := by
  unfold n_Mo_count at h
  split at h
  · refine sv_run X d_Mo_count (K := kk_Mo_count) (sv_lk_all (P := fun pc (k : sv_Lo → List sv_V → sv_S → Option (Int32 × sv_S)) => ∀ lo st σ, k lo st σ = some res → sv_T Γ pc lo st σ) ?_) _ _ _ _ _ ((e_Mo_count _ _).trans h)
    clear h
    exact fun _ h => absurd h List.not_mem_nil
  · cases h
theorem a_Mo_count (as : List sv_V) (σ : sv_S) (x : Int32 × sv_S) (h : n_Mo_count as σ = some x) : sv_args 2 ev_Mo_count.2.2.2.1 as := by
  unfold n_Mo_count at h
  split at h
  · exact ⟨Nat.le_of_ble_eq_true rfl, fun _ v hv => by
      simp only [List.mem_cons, List.not_mem_nil, or_false] at hv
      rcases hv with rfl | rfl <;> trivial⟩
  · cases h
theorem g_Mo_count (as : List sv_V) (σ : sv_S) (x : Option sv_V × sv_S) (h : sv_gI n_Mo_count as σ = some x) : ∃ r i as', as = sv_R r i :: as' ∧ sv_kd r i = .inl 12 := by
  obtain ⟨_, _, h, -⟩ := sv_b_some h
  unfold n_Mo_count at h
  split at h
  · exact ⟨_, _, _, rfl, rfl⟩
  · cases h
theorem tw_51 : Cond.selects RX12 yX12_counting yX12_counting ∈ gw_tbl := gw_at 51 (by decide +kernel) rfl
theorem tw_1489 : Cond.methodLink RX12 331 yX12_counting ∈ gw_tbl := gw_at 1489 (by decide +kernel) rfl
theorem tw_1491 : Cond.instanceMethod yX12_counting ∈ gw_tbl := gw_at 1491 (by decide +kernel) rfl
theorem tw_1492 : Cond.code yX12_counting cX12_counting 3 (some .int) ∈ gw_tbl := gw_at 1492 (by decide +kernel) rfl
set_option maxRecDepth 20000 in
theorem m_Mo_count (l : Launch) : sv_M l yX12_count cX12_count 2 (some .int) (sv_gI n_Mo_count) 2 := by
  refine sv_mI (E := ev_Mo_count) (by decide +kernel) (ln_gen fk_12 kk_12 (sv_ns _ (fun _ => rfl) _)) rfl ?_ a_Mo_count b_Mo_count
  intro p e R s m args below meth c cells slots Q base ad dC dI cA n0 S hkn hR hf pc n f hcs
  refine sv_lk_all (P := fun pc (x : Nat × sv_F) => sv_cok p l e R s m args below meth c cells slots Q base ad dC dI cA true 2 n0 pc x.1 x.2) ?_ pc (n, f) hcs
  exact List.forall_mem_cons.mpr ⟨(sv_cV S hkn (m_Mo_strokesOfAll l) ⟨Nat.le_trans (by decide) hR.1, Nat.le_trans (by decide) hR.2⟩ (by decide) hf rfl (g_Mo_strokesOfAll) (sv_w5 tw_1310 tw_1312 tw_32 tw_65 tw_1313) (by decide +kernel) (sv_dc3 d_Mo_count (pc := 78) rfl rfl)).I,
      List.forall_mem_cons.mpr ⟨(sv_cV S hkn (m_Mo_counting l) ⟨Nat.le_trans (by decide) hR.1, Nat.le_trans (by decide) hR.2⟩ (by decide) hf rfl (g_Mo_counting) (sv_w5 tw_1489 tw_1491 tw_51 tw_65 tw_1492) (by decide +kernel) (sv_dc3 d_Mo_count (pc := 83) rfl rfl)).I,
      List.forall_mem_cons.mpr ⟨(sv_cV S hkn (m_Mo_countsOfAll l) ⟨Nat.le_trans (by decide) hR.1, Nat.le_trans (by decide) hR.2⟩ (by decide) hf rfl (g_Mo_countsOfAll) (sv_w5 tw_1473 tw_1475 tw_50 tw_65 tw_1476) (by decide +kernel) (sv_dc3 d_Mo_count (pc := 88) rfl rfl)).I,
      fun _ h => absurd h List.not_mem_nil⟩⟩⟩
