noncomputable def f_Tr_worth (a0 : Nat) (a1 : Int32) (σ : sv_S) : Option (Int32 × sv_S) :=
  sv_b (f_Ea_worth a0 a1 σ) (fun v1 σ2 =>
    some (v1 - (5 : Int32), σ2))
noncomputable def n_Tr_worth : List sv_V → sv_S → Option (Int32 × sv_S)
  | [.inr (.inr (some (7, a0))), .inl a1], σ => f_Tr_worth a0 a1 σ
  | _, _ => none
def cd_Tr_worth : sv_C := [(0, (.aload_n 0, (sv_N, (1, (0, []))))), (1, (.iload_n 1, (sv_N, (2, (0, []))))), (2, (.invokespecial 13, (sv_N, (5, (0, []))))), (5, (.iconst 5, (.inl (5 : Int32), (6, (0, []))))), (6, (.isub, (sv_N, (7, (0, []))))), (7, (.ireturn, (sv_N, (8, (0, [])))))]
noncomputable def ev_Tr_worth : sv_E := (fun i => sv_lk i fl_10, (fun i => sv_lk i kc_10, (fun _ => 0, (true, (fun pc => sv_lk pc [(2, (2, .inl n_Ea_worth))], none)))))
noncomputable def kk_Tr_worth : sv_K (Int32 × sv_S) := fun pc => sv_lk pc []
set_option maxRecDepth 20000 in
theorem e_Tr_worth (a0 : Nat) (a1 : Int32) (σ : sv_S) : sv_ex ev_Tr_worth sv_rI kk_Tr_worth cd_Tr_worth 8 0 [some (.inr (.inr (some (7, a0)))), some (.inl a1)] [] σ = f_Tr_worth a0 a1 σ := by
  unfold f_Tr_worth
  delta ev_Tr_worth kk_Tr_worth n_Ea_worth
  generalize f_Ea_worth = c0
  rfl
theorem d_Tr_worth : cd_Tr_worth.all (sv_dk cX10_worth) = true := by decide +kernel
set_option maxRecDepth 20000 in
theorem b_Tr_worth (Γ : sv_Ga) (res : Int32 × sv_S) (X : sv_Ok Γ ev_Tr_worth cX10_worth sv_rI res) (as : List sv_V) (σ : sv_S) (h : n_Tr_worth as σ = some res) : sv_T Γ 0 (sv_e0 2 as) [] σ := by
  unfold n_Tr_worth at h
  split at h
  · refine sv_run X d_Tr_worth (K := kk_Tr_worth) (sv_lk_all (P := fun pc (k : sv_Lo → List sv_V → sv_S → Option (Int32 × sv_S)) => ∀ lo st σ, k lo st σ = some res → sv_T Γ pc lo st σ) ?_) _ _ _ _ _ ((e_Tr_worth _ _ _).trans h)
    clear h
    exact fun _ h => absurd h List.not_mem_nil
  · cases h
theorem a_Tr_worth (as : List sv_V) (σ : sv_S) (x : Int32 × sv_S) (h : n_Tr_worth as σ = some x) : sv_args 2 ev_Tr_worth.2.2.2.1 as := by
  unfold n_Tr_worth at h
  split at h
  · exact ⟨Nat.le_of_ble_eq_true rfl, fun _ v hv => by
      simp only [List.mem_cons, List.not_mem_nil, or_false] at hv
      rcases hv with rfl | rfl <;> trivial⟩
  · cases h
theorem gs_Tr_worth (as : List sv_V) (σ : sv_S) (x : Option sv_V × sv_S) (h : sv_gI n_Tr_worth as σ = some x) : ∃ r i as' ci q, as = sv_R r i :: as' ∧ sv_kd r i = .inl ci ∧ vwCl[ci]? = some q := by
  obtain ⟨_, _, h, -⟩ := sv_b_some h
  unfold n_Tr_worth at h
  split at h
  · obtain ⟨ci, q, h1, h2⟩ := sv_kd7 _
    exact ⟨_, _, _, ci, q, rfl, h1, h2⟩
  · cases h
theorem tw_454 : Cond.instanceMethod yX2_worth ∈ gw_tbl := gw_at 454 (by decide +kernel) rfl
theorem tw_455 : Cond.code yX2_worth cX2_worth 2 (some .int) ∈ gw_tbl := gw_at 455 (by decide +kernel) rfl
theorem tw_467 : Cond.methodLink RX10 13 yX2_worth ∈ gw_tbl := gw_at 467 (by decide +kernel) rfl
theorem tw_1494 : Cond.sameMethod RX2 RX2 "worth" "(I)I" ∈ gw_tbl := gw_at 1494 (by decide +kernel) rfl
set_option maxRecDepth 20000 in
theorem m_Tr_worth (l : Launch) : sv_M l yX10_worth cX10_worth 2 (some .int) (sv_gI n_Tr_worth) 1 := by
  refine sv_mI (E := ev_Tr_worth) (by decide +kernel) (ln_gen fk_10 kk_10 (sv_ns _ (fun _ => rfl) _)) rfl ?_ a_Tr_worth b_Tr_worth
  intro p e R s m args below meth c cells slots Q base ad dC dI cA n0 S hkn hR hf pc n f hcs
  refine sv_lk_all (P := fun pc (x : Nat × sv_F) => sv_cok p l e R s m args below meth c cells slots Q base ad dC dI cA true 2 n0 pc x.1 x.2) ?_ pc (n, f) hcs
  exact List.forall_mem_cons.mpr ⟨(sv_cU S hkn (m_Ea_worth l) ⟨Nat.le_trans (by decide) hR.1, Nat.le_trans (by decide) hR.2⟩ (by decide) hf gs_Ea_worth (sv_w6 tw_467 tw_1494 tw_117 tw_454 tw_56 tw_455) (by decide +kernel) (sv_dc3 d_Tr_worth (pc := 2) rfl rfl)).I,
      fun _ h => absurd h List.not_mem_nil⟩
noncomputable def f_On_isKind (a0 : Int32) (σ : sv_S) : Option (Int32 × sv_S) :=
  sv_if (a0 < 0)
    (sv_g ((0 : Int32) = 0 ∨ (0 : Int32) = 1) (some ((0 : Int32), σ)))
    (sv_if ((nI 6) ≤ a0)
      (sv_g ((0 : Int32) = 0 ∨ (0 : Int32) = 1) (some ((0 : Int32), σ)))
      (sv_g ((1 : Int32) = 0 ∨ (1 : Int32) = 1) (some ((1 : Int32), σ))))
noncomputable def n_On_isKind : List sv_V → sv_S → Option (Int32 × sv_S)
  | [.inl a0], σ => f_On_isKind a0 σ
  | _, _ => none
def cd_On_isKind : sv_C := [(0, (.iload_n 0, (sv_N, (1, (0, []))))), (1, (.ifCond .lt 15, (sv_N, (4, (16, []))))), (4, (.iload_n 0, (sv_N, (5, (0, []))))), (5, (.getstatic 166, (sv_N, (8, (0, []))))), (8, (.arraylength, (sv_N, (9, (0, []))))), (9, (.if_icmp .ge 7, (sv_N, (12, (16, []))))), (12, (.iconst 1, (.inl (1 : Int32), (13, (0, []))))), (13, (.goto 4, (sv_N, (16, (17, []))))), (16, (.iconst 0, (.inl (0 : Int32), (17, (0, []))))), (17, (.ireturn, (sv_N, (18, (0, [])))))]
noncomputable def ev_On_isKind : sv_E := (fun i => sv_lk i fl_11, (fun i => sv_lk i kc_11, (fun i => bif Nat.beq i 166 then 1 else 0, (true, (fun pc => sv_lk pc [], none)))))
noncomputable def kk_On_isKind : sv_K (Int32 × sv_S) := fun pc => sv_lk pc []
set_option maxRecDepth 20000 in
theorem e_On_isKind (a0 : Int32) (σ : sv_S) : sv_ex ev_On_isKind sv_rZ kk_On_isKind cd_On_isKind 12 0 [some (.inl a0)] [] σ = f_On_isKind a0 σ := by
  unfold f_On_isKind
  delta ev_On_isKind kk_On_isKind
  rfl
theorem d_On_isKind : cd_On_isKind.all (sv_dk cX11_isKind) = true := by decide +kernel
set_option maxRecDepth 20000 in
theorem b_On_isKind (Γ : sv_Ga) (res : Int32 × sv_S) (X : sv_Ok Γ ev_On_isKind cX11_isKind sv_rZ res) (as : List sv_V) (σ : sv_S) (h : n_On_isKind as σ = some res) : sv_T Γ 0 (sv_e0 1 as) [] σ := by
  unfold n_On_isKind at h
  split at h
  · refine sv_run X d_On_isKind (K := kk_On_isKind) (sv_lk_all (P := fun pc (k : sv_Lo → List sv_V → sv_S → Option (Int32 × sv_S)) => ∀ lo st σ, k lo st σ = some res → sv_T Γ pc lo st σ) ?_) _ _ _ _ _ ((e_On_isKind _ _).trans h)
    clear h
    exact fun _ h => absurd h List.not_mem_nil
  · cases h
theorem a_On_isKind (as : List sv_V) (σ : sv_S) (x : Int32 × sv_S) (h : n_On_isKind as σ = some x) : sv_args 1 ev_On_isKind.2.2.2.1 as := by
  unfold n_On_isKind at h
  split at h
  · exact ⟨Nat.le_of_ble_eq_true rfl, fun _ v hv => by
      simp only [List.mem_cons, List.not_mem_nil, or_false] at hv
      rcases hv with rfl <;> trivial⟩
  · cases h

set_option maxRecDepth 20000 in
theorem m_On_isKind (l : Launch) : sv_M l yX11_isKind cX11_isKind 1 (some .boolean) (sv_gI n_On_isKind) 0 := by
  refine sv_mZ (E := ev_On_isKind) (by decide +kernel) (ln_gen fk_11 kk_11 gk_11) rfl ?_ a_On_isKind b_On_isKind
  intro p e R s m args below meth c cells slots Q base ad dC dI cA n0 S hkn hR hf pc n f hcs
  refine sv_lk_all (P := fun pc (x : Nat × sv_F) => sv_cok p l e R s m args below meth c cells slots Q base ad dC dI cA true 1 n0 pc x.1 x.2) ?_ pc (n, f) hcs
  exact fun _ h => absurd h List.not_mem_nil
noncomputable def f_On_isWithin (a0 : Int32) (a1 : Int32) (a2 : Int32) (σ : sv_S) : Option (Int32 × sv_S) :=
  sv_if (a0 < a1)
    (sv_g ((0 : Int32) = 0 ∨ (0 : Int32) = 1) (some ((0 : Int32), σ)))
    (sv_if (a2 < a0)
      (sv_g ((0 : Int32) = 0 ∨ (0 : Int32) = 1) (some ((0 : Int32), σ)))
      (sv_g ((1 : Int32) = 0 ∨ (1 : Int32) = 1) (some ((1 : Int32), σ))))
noncomputable def n_On_isWithin : List sv_V → sv_S → Option (Int32 × sv_S)
  | [.inl a0, .inl a1, .inl a2], σ => f_On_isWithin a0 a1 a2 σ
  | _, _ => none
def cd_On_isWithin : sv_C := [(0, (.iload_n 0, (sv_N, (1, (0, []))))), (1, (.iload_n 1, (sv_N, (2, (0, []))))), (2, (.if_icmp .lt 12, (sv_N, (5, (14, []))))), (5, (.iload_n 0, (sv_N, (6, (0, []))))), (6, (.iload_n 2, (sv_N, (7, (0, []))))), (7, (.if_icmp .gt 7, (sv_N, (10, (14, []))))), (10, (.iconst 1, (.inl (1 : Int32), (11, (0, []))))), (11, (.goto 4, (sv_N, (14, (15, []))))), (14, (.iconst 0, (.inl (0 : Int32), (15, (0, []))))), (15, (.ireturn, (sv_N, (16, (0, [])))))]
noncomputable def ev_On_isWithin : sv_E := (fun i => sv_lk i fl_11, (fun i => sv_lk i kc_11, (fun i => bif Nat.beq i 166 then 1 else 0, (true, (fun pc => sv_lk pc [], none)))))
noncomputable def kk_On_isWithin : sv_K (Int32 × sv_S) := fun pc => sv_lk pc []
set_option maxRecDepth 20000 in
theorem e_On_isWithin (a0 : Int32) (a1 : Int32) (a2 : Int32) (σ : sv_S) : sv_ex ev_On_isWithin sv_rZ kk_On_isWithin cd_On_isWithin 12 0 [some (.inl a0), some (.inl a1), some (.inl a2)] [] σ = f_On_isWithin a0 a1 a2 σ := by
  unfold f_On_isWithin
  delta ev_On_isWithin kk_On_isWithin
  rfl
theorem d_On_isWithin : cd_On_isWithin.all (sv_dk cX11_isWithin) = true := by decide +kernel
set_option maxRecDepth 20000 in
theorem b_On_isWithin (Γ : sv_Ga) (res : Int32 × sv_S) (X : sv_Ok Γ ev_On_isWithin cX11_isWithin sv_rZ res) (as : List sv_V) (σ : sv_S) (h : n_On_isWithin as σ = some res) : sv_T Γ 0 (sv_e0 3 as) [] σ := by
  unfold n_On_isWithin at h
  split at h
  · refine sv_run X d_On_isWithin (K := kk_On_isWithin) (sv_lk_all (P := fun pc (k : sv_Lo → List sv_V → sv_S → Option (Int32 × sv_S)) => ∀ lo st σ, k lo st σ = some res → sv_T Γ pc lo st σ) ?_) _ _ _ _ _ ((e_On_isWithin _ _ _ _).trans h)
    clear h
    exact fun _ h => absurd h List.not_mem_nil
  · cases h
theorem a_On_isWithin (as : List sv_V) (σ : sv_S) (x : Int32 × sv_S) (h : n_On_isWithin as σ = some x) : sv_args 3 ev_On_isWithin.2.2.2.1 as := by
  unfold n_On_isWithin at h
  split at h
  · exact ⟨Nat.le_of_ble_eq_true rfl, fun _ v hv => by
      simp only [List.mem_cons, List.not_mem_nil, or_false] at hv
      rcases hv with rfl | rfl | rfl <;> trivial⟩
  · cases h

set_option maxRecDepth 20000 in
theorem m_On_isWithin (l : Launch) : sv_M l yX11_isWithin cX11_isWithin 3 (some .boolean) (sv_gI n_On_isWithin) 0 := by
  refine sv_mZ (E := ev_On_isWithin) (by decide +kernel) (ln_gen fk_11 kk_11 gk_11) rfl ?_ a_On_isWithin b_On_isWithin
  intro p e R s m args below meth c cells slots Q base ad dC dI cA n0 S hkn hR hf pc n f hcs
  refine sv_lk_all (P := fun pc (x : Nat × sv_F) => sv_cok p l e R s m args below meth c cells slots Q base ad dC dI cA true 3 n0 pc x.1 x.2) ?_ pc (n, f) hcs
  exact fun _ h => absurd h List.not_mem_nil
noncomputable def f_On_drummer (a1 : Int32) (a2 : Int32) (σ : sv_S) : Option (Int32 × sv_S) :=
  sv_b (f_On_isKind a1 σ) (fun v1 σ2 =>
    sv_if (v1 = 0)
      (some ((-1000000001 : Int32), σ2))
      (sv_b (f_On_isWithin a2 (1 : Int32) (9 : Int32) σ2) (fun v3 σ4 =>
        sv_if (v3 = 0)
          (some ((-1000000001 : Int32), σ4))
          (sv_if ((σ4 1 0 4) < (10 : Int32))
            (sv_b (f_Li_join 0 a1 a2 σ4) (fun v5 σ6 =>
              some (v5, σ6)))
            (some ((-1000000003 : Int32), σ4))))))
noncomputable def n_On_drummer : List sv_V → sv_S → Option (Int32 × sv_S)
  | [.inr (.inr (some (0, 0))), .inl a1, .inl a2], σ => f_On_drummer a1 a2 σ
  | _, _ => none
def cd_On_drummer : sv_C := [(0, (.iload_n 1, (sv_N, (1, (0, []))))), (1, (.invokestatic 79, (sv_N, (4, (0, []))))), (4, (.ifCond .eq 13, (sv_N, (7, (17, []))))), (7, (.iload_n 2, (sv_N, (8, (0, []))))), (8, (.iconst 1, (.inl (1 : Int32), (9, (0, []))))), (9, (.bipush 9, (.inl (9 : Int32), (11, (0, []))))), (11, (.invokestatic 83, (sv_N, (14, (0, []))))), (14, (.ifCond .ne 6, (sv_N, (17, (20, []))))), (17, (.ldc 87, (sv_N, (19, (0, []))))), (19, (.ireturn, (sv_N, (20, (0, []))))), (20, (.aload_n 0, (sv_N, (21, (0, []))))), (21, (.getfield 30, (sv_N, (24, (0, []))))), (24, (.getfield 88, (sv_N, (27, (0, []))))), (27, (.bipush 10, (.inl (10 : Int32), (29, (0, []))))), (29, (.if_icmp .lt 8, (sv_N, (32, (37, []))))), (32, (.ldc 92, (sv_N, (34, (0, []))))), (34, (.goto 12, (sv_N, (37, (46, []))))), (37, (.aload_n 0, (sv_N, (38, (0, []))))), (38, (.getfield 30, (sv_N, (41, (0, []))))), (41, (.iload_n 1, (sv_N, (42, (0, []))))), (42, (.iload_n 2, (sv_N, (43, (0, []))))), (43, (.invokevirtual 93, (sv_N, (46, (0, []))))), (46, (.ireturn, (sv_N, (47, (0, [])))))]
noncomputable def ev_On_drummer : sv_E := (fun i => sv_lk i fl_11, (fun i => sv_lk i kc_11, (fun i => bif Nat.beq i 166 then 1 else 0, (true, (fun pc => sv_lk pc [(1, (1, .inl n_On_isKind)), (11, (3, .inl n_On_isWithin)), (43, (3, .inl n_Li_join))], none)))))
noncomputable def kk_On_drummer : sv_K (Int32 × sv_S) := fun pc => sv_lk pc []
set_option maxRecDepth 20000 in
theorem e_On_drummer (a1 : Int32) (a2 : Int32) (σ : sv_S) : sv_ex ev_On_drummer sv_rI kk_On_drummer cd_On_drummer 25 0 [some (.inr (.inr (some (0, 0)))), some (.inl a1), some (.inl a2)] [] σ = f_On_drummer a1 a2 σ := by
  unfold f_On_drummer
  delta ev_On_drummer kk_On_drummer n_On_isKind n_On_isWithin n_Li_join
  generalize f_On_isKind = c0
  generalize f_On_isWithin = c1
  generalize f_Li_join = c2
  rfl
theorem d_On_drummer : cd_On_drummer.all (sv_dk cX11_drummer) = true := by decide +kernel
set_option maxRecDepth 20000 in
theorem b_On_drummer (Γ : sv_Ga) (res : Int32 × sv_S) (X : sv_Ok Γ ev_On_drummer cX11_drummer sv_rI res) (as : List sv_V) (σ : sv_S) (h : n_On_drummer as σ = some res) : sv_T Γ 0 (sv_e0 3 as) [] σ := by
  unfold n_On_drummer at h
  split at h
  · refine sv_run X d_On_drummer (K := kk_On_drummer) (sv_lk_all (P := fun pc (k : sv_Lo → List sv_V → sv_S → Option (Int32 × sv_S)) => ∀ lo st σ, k lo st σ = some res → sv_T Γ pc lo st σ) ?_) _ _ _ _ _ ((e_On_drummer _ _ _).trans h)
    clear h
    exact fun _ h => absurd h List.not_mem_nil
  · cases h
theorem a_On_drummer (as : List sv_V) (σ : sv_S) (x : Int32 × sv_S) (h : n_On_drummer as σ = some x) : sv_args 3 ev_On_drummer.2.2.2.1 as := by
  unfold n_On_drummer at h
  split at h
  · exact ⟨Nat.le_of_ble_eq_true rfl, fun _ v hv => by
      simp only [List.mem_cons, List.not_mem_nil, or_false] at hv
      rcases hv with rfl | rfl | rfl <;> trivial⟩
  · cases h
theorem g_On_drummer (as : List sv_V) (σ : sv_S) (x : Option sv_V × sv_S) (h : sv_gI n_On_drummer as σ = some x) : ∃ r i as', as = sv_R r i :: as' ∧ sv_kd r i = .inl 11 := by
  obtain ⟨_, _, h, -⟩ := sv_b_some h
  unfold n_On_drummer at h
  split at h
  · exact ⟨_, _, _, rfl, rfl⟩
  · cases h
theorem tw_322 : Cond.methodLink RX11 79 yX11_isKind ∈ gw_tbl := gw_at 322 (by decide +kernel) rfl
theorem tw_323 : Cond.static yX11_isKind ∈ gw_tbl := gw_at 323 (by decide +kernel) rfl
theorem tw_324 : Cond.code yX11_isKind cX11_isKind 1 (some .boolean) ∈ gw_tbl := gw_at 324 (by decide +kernel) rfl
theorem tw_327 : Cond.methodLink RX11 83 yX11_isWithin ∈ gw_tbl := gw_at 327 (by decide +kernel) rfl
theorem tw_328 : Cond.static yX11_isWithin ∈ gw_tbl := gw_at 328 (by decide +kernel) rfl
theorem tw_329 : Cond.code yX11_isWithin cX11_isWithin 3 (some .boolean) ∈ gw_tbl := gw_at 329 (by decide +kernel) rfl
theorem tw_332 : Cond.methodLink RX11 93 yX5_join ∈ gw_tbl := gw_at 332 (by decide +kernel) rfl
theorem tw_333 : Cond.instanceMethod yX5_join ∈ gw_tbl := gw_at 333 (by decide +kernel) rfl
theorem tw_334 : Cond.selects RX5 yX5_join yX5_join ∈ gw_tbl := gw_at 334 (by decide +kernel) rfl
theorem tw_335 : Cond.code yX5_join cX5_join 3 (some .int) ∈ gw_tbl := gw_at 335 (by decide +kernel) rfl
set_option maxRecDepth 20000 in
theorem m_On_drummer (l : Launch) : sv_M l yX11_drummer cX11_drummer 3 (some .int) (sv_gI n_On_drummer) 3 := by
  refine sv_mI (E := ev_On_drummer) (by decide +kernel) (ln_gen fk_11 kk_11 gk_11) rfl ?_ a_On_drummer b_On_drummer
  intro p e R s m args below meth c cells slots Q base ad dC dI cA n0 S hkn hR hf pc n f hcs
  refine sv_lk_all (P := fun pc (x : Nat × sv_F) => sv_cok p l e R s m args below meth c cells slots Q base ad dC dI cA true 3 n0 pc x.1 x.2) ?_ pc (n, f) hcs
  exact List.forall_mem_cons.mpr ⟨(sv_cS S hkn (m_On_isKind l) ⟨Nat.le_trans (by decide) hR.1, Nat.le_trans (by decide) hR.2⟩ (by decide) hf (sv_w4 tw_322 tw_323 tw_53 tw_324) (by decide +kernel) (sv_dc3 d_On_drummer (pc := 1) rfl rfl)).I,
      List.forall_mem_cons.mpr ⟨(sv_cS S hkn (m_On_isWithin l) ⟨Nat.le_trans (by decide) hR.1, Nat.le_trans (by decide) hR.2⟩ (by decide) hf (sv_w4 tw_327 tw_328 tw_53 tw_329) (by decide +kernel) (sv_dc3 d_On_drummer (pc := 11) rfl rfl)).I,
      List.forall_mem_cons.mpr ⟨(sv_cV S hkn (m_Li_join l) ⟨Nat.le_trans (by decide) hR.1, Nat.le_trans (by decide) hR.2⟩ (by decide) hf rfl (g_Li_join) (sv_w5 tw_332 tw_333 tw_334 tw_60 tw_335) (by decide +kernel) (sv_dc3 d_On_drummer (pc := 43) rfl rfl)).I,
      fun _ h => absurd h List.not_mem_nil⟩⟩⟩
noncomputable def f_On_isDrummer (a1 : Int32) (σ : sv_S) : Option (Int32 × sv_S) :=
  sv_if (a1 < 0)
    (sv_g ((0 : Int32) = 0 ∨ (0 : Int32) = 1) (some ((0 : Int32), σ)))
    (sv_if ((σ 1 0 4) ≤ a1)
      (sv_g ((0 : Int32) = 0 ∨ (0 : Int32) = 1) (some ((0 : Int32), σ)))
      (sv_g ((1 : Int32) = 0 ∨ (1 : Int32) = 1) (some ((1 : Int32), σ))))
noncomputable def n_On_isDrummer : List sv_V → sv_S → Option (Int32 × sv_S)
  | [.inr (.inr (some (0, 0))), .inl a1], σ => f_On_isDrummer a1 σ
  | _, _ => none
def cd_On_isDrummer : sv_C := [(0, (.iload_n 1, (sv_N, (1, (0, []))))), (1, (.ifCond .lt 18, (sv_N, (4, (19, []))))), (4, (.iload_n 1, (sv_N, (5, (0, []))))), (5, (.aload_n 0, (sv_N, (6, (0, []))))), (6, (.getfield 30, (sv_N, (9, (0, []))))), (9, (.getfield 88, (sv_N, (12, (0, []))))), (12, (.if_icmp .ge 7, (sv_N, (15, (19, []))))), (15, (.iconst 1, (.inl (1 : Int32), (16, (0, []))))), (16, (.goto 4, (sv_N, (19, (20, []))))), (19, (.iconst 0, (.inl (0 : Int32), (20, (0, []))))), (20, (.ireturn, (sv_N, (21, (0, [])))))]
noncomputable def ev_On_isDrummer : sv_E := (fun i => sv_lk i fl_11, (fun i => sv_lk i kc_11, (fun i => bif Nat.beq i 166 then 1 else 0, (true, (fun pc => sv_lk pc [], none)))))
noncomputable def kk_On_isDrummer : sv_K (Int32 × sv_S) := fun pc => sv_lk pc []
set_option maxRecDepth 20000 in
theorem e_On_isDrummer (a1 : Int32) (σ : sv_S) : sv_ex ev_On_isDrummer sv_rZ kk_On_isDrummer cd_On_isDrummer 13 0 [some (.inr (.inr (some (0, 0)))), some (.inl a1)] [] σ = f_On_isDrummer a1 σ := by
  unfold f_On_isDrummer
  delta ev_On_isDrummer kk_On_isDrummer
  rfl
theorem d_On_isDrummer : cd_On_isDrummer.all (sv_dk cX11_isDrummer) = true := by decide +kernel
set_option maxRecDepth 20000 in
theorem b_On_isDrummer (Γ : sv_Ga) (res : Int32 × sv_S) (X : sv_Ok Γ ev_On_isDrummer cX11_isDrummer sv_rZ res) (as : List sv_V) (σ : sv_S) (h : n_On_isDrummer as σ = some res) : sv_T Γ 0 (sv_e0 2 as) [] σ := by
  unfold n_On_isDrummer at h
  split at h
  · refine sv_run X d_On_isDrummer (K := kk_On_isDrummer) (sv_lk_all (P := fun pc (k : sv_Lo → List sv_V → sv_S → Option (Int32 × sv_S)) => ∀ lo st σ, k lo st σ = some res → sv_T Γ pc lo st σ) ?_) _ _ _ _ _ ((e_On_isDrummer _ _).trans h)
    clear h
    exact fun _ h => absurd h List.not_mem_nil
  · cases h
theorem a_On_isDrummer (as : List sv_V) (σ : sv_S) (x : Int32 × sv_S) (h : n_On_isDrummer as σ = some x) : sv_args 2 ev_On_isDrummer.2.2.2.1 as := by
  unfold n_On_isDrummer at h
  split at h
  · exact ⟨Nat.le_of_ble_eq_true rfl, fun _ v hv => by
      simp only [List.mem_cons, List.not_mem_nil, or_false] at hv
      rcases hv with rfl | rfl <;> trivial⟩
  · cases h
theorem g_On_isDrummer (as : List sv_V) (σ : sv_S) (x : Option sv_V × sv_S) (h : sv_gI n_On_isDrummer as σ = some x) : ∃ r i as', as = sv_R r i :: as' ∧ sv_kd r i = .inl 11 := by
  obtain ⟨_, _, h, -⟩ := sv_b_some h
  unfold n_On_isDrummer at h
  split at h
  · exact ⟨_, _, _, rfl, rfl⟩
  · cases h

set_option maxRecDepth 20000 in
theorem m_On_isDrummer (l : Launch) : sv_M l yX11_isDrummer cX11_isDrummer 2 (some .boolean) (sv_gI n_On_isDrummer) 0 := by
  refine sv_mZ (E := ev_On_isDrummer) (by decide +kernel) (ln_gen fk_11 kk_11 gk_11) rfl ?_ a_On_isDrummer b_On_isDrummer
  intro p e R s m args below meth c cells slots Q base ad dC dI cA n0 S hkn hR hf pc n f hcs
  refine sv_lk_all (P := fun pc (x : Nat × sv_F) => sv_cok p l e R s m args below meth c cells slots Q base ad dC dI cA true 2 n0 pc x.1 x.2) ?_ pc (n, f) hcs
  exact fun _ h => absurd h List.not_mem_nil
noncomputable def f_k_worth (a0 : Nat) (a1 : Int32) (σ : sv_S) : Option (Int32 × sv_S) := match a0 with
  | 0 => f_Ki_worth 0 a1 σ
  | 1 => f_Sl_worth 1 a1 σ
  | 2 => f_Ea_worth 2 a1 σ
  | 3 => f_La_worth 3 a1 σ
  | 4 => f_Tr_worth 4 a1 σ
  | 5 => f_De_worth 5 a1 σ
  | _ => none
noncomputable def n_k_worth : List sv_V → sv_S → Option (Int32 × sv_S)
  | [.inr (.inr (some (7, a0))), .inl a1], σ => f_k_worth a0 a1 σ
  | _, _ => none
theorem dp_worth (P : sv_D → Prop) (g0 : P (sv_a7 0 (sv_gI n_Ki_worth))) (g1 : P (sv_a7 1 (sv_gI n_Sl_worth))) (g2 : P (sv_a7 2 (sv_gI n_Ea_worth))) (g3 : P (sv_a7 3 (sv_gI n_La_worth))) (g4 : P (sv_a7 4 (sv_gI n_Tr_worth))) (g5 : P (sv_a7 5 (sv_gI n_De_worth))) : ∀ as σ x, sv_gI n_k_worth as σ = some x → ∃ G', G' as σ = some x ∧ P G' := by
  intro as σ x h
  obtain ⟨v, τ, h1, h2⟩ := sv_b_some h
  unfold n_k_worth at h1
  split at h1
  · unfold f_k_worth at h1
    split at h1
    · exact ⟨_, sv_a7_of (G := sv_gI n_Ki_worth) (sv_gI_of (F := n_Ki_worth) h1 h2), g0⟩
    · exact ⟨_, sv_a7_of (G := sv_gI n_Sl_worth) (sv_gI_of (F := n_Sl_worth) h1 h2), g1⟩
    · exact ⟨_, sv_a7_of (G := sv_gI n_Ea_worth) (sv_gI_of (F := n_Ea_worth) h1 h2), g2⟩
    · exact ⟨_, sv_a7_of (G := sv_gI n_La_worth) (sv_gI_of (F := n_La_worth) h1 h2), g3⟩
    · exact ⟨_, sv_a7_of (G := sv_gI n_Tr_worth) (sv_gI_of (F := n_Tr_worth) h1 h2), g4⟩
    · exact ⟨_, sv_a7_of (G := sv_gI n_De_worth) (sv_gI_of (F := n_De_worth) h1 h2), g5⟩
    · cases h1
  · cases h1
noncomputable def f_On_told (a1 : Int32) (a2 : Int32) (σ : sv_S) : Option (Int32 × sv_S) :=
  sv_b (f_On_isDrummer a1 σ) (fun v1 σ2 =>
    sv_if (v1 = 0)
      (some ((-1000000001 : Int32), σ2))
      (sv_g (sv_in a1 10) (sv_if (a2.toInt = 0)
        (some (σ2 2 (10 * 0 + (a1.toNatClampNeg)) 0, σ2))
        (sv_if (a2.toInt = 1)
        (some (σ2 2 (10 * 0 + (a1.toNatClampNeg)) 1, σ2))
        (sv_if (a2.toInt = 2)
        (some (σ2 2 (10 * 0 + (a1.toNatClampNeg)) 2, σ2))
        (sv_if (a2.toInt = 3)
        (some (σ2 2 (10 * 0 + (a1.toNatClampNeg)) 3, σ2))
        (sv_if (a2.toInt = 4)
        (some (σ2 2 (10 * 0 + (a1.toNatClampNeg)) 4, σ2))
        (sv_if (a2.toInt = 5)
        (some (σ2 2 (10 * 0 + (a1.toNatClampNeg)) 5, σ2))
        (sv_if (a2.toInt = 6)
        (sv_if ((σ2 2 (10 * 0 + (a1.toNatClampNeg)) 7) = 0)
          (some ((-1000000005 : Int32), σ2))
          (some (σ2 2 (10 * 0 + (a1.toNatClampNeg)) 7, σ2)))
        (sv_if (a2.toInt = 7)
        (some (σ2 2 (10 * 0 + (a1.toNatClampNeg)) 6, σ2))
        (sv_if (a2.toInt = 8)
        (sv_b (f_Li_kindOf 0 (10 * 0 + (a1.toNatClampNeg)) σ2) (fun i3 σ4 =>
          sv_b (f_k_hears i3 0 a1 σ4) (fun v5 σ6 =>
            sv_if (v5 = 0)
              (some ((0 : Int32), σ6))
              (some ((1 : Int32), σ6)))))
        (sv_if (a2.toInt = 9)
        (sv_b (f_Li_wakesTo 0 a1 σ2) (fun v7 σ8 =>
          some (v7, σ8)))
        (sv_if (a2.toInt = 10)
        (sv_if ((σ2 2 (10 * 0 + (a1.toNatClampNeg)) 2) = 0)
          (some ((0 : Int32), σ2))
          (sv_b (f_Li_kindOf 0 (10 * 0 + (a1.toNatClampNeg)) σ2) (fun i9 σ10 =>
            sv_b (f_k_stepFrom i9 (σ10 2 (10 * 0 + (a1.toNatClampNeg)) 2) (σ10 1 0 5) σ10) (fun v11 σ12 =>
              some (v11, σ12)))))
        (sv_if (a2.toInt = 11)
        (sv_b (f_Li_kindOf 0 (10 * 0 + (a1.toNatClampNeg)) σ2) (fun i13 σ14 =>
          sv_b (f_k_worth i13 (σ14 2 (10 * 0 + (a1.toNatClampNeg)) 1) σ14) (fun v15 σ16 =>
            some (v15, σ16))))
        (some ((-1000000001 : Int32), σ2))))))))))))))))
noncomputable def n_On_told : List sv_V → sv_S → Option (Int32 × sv_S)
  | [.inr (.inr (some (0, 0))), .inl a1, .inl a2], σ => f_On_told a1 a2 σ
  | _, _ => none
def cd_On_told : sv_C := [(0, (.aload_n 0, (sv_N, (1, (0, []))))), (1, (.iload_n 1, (sv_N, (2, (0, []))))), (2, (.invokevirtual 97, (sv_N, (5, (0, []))))), (5, (.ifCond .ne 6, (sv_N, (8, (11, []))))), (8, (.ldc 87, (sv_N, (10, (0, []))))), (10, (.ireturn, (sv_N, (11, (0, []))))), (11, (.aload_n 0, (sv_N, (12, (0, []))))), (12, (.getfield 30, (sv_N, (15, (0, []))))), (15, (.getfield 100, (sv_N, (18, (0, []))))), (18, (.iload_n 1, (sv_N, (19, (0, []))))), (19, (.aaload, (sv_N, (20, (0, []))))), (20, (.astore_n 3, (sv_N, (21, (0, []))))), (21, (.iload_n 2, (sv_N, (22, (0, []))))), (22, (.tableswitch 198 0 11 #[62, 67, 72, 77, 82, 87, 92, 109, 114, 139, 148, 182], (sv_N, (22, (220, [(0, 84), (1, 89), (2, 94), (3, 99), (4, 104), (5, 109), (6, 114), (7, 131), (8, 136), (9, 161), (10, 170), (11, 204)]))))), (84, (.aload_n 3, (sv_N, (85, (0, []))))), (85, (.getfield 103, (sv_N, (88, (0, []))))), (88, (.ireturn, (sv_N, (89, (0, []))))), (89, (.aload_n 3, (sv_N, (90, (0, []))))), (90, (.getfield 106, (sv_N, (93, (0, []))))), (93, (.ireturn, (sv_N, (94, (0, []))))), (94, (.aload_n 3, (sv_N, (95, (0, []))))), (95, (.getfield 109, (sv_N, (98, (0, []))))), (98, (.ireturn, (sv_N, (99, (0, []))))), (99, (.aload_n 3, (sv_N, (100, (0, []))))), (100, (.getfield 112, (sv_N, (103, (0, []))))), (103, (.ireturn, (sv_N, (104, (0, []))))), (104, (.aload_n 3, (sv_N, (105, (0, []))))), (105, (.getfield 115, (sv_N, (108, (0, []))))), (108, (.ireturn, (sv_N, (109, (0, []))))), (109, (.aload_n 3, (sv_N, (110, (0, []))))), (110, (.getfield 118, (sv_N, (113, (0, []))))), (113, (.ireturn, (sv_N, (114, (0, []))))), (114, (.aload_n 3, (sv_N, (115, (0, []))))), (115, (.getfield 121, (sv_N, (118, (0, []))))), (118, (.ifCond .ne 8, (sv_N, (121, (126, []))))), (121, (.ldc 124, (sv_N, (123, (0, []))))), (123, (.goto 7, (sv_N, (126, (130, []))))), (126, (.aload_n 3, (sv_N, (127, (0, []))))), (127, (.getfield 121, (sv_N, (130, (0, []))))), (130, (.ireturn, (sv_N, (131, (0, []))))), (131, (.aload_n 3, (sv_N, (132, (0, []))))), (132, (.getfield 125, (sv_N, (135, (0, []))))), (135, (.ireturn, (sv_N, (136, (0, []))))), (136, (.aload_n 0, (sv_N, (137, (0, []))))), (137, (.getfield 30, (sv_N, (140, (0, []))))), (140, (.aload_n 3, (sv_N, (141, (0, []))))), (141, (.invokevirtual 128, (sv_N, (144, (0, []))))), (144, (.aload_n 0, (sv_N, (145, (0, []))))), (145, (.getfield 30, (sv_N, (148, (0, []))))), (148, (.iload_n 1, (sv_N, (149, (0, []))))), (149, (.invokevirtual 132, (sv_N, (152, (0, []))))), (152, (.ifCond .eq 7, (sv_N, (155, (159, []))))), (155, (.iconst 1, (.inl (1 : Int32), (156, (0, []))))), (156, (.goto 4, (sv_N, (159, (160, []))))), (159, (.iconst 0, (.inl (0 : Int32), (160, (0, []))))), (160, (.ireturn, (sv_N, (161, (0, []))))), (161, (.aload_n 0, (sv_N, (162, (0, []))))), (162, (.getfield 30, (sv_N, (165, (0, []))))), (165, (.iload_n 1, (sv_N, (166, (0, []))))), (166, (.invokevirtual 136, (sv_N, (169, (0, []))))), (169, (.ireturn, (sv_N, (170, (0, []))))), (170, (.aload_n 3, (sv_N, (171, (0, []))))), (171, (.getfield 109, (sv_N, (174, (0, []))))), (174, (.ifCond .ne 7, (sv_N, (177, (181, []))))), (177, (.iconst 0, (.inl (0 : Int32), (178, (0, []))))), (178, (.goto 25, (sv_N, (181, (203, []))))), (181, (.aload_n 0, (sv_N, (182, (0, []))))), (182, (.getfield 30, (sv_N, (185, (0, []))))), (185, (.aload_n 3, (sv_N, (186, (0, []))))), (186, (.invokevirtual 128, (sv_N, (189, (0, []))))), (189, (.aload_n 3, (sv_N, (190, (0, []))))), (190, (.getfield 109, (sv_N, (193, (0, []))))), (193, (.aload_n 0, (sv_N, (194, (0, []))))), (194, (.getfield 30, (sv_N, (197, (0, []))))), (197, (.getfield 140, (sv_N, (200, (0, []))))), (200, (.invokevirtual 143, (sv_N, (203, (0, []))))), (203, (.ireturn, (sv_N, (204, (0, []))))), (204, (.aload_n 0, (sv_N, (205, (0, []))))), (205, (.getfield 30, (sv_N, (208, (0, []))))), (208, (.aload_n 3, (sv_N, (209, (0, []))))), (209, (.invokevirtual 128, (sv_N, (212, (0, []))))), (212, (.aload_n 3, (sv_N, (213, (0, []))))), (213, (.getfield 106, (sv_N, (216, (0, []))))), (216, (.invokevirtual 146, (sv_N, (219, (0, []))))), (219, (.ireturn, (sv_N, (220, (0, []))))), (220, (.ldc 87, (sv_N, (222, (0, []))))), (222, (.ireturn, (sv_N, (223, (0, [])))))]
noncomputable def ev_On_told : sv_E := (fun i => sv_lk i fl_11, (fun i => sv_lk i kc_11, (fun i => bif Nat.beq i 166 then 1 else 0, (true, (fun pc => sv_lk pc [(2, (2, .inl n_On_isDrummer)), (141, (2, .inr (.inr (.inl (7, n_Li_kindOf))))), (149, (3, .inl n_k_hears)), (166, (2, .inl n_Li_wakesTo)), (186, (2, .inr (.inr (.inl (7, n_Li_kindOf))))), (200, (3, .inl n_k_stepFrom)), (209, (2, .inr (.inr (.inl (7, n_Li_kindOf))))), (216, (2, .inl n_k_worth))], none)))))
noncomputable def kk_On_told : sv_K (Int32 × sv_S) := fun pc => sv_lk pc []
set_option maxRecDepth 20000 in
theorem e_On_told (a1 : Int32) (a2 : Int32) (σ : sv_S) : sv_ex ev_On_told sv_rI kk_On_told cd_On_told 89 0 [some (.inr (.inr (some (0, 0)))), some (.inl a1), some (.inl a2), none] [] σ = f_On_told a1 a2 σ := by
  unfold f_On_told
  delta ev_On_told kk_On_told n_On_isDrummer n_Li_kindOf n_k_hears n_Li_wakesTo n_k_stepFrom n_k_worth
  generalize f_On_isDrummer = c0
  generalize f_Li_kindOf = c1
  generalize f_k_hears = c2
  generalize f_Li_wakesTo = c3
  generalize f_k_stepFrom = c4
  generalize f_k_worth = c5
  rfl
theorem d_On_told : cd_On_told.all (sv_dk cX11_told) = true := by decide +kernel
set_option maxRecDepth 20000 in
theorem b_On_told (Γ : sv_Ga) (res : Int32 × sv_S) (X : sv_Ok Γ ev_On_told cX11_told sv_rI res) (as : List sv_V) (σ : sv_S) (h : n_On_told as σ = some res) : sv_T Γ 0 (sv_e0 4 as) [] σ := by
  unfold n_On_told at h
  split at h
  · refine sv_run X d_On_told (K := kk_On_told) (sv_lk_all (P := fun pc (k : sv_Lo → List sv_V → sv_S → Option (Int32 × sv_S)) => ∀ lo st σ, k lo st σ = some res → sv_T Γ pc lo st σ) ?_) _ _ _ _ _ ((e_On_told _ _ _).trans h)
    clear h
    exact fun _ h => absurd h List.not_mem_nil
  · cases h
theorem a_On_told (as : List sv_V) (σ : sv_S) (x : Int32 × sv_S) (h : n_On_told as σ = some x) : sv_args 4 ev_On_told.2.2.2.1 as := by
  unfold n_On_told at h
  split at h
  · exact ⟨Nat.le_of_ble_eq_true rfl, fun _ v hv => by
      simp only [List.mem_cons, List.not_mem_nil, or_false] at hv
      rcases hv with rfl | rfl | rfl <;> trivial⟩
  · cases h
theorem g_On_told (as : List sv_V) (σ : sv_S) (x : Option sv_V × sv_S) (h : sv_gI n_On_told as σ = some x) : ∃ r i as', as = sv_R r i :: as' ∧ sv_kd r i = .inl 11 := by
  obtain ⟨_, _, h, -⟩ := sv_b_some h
  unfold n_On_told at h
  split at h
  · exact ⟨_, _, _, rfl, rfl⟩
  · cases h
theorem tw_0 : Cond.selects RX11 yX11_isDrummer yX11_isDrummer ∈ gw_tbl := gw_at 0 (by decide +kernel) rfl
theorem tw_348 : Cond.methodLink RX11 97 yX11_isDrummer ∈ gw_tbl := gw_at 348 (by decide +kernel) rfl
theorem tw_350 : Cond.instanceMethod yX11_isDrummer ∈ gw_tbl := gw_at 350 (by decide +kernel) rfl
theorem tw_351 : Cond.code yX11_isDrummer cX11_isDrummer 2 (some .boolean) ∈ gw_tbl := gw_at 351 (by decide +kernel) rfl
theorem tw_353 : Cond.methodLink RX11 128 yX5_kindOf ∈ gw_tbl := gw_at 353 (by decide +kernel) rfl
theorem tw_357 : Cond.methodLink RX11 132 yX3_hears ∈ gw_tbl := gw_at 357 (by decide +kernel) rfl
theorem tw_396 : Cond.methodLink RX11 136 yX5_wakesTo ∈ gw_tbl := gw_at 396 (by decide +kernel) rfl
theorem tw_428 : Cond.methodLink RX11 143 yX3_stepFrom ∈ gw_tbl := gw_at 428 (by decide +kernel) rfl
theorem tw_446 : Cond.methodLink RX11 146 yX3_worth ∈ gw_tbl := gw_at 446 (by decide +kernel) rfl
theorem tw_448 : Cond.selects RX3 yX3_worth yX3_worth ∈ gw_tbl := gw_at 448 (by decide +kernel) rfl
theorem tw_450 : Cond.selects RX0 yX3_worth yX0_worth ∈ gw_tbl := gw_at 450 (by decide +kernel) rfl
theorem tw_451 : Cond.instanceMethod yX0_worth ∈ gw_tbl := gw_at 451 (by decide +kernel) rfl
theorem tw_452 : Cond.code yX0_worth cX0_worth 2 (some .int) ∈ gw_tbl := gw_at 452 (by decide +kernel) rfl
theorem tw_453 : Cond.selects RX2 yX3_worth yX2_worth ∈ gw_tbl := gw_at 453 (by decide +kernel) rfl
theorem tw_456 : Cond.selects RX4 yX3_worth yX4_worth ∈ gw_tbl := gw_at 456 (by decide +kernel) rfl
theorem tw_457 : Cond.instanceMethod yX4_worth ∈ gw_tbl := gw_at 457 (by decide +kernel) rfl
theorem tw_458 : Cond.code yX4_worth cX4_worth 2 (some .int) ∈ gw_tbl := gw_at 458 (by decide +kernel) rfl
theorem tw_463 : Cond.selects RX7 yX3_worth yX7_worth ∈ gw_tbl := gw_at 463 (by decide +kernel) rfl
theorem tw_464 : Cond.selects RX10 yX3_worth yX10_worth ∈ gw_tbl := gw_at 464 (by decide +kernel) rfl
theorem tw_465 : Cond.instanceMethod yX10_worth ∈ gw_tbl := gw_at 465 (by decide +kernel) rfl
theorem tw_466 : Cond.code yX10_worth cX10_worth 2 (some .int) ∈ gw_tbl := gw_at 466 (by decide +kernel) rfl
set_option maxRecDepth 20000 in
theorem m_On_told (l : Launch) : sv_M l yX11_told cX11_told 4 (some .int) (sv_gI n_On_told) 4 := by
  refine sv_mI (E := ev_On_told) (by decide +kernel) (ln_gen fk_11 kk_11 gk_11) rfl ?_ a_On_told b_On_told
  intro p e R s m args below meth c cells slots Q base ad dC dI cA n0 S hkn hR hf pc n f hcs
  refine sv_lk_all (P := fun pc (x : Nat × sv_F) => sv_cok p l e R s m args below meth c cells slots Q base ad dC dI cA true 4 n0 pc x.1 x.2) ?_ pc (n, f) hcs
  exact List.forall_mem_cons.mpr ⟨(sv_cV S hkn (m_On_isDrummer l) ⟨Nat.le_trans (by decide) hR.1, Nat.le_trans (by decide) hR.2⟩ (by decide) hf rfl (g_On_isDrummer) (sv_w5 tw_348 tw_350 tw_0 tw_53 tw_351) (by decide +kernel) (sv_dc3 d_On_told (pc := 2) rfl rfl)).I,
      List.forall_mem_cons.mpr ⟨(sv_cV S hkn (m_Li_kindOf l) ⟨Nat.le_trans (by decide) hR.1, Nat.le_trans (by decide) hR.2⟩ (by decide) hf rfl (g_Li_kindOf) (sv_w5 tw_353 tw_354 tw_355 tw_60 tw_356) (by decide +kernel) (sv_dc3 d_On_told (pc := 141) rfl rfl)).Rf,
      List.forall_mem_cons.mpr ⟨(sv_cg.of (dp_hears (fun G => sv_cg p l e R s m args below meth c cells slots Q base ad dC dI cA _ _ n0 149 3 G)
        (sv_cD S hkn (x := yX3_hears) (owner := RX3) (q := (RX3, TX3, 0)) (sv_M.sub (m_Ki_hears l) sv_a7_sub) hf (ci := 3) rfl (fun as σ x h => by obtain ⟨as', e⟩ := sv_a7_at (j := 0) as σ x h; exact ⟨7, 0, as', e, rfl⟩) (sv_cwI S ⟨Nat.le_trans (by decide) hR.1, Nat.le_trans (by decide) hR.2⟩ (by decide) rfl (sv_w6 tw_357 tw_360 tw_359 tw_358 tw_54 tw_379) (by decide +kernel)) (sv_dc3 d_On_told (pc := 149) rfl rfl))
        (sv_cD S hkn (x := yX3_hears) (owner := RX3) (q := (RX7, TX7, 0)) (sv_M.sub (m_Ki_hears l) sv_a7_sub) hf (ci := 7) rfl (fun as σ x h => by obtain ⟨as', e⟩ := sv_a7_at (j := 1) as σ x h; exact ⟨7, 1, as', e, rfl⟩) (sv_cwI S ⟨Nat.le_trans (by decide) hR.1, Nat.le_trans (by decide) hR.2⟩ (by decide) rfl (sv_w6 tw_357 tw_360 tw_377 tw_358 tw_54 tw_379) (by decide +kernel)) (sv_dc3 d_On_told (pc := 149) rfl rfl))
        (sv_cD S hkn (x := yX3_hears) (owner := RX3) (q := (RX2, TX2, 0)) (sv_M.sub (m_Ki_hears l) sv_a7_sub) hf (ci := 2) rfl (fun as σ x h => by obtain ⟨as', e⟩ := sv_a7_at (j := 2) as σ x h; exact ⟨7, 2, as', e, rfl⟩) (sv_cwI S ⟨Nat.le_trans (by decide) hR.1, Nat.le_trans (by decide) hR.2⟩ (by decide) rfl (sv_w6 tw_357 tw_360 tw_375 tw_358 tw_54 tw_379) (by decide +kernel)) (sv_dc3 d_On_told (pc := 149) rfl rfl))
        (sv_cD S hkn (x := yX3_hears) (owner := RX3) (q := (RX4, TX4, 0)) (sv_M.sub (m_Ki_hears l) sv_a7_sub) hf (ci := 4) rfl (fun as σ x h => by obtain ⟨as', e⟩ := sv_a7_at (j := 3) as σ x h; exact ⟨7, 3, as', e, rfl⟩) (sv_cwI S ⟨Nat.le_trans (by decide) hR.1, Nat.le_trans (by decide) hR.2⟩ (by decide) rfl (sv_w6 tw_357 tw_360 tw_376 tw_358 tw_54 tw_379) (by decide +kernel)) (sv_dc3 d_On_told (pc := 149) rfl rfl))
        (sv_cD S hkn (x := yX3_hears) (owner := RX3) (q := (RX10, TX10, 0)) (sv_M.sub (m_Ki_hears l) sv_a7_sub) hf (ci := 10) rfl (fun as σ x h => by obtain ⟨as', e⟩ := sv_a7_at (j := 4) as σ x h; exact ⟨7, 4, as', e, rfl⟩) (sv_cwI S ⟨Nat.le_trans (by decide) hR.1, Nat.le_trans (by decide) hR.2⟩ (by decide) rfl (sv_w6 tw_357 tw_360 tw_378 tw_358 tw_54 tw_379) (by decide +kernel)) (sv_dc3 d_On_told (pc := 149) rfl rfl))
        (sv_cD S hkn (x := yX3_hears) (owner := RX3) (q := (RX0, TX0, 0)) (sv_M.sub (m_De_hears l) sv_a7_sub) hf (ci := 0) rfl (fun as σ x h => by obtain ⟨as', e⟩ := sv_a7_at (j := 5) as σ x h; exact ⟨7, 5, as', e, rfl⟩) (sv_cwO S ⟨Nat.le_trans (by decide) hR.1, Nat.le_trans (by decide) hR.2⟩ (by decide) (sv_w7 tw_357 tw_360 tw_358 tw_361 tw_362 tw_59 tw_363) tw_379 (by decide +kernel)) (sv_dc3 d_On_told (pc := 149) rfl rfl)))).I,
      List.forall_mem_cons.mpr ⟨(sv_cV S hkn (m_Li_wakesTo l) ⟨Nat.le_trans (by decide) hR.1, Nat.le_trans (by decide) hR.2⟩ (by decide) hf rfl (g_Li_wakesTo) (sv_w5 tw_396 tw_397 tw_398 tw_60 tw_399) (by decide +kernel) (sv_dc3 d_On_told (pc := 166) rfl rfl)).I,
      List.forall_mem_cons.mpr ⟨(sv_cV S hkn (m_Li_kindOf l) ⟨Nat.le_trans (by decide) hR.1, Nat.le_trans (by decide) hR.2⟩ (by decide) hf rfl (g_Li_kindOf) (sv_w5 tw_353 tw_354 tw_355 tw_60 tw_356) (by decide +kernel) (sv_dc3 d_On_told (pc := 186) rfl rfl)).Rf,
      List.forall_mem_cons.mpr ⟨(sv_cg.of (dp_stepFrom (fun G => sv_cg p l e R s m args below meth c cells slots Q base ad dC dI cA _ _ n0 200 3 G)
        (sv_cD S hkn (x := yX3_stepFrom) (owner := RX3) (q := (RX3, TX3, 0)) (sv_M.sub (m_Ki_stepFrom l) sv_a7_sub) hf (ci := 3) rfl (fun as σ x h => by obtain ⟨as', e⟩ := sv_a7_at (j := 0) as σ x h; exact ⟨7, 0, as', e, rfl⟩) (sv_cwI S ⟨Nat.le_trans (by decide) hR.1, Nat.le_trans (by decide) hR.2⟩ (by decide) rfl (sv_w6 tw_428 tw_431 tw_430 tw_429 tw_54 tw_445) (by decide +kernel)) (sv_dc3 d_On_told (pc := 200) rfl rfl))
        (sv_cD S hkn (x := yX3_stepFrom) (owner := RX3) (q := (RX7, TX7, 0)) (sv_M.sub (m_Sl_stepFrom l) sv_a7_sub) hf (ci := 7) rfl (fun as σ x h => by obtain ⟨as', e⟩ := sv_a7_at (j := 1) as σ x h; exact ⟨7, 1, as', e, rfl⟩) (sv_cwO S ⟨Nat.le_trans (by decide) hR.1, Nat.le_trans (by decide) hR.2⟩ (by decide) (sv_w7 tw_428 tw_431 tw_429 tw_438 tw_435 tw_55 tw_436) tw_445 (by decide +kernel)) (sv_dc3 d_On_told (pc := 200) rfl rfl))
        (sv_cD S hkn (x := yX3_stepFrom) (owner := RX3) (q := (RX2, TX2, 0)) (sv_M.sub (m_Ki_stepFrom l) sv_a7_sub) hf (ci := 2) rfl (fun as σ x h => by obtain ⟨as', e⟩ := sv_a7_at (j := 2) as σ x h; exact ⟨7, 2, as', e, rfl⟩) (sv_cwI S ⟨Nat.le_trans (by decide) hR.1, Nat.le_trans (by decide) hR.2⟩ (by decide) rfl (sv_w6 tw_428 tw_431 tw_433 tw_429 tw_54 tw_445) (by decide +kernel)) (sv_dc3 d_On_told (pc := 200) rfl rfl))
        (sv_cD S hkn (x := yX3_stepFrom) (owner := RX3) (q := (RX4, TX4, 0)) (sv_M.sub (m_Sl_stepFrom l) sv_a7_sub) hf (ci := 4) rfl (fun as σ x h => by obtain ⟨as', e⟩ := sv_a7_at (j := 3) as σ x h; exact ⟨7, 3, as', e, rfl⟩) (sv_cwO S ⟨Nat.le_trans (by decide) hR.1, Nat.le_trans (by decide) hR.2⟩ (by decide) (sv_w7 tw_428 tw_431 tw_429 tw_434 tw_435 tw_55 tw_436) tw_445 (by decide +kernel)) (sv_dc3 d_On_told (pc := 200) rfl rfl))
        (sv_cD S hkn (x := yX3_stepFrom) (owner := RX3) (q := (RX10, TX10, 0)) (sv_M.sub (m_Tr_stepFrom l) sv_a7_sub) hf (ci := 10) rfl (fun as σ x h => by obtain ⟨as', e⟩ := sv_a7_at (j := 4) as σ x h; exact ⟨7, 4, as', e, rfl⟩) (sv_cwO S ⟨Nat.le_trans (by decide) hR.1, Nat.le_trans (by decide) hR.2⟩ (by decide) (sv_w7 tw_428 tw_431 tw_429 tw_439 tw_440 tw_58 tw_441) tw_445 (by decide +kernel)) (sv_dc3 d_On_told (pc := 200) rfl rfl))
        (sv_cD S hkn (x := yX3_stepFrom) (owner := RX3) (q := (RX0, TX0, 0)) (sv_M.sub (m_Ki_stepFrom l) sv_a7_sub) hf (ci := 0) rfl (fun as σ x h => by obtain ⟨as', e⟩ := sv_a7_at (j := 5) as σ x h; exact ⟨7, 5, as', e, rfl⟩) (sv_cwI S ⟨Nat.le_trans (by decide) hR.1, Nat.le_trans (by decide) hR.2⟩ (by decide) rfl (sv_w6 tw_428 tw_431 tw_432 tw_429 tw_54 tw_445) (by decide +kernel)) (sv_dc3 d_On_told (pc := 200) rfl rfl)))).I,
      List.forall_mem_cons.mpr ⟨(sv_cV S hkn (m_Li_kindOf l) ⟨Nat.le_trans (by decide) hR.1, Nat.le_trans (by decide) hR.2⟩ (by decide) hf rfl (g_Li_kindOf) (sv_w5 tw_353 tw_354 tw_355 tw_60 tw_356) (by decide +kernel) (sv_dc3 d_On_told (pc := 209) rfl rfl)).Rf,
      List.forall_mem_cons.mpr ⟨(sv_cg.of (dp_worth (fun G => sv_cg p l e R s m args below meth c cells slots Q base ad dC dI cA _ _ n0 216 2 G)
        (sv_cD S hkn (x := yX3_worth) (owner := RX3) (q := (RX3, TX3, 0)) (sv_M.sub (m_Ki_worth l) sv_a7_sub) hf (ci := 3) rfl (fun as σ x h => by obtain ⟨as', e⟩ := sv_a7_at (j := 0) as σ x h; exact ⟨7, 0, as', e, rfl⟩) (sv_cwI S ⟨Nat.le_trans (by decide) hR.1, Nat.le_trans (by decide) hR.2⟩ (by decide) rfl (sv_w6 tw_446 tw_449 tw_448 tw_447 tw_54 tw_468) (by decide +kernel)) (sv_dc3 d_On_told (pc := 216) rfl rfl))
        (sv_cD S hkn (x := yX3_worth) (owner := RX3) (q := (RX7, TX7, 0)) (sv_M.sub (m_Sl_worth l) sv_a7_sub) hf (ci := 7) rfl (fun as σ x h => by obtain ⟨as', e⟩ := sv_a7_at (j := 1) as σ x h; exact ⟨7, 1, as', e, rfl⟩) (sv_cwO S ⟨Nat.le_trans (by decide) hR.1, Nat.le_trans (by decide) hR.2⟩ (by decide) (sv_w7 tw_446 tw_449 tw_447 tw_463 tw_460 tw_55 tw_461) tw_468 (by decide +kernel)) (sv_dc3 d_On_told (pc := 216) rfl rfl))
        (sv_cD S hkn (x := yX3_worth) (owner := RX3) (q := (RX2, TX2, 0)) (sv_M.sub (m_Ea_worth l) sv_a7_sub) hf (ci := 2) rfl (fun as σ x h => by obtain ⟨as', e⟩ := sv_a7_at (j := 2) as σ x h; exact ⟨7, 2, as', e, rfl⟩) (sv_cwO S ⟨Nat.le_trans (by decide) hR.1, Nat.le_trans (by decide) hR.2⟩ (by decide) (sv_w7 tw_446 tw_449 tw_447 tw_453 tw_454 tw_56 tw_455) tw_468 (by decide +kernel)) (sv_dc3 d_On_told (pc := 216) rfl rfl))
        (sv_cD S hkn (x := yX3_worth) (owner := RX3) (q := (RX4, TX4, 0)) (sv_M.sub (m_La_worth l) sv_a7_sub) hf (ci := 4) rfl (fun as σ x h => by obtain ⟨as', e⟩ := sv_a7_at (j := 3) as σ x h; exact ⟨7, 3, as', e, rfl⟩) (sv_cwO S ⟨Nat.le_trans (by decide) hR.1, Nat.le_trans (by decide) hR.2⟩ (by decide) (sv_w7 tw_446 tw_449 tw_447 tw_456 tw_457 tw_57 tw_458) tw_468 (by decide +kernel)) (sv_dc3 d_On_told (pc := 216) rfl rfl))
        (sv_cD S hkn (x := yX3_worth) (owner := RX3) (q := (RX10, TX10, 0)) (sv_M.sub (m_Tr_worth l) sv_a7_sub) hf (ci := 10) rfl (fun as σ x h => by obtain ⟨as', e⟩ := sv_a7_at (j := 4) as σ x h; exact ⟨7, 4, as', e, rfl⟩) (sv_cwO S ⟨Nat.le_trans (by decide) hR.1, Nat.le_trans (by decide) hR.2⟩ (by decide) (sv_w7 tw_446 tw_449 tw_447 tw_464 tw_465 tw_58 tw_466) tw_468 (by decide +kernel)) (sv_dc3 d_On_told (pc := 216) rfl rfl))
        (sv_cD S hkn (x := yX3_worth) (owner := RX3) (q := (RX0, TX0, 0)) (sv_M.sub (m_De_worth l) sv_a7_sub) hf (ci := 0) rfl (fun as σ x h => by obtain ⟨as', e⟩ := sv_a7_at (j := 5) as σ x h; exact ⟨7, 5, as', e, rfl⟩) (sv_cwO S ⟨Nat.le_trans (by decide) hR.1, Nat.le_trans (by decide) hR.2⟩ (by decide) (sv_w7 tw_446 tw_449 tw_447 tw_450 tw_451 tw_59 tw_452) tw_468 (by decide +kernel)) (sv_dc3 d_On_told (pc := 216) rfl rfl)))).I,
      fun _ h => absurd h List.not_mem_nil⟩⟩⟩⟩⟩⟩⟩⟩
noncomputable def f_On_isOf_4 : Nat → Int32 → Int32 → Int32 → sv_S → Option (Int32 × sv_S)
  | 0, _, _, _, _ => none
  | n + 1, x1, x2, x3, σ =>
    sv_if ((nI 6) ≤ x3)
      (sv_g ((0 : Int32) = 0 ∨ (0 : Int32) = 1) (some ((0 : Int32), σ)))
      (sv_b (f_On_isKind x2 σ) (fun v1 σ2 =>
        sv_if (v1 = 0)
          (sv_g ((0 : Int32) = 0 ∨ (0 : Int32) = 1) (some ((0 : Int32), σ2)))
          (sv_if (x2 = x1)
            (sv_g ((1 : Int32) = 0 ∨ (1 : Int32) = 1) (some ((1 : Int32), σ2)))
            (sv_g (sv_in x2 6) (f_On_isOf_4 n x1 (sv_ab (x2.toNatClampNeg)) (x3 + (1 : Int32)) σ2)))))
noncomputable def f_On_isOf (a0 : Int32) (a1 : Int32) (σ : sv_S) : Option (Int32 × sv_S) :=
  f_On_isOf_4 sv_fu a1 a0 (0 : Int32) σ
noncomputable def n_On_isOf : List sv_V → sv_S → Option (Int32 × sv_S)
  | [.inl a0, .inl a1], σ => f_On_isOf a0 a1 σ
  | _, _ => none
def cd_On_isOf : sv_C := [(0, (.iload_n 0, (sv_N, (1, (0, []))))), (1, (.istore_n 2, (sv_N, (2, (0, []))))), (2, (.iconst 0, (.inl (0 : Int32), (3, (0, []))))), (3, (.istore_n 3, (sv_N, (4, (0, []))))), (4, (.iload_n 3, (sv_N, (5, (0, []))))), (5, (.getstatic 166, (sv_N, (8, (0, []))))), (8, (.arraylength, (sv_N, (9, (0, []))))), (9, (.if_icmp .ge 29, (sv_N, (12, (38, []))))), (12, (.iload_n 2, (sv_N, (13, (0, []))))), (13, (.invokestatic 79, (sv_N, (16, (0, []))))), (16, (.ifCond .eq 22, (sv_N, (19, (38, []))))), (19, (.iload_n 2, (sv_N, (20, (0, []))))), (20, (.iload_n 1, (sv_N, (21, (0, []))))), (21, (.if_icmp .ne 5, (sv_N, (24, (26, []))))), (24, (.iconst 1, (.inl (1 : Int32), (25, (0, []))))), (25, (.ireturn, (sv_N, (26, (0, []))))), (26, (.getstatic 166, (sv_N, (29, (0, []))))), (29, (.iload_n 2, (sv_N, (30, (0, []))))), (30, (.iaload, (sv_N, (31, (0, []))))), (31, (.istore_n 2, (sv_N, (32, (0, []))))), (32, (.iinc 3 1, (.inl (1 : Int32), (35, (0, []))))), (35, (.goto (-31), (sv_N, (38, (4, []))))), (38, (.iconst 0, (.inl (0 : Int32), (39, (0, []))))), (39, (.ireturn, (sv_N, (40, (0, [])))))]
noncomputable def ev_On_isOf : sv_E := (fun i => sv_lk i fl_11, (fun i => sv_lk i kc_11, (fun i => bif Nat.beq i 166 then 1 else 0, (true, (fun pc => sv_lk pc [(13, (1, .inl n_On_isKind))], none)))))
noncomputable def kk_On_isOf_4 (n : Nat) : sv_K (Int32 × sv_S) := fun pc => sv_lk pc [(4, fun lo st σ => match lo, st with
    | [_, some (.inl x1), some (.inl x2), some (.inl x3)], [] => f_On_isOf_4 n x1 x2 x3 σ
    | _, _ => none)]
set_option maxRecDepth 20000 in
theorem e_On_isOf_4 (n : Nat) (x1 : Int32) (x2 : Int32) (x3 : Int32) (z0 : Option sv_V) (σ : sv_S) : sv_ex ev_On_isOf sv_rZ (kk_On_isOf_4 n) cd_On_isOf 26 4 [z0, some (.inl x1), some (.inl x2), some (.inl x3)] [] σ = f_On_isOf_4 (n + 1) x1 x2 x3 σ := by
  rw [f_On_isOf_4.eq_2]
  delta ev_On_isOf kk_On_isOf_4 n_On_isKind
  generalize f_On_isKind = c0
  generalize f_On_isOf_4 = c1
  rfl
noncomputable def kk_On_isOf : sv_K (Int32 × sv_S) := fun pc => sv_lk pc [(4, fun lo st σ => match lo, st with
    | [_, some (.inl x1), some (.inl x2), some (.inl x3)], [] => f_On_isOf_4 sv_fu x1 x2 x3 σ
    | _, _ => none)]
set_option maxRecDepth 20000 in
theorem e_On_isOf (a0 : Int32) (a1 : Int32) (σ : sv_S) : sv_ex ev_On_isOf sv_rZ kk_On_isOf cd_On_isOf 26 0 [some (.inl a0), some (.inl a1), none, none] [] σ = f_On_isOf a0 a1 σ := by
  unfold f_On_isOf
  delta ev_On_isOf kk_On_isOf n_On_isKind
  generalize f_On_isKind = c0
  generalize f_On_isOf_4 = c1
  rfl
theorem d_On_isOf : cd_On_isOf.all (sv_dk cX11_isOf) = true := by decide +kernel
set_option maxRecDepth 20000 in
theorem w_On_isOf_4 {Γ : sv_Ga} {res : Int32 × sv_S} (X : sv_Ok Γ ev_On_isOf cX11_isOf sv_rZ res) : ∀ (n : Nat) (x1 : Int32) (x2 : Int32) (x3 : Int32) (z0 : Option sv_V) (σ : sv_S), f_On_isOf_4 n x1 x2 x3 σ = some res → sv_T Γ 4 [z0, some (.inl x1), some (.inl x2), some (.inl x3)] [] σ := by
  intro n
  induction n with
  | zero =>
    intro x1 x2 x3 z0 σ h
    rw [f_On_isOf_4.eq_1] at h
    cases h
  | succ n ih =>
    intro x1 x2 x3 z0 σ h
    refine sv_run X d_On_isOf (K := kk_On_isOf_4 n) (sv_lk_all (P := fun pc (k : sv_Lo → List sv_V → sv_S → Option (Int32 × sv_S)) => ∀ lo st σ, k lo st σ = some res → sv_T Γ pc lo st σ) ?_) _ _ _ _ _ ((e_On_isOf_4 n x1 x2 x3 z0 σ).trans h)
    clear h
    refine List.forall_mem_cons.mpr ⟨fun lo st σ h => ?_, fun _ h => absurd h List.not_mem_nil⟩
    · dsimp only at h
      split at h
      · exact ih _ _ _ _ _ h
      · cases h

set_option maxRecDepth 20000 in
theorem b_On_isOf (Γ : sv_Ga) (res : Int32 × sv_S) (X : sv_Ok Γ ev_On_isOf cX11_isOf sv_rZ res) (as : List sv_V) (σ : sv_S) (h : n_On_isOf as σ = some res) : sv_T Γ 0 (sv_e0 4 as) [] σ := by
  unfold n_On_isOf at h
  split at h
  · refine sv_run X d_On_isOf (K := kk_On_isOf) (sv_lk_all (P := fun pc (k : sv_Lo → List sv_V → sv_S → Option (Int32 × sv_S)) => ∀ lo st σ, k lo st σ = some res → sv_T Γ pc lo st σ) ?_) _ _ _ _ _ ((e_On_isOf _ _ _).trans h)
    clear h
    refine List.forall_mem_cons.mpr ⟨fun lo st σ h => ?_, fun _ h => absurd h List.not_mem_nil⟩
    · dsimp only at h
      split at h
      · exact w_On_isOf_4 X _ _ _ _ _ _ h
      · cases h
  · cases h
theorem a_On_isOf (as : List sv_V) (σ : sv_S) (x : Int32 × sv_S) (h : n_On_isOf as σ = some x) : sv_args 4 ev_On_isOf.2.2.2.1 as := by
  unfold n_On_isOf at h
  split at h
  · exact ⟨Nat.le_of_ble_eq_true rfl, fun _ v hv => by
      simp only [List.mem_cons, List.not_mem_nil, or_false] at hv
      rcases hv with rfl | rfl <;> trivial⟩
  · cases h

set_option maxRecDepth 20000 in
theorem m_On_isOf (l : Launch) : sv_M l yX11_isOf cX11_isOf 4 (some .boolean) (sv_gI n_On_isOf) 1 := by
  refine sv_mZ (E := ev_On_isOf) (by decide +kernel) (ln_gen fk_11 kk_11 gk_11) rfl ?_ a_On_isOf b_On_isOf
  intro p e R s m args below meth c cells slots Q base ad dC dI cA n0 S hkn hR hf pc n f hcs
  refine sv_lk_all (P := fun pc (x : Nat × sv_F) => sv_cok p l e R s m args below meth c cells slots Q base ad dC dI cA true 4 n0 pc x.1 x.2) ?_ pc (n, f) hcs
  exact List.forall_mem_cons.mpr ⟨(sv_cS S hkn (m_On_isKind l) ⟨Nat.le_trans (by decide) hR.1, Nat.le_trans (by decide) hR.2⟩ (by decide) hf (sv_w4 tw_322 tw_323 tw_53 tw_324) (by decide +kernel) (sv_dc3 d_On_isOf (pc := 13) rfl rfl)).I,
      fun _ h => absurd h List.not_mem_nil⟩
noncomputable def f_On_as (a1 : Int32) (a2 : Int32) (σ : sv_S) : Option (Int32 × sv_S) :=
  sv_b (f_On_isDrummer a1 σ) (fun v1 σ2 =>
    sv_if (v1 = 0)
      (some ((-1000000001 : Int32), σ2))
      (sv_b (f_On_isKind a2 σ2) (fun v3 σ4 =>
        sv_if (v3 = 0)
          (some ((-1000000001 : Int32), σ4))
          (sv_g (sv_in a1 10) (sv_b (f_On_isOf (σ4 2 (10 * 0 + (a1.toNatClampNeg)) 0) a2 σ4) (fun v5 σ6 =>
            sv_if (v5 = 0)
              (some ((-1000000012 : Int32), σ6))
              (some (σ6 2 (10 * 0 + (a1.toNatClampNeg)) 1, σ6))))))))
noncomputable def n_On_as : List sv_V → sv_S → Option (Int32 × sv_S)
  | [.inr (.inr (some (0, 0))), .inl a1, .inl a2], σ => f_On_as a1 a2 σ
  | _, _ => none
def cd_On_as : sv_C := [(0, (.aload_n 0, (sv_N, (1, (0, []))))), (1, (.iload_n 1, (sv_N, (2, (0, []))))), (2, (.invokevirtual 97, (sv_N, (5, (0, []))))), (5, (.ifCond .eq 10, (sv_N, (8, (15, []))))), (8, (.iload_n 2, (sv_N, (9, (0, []))))), (9, (.invokestatic 79, (sv_N, (12, (0, []))))), (12, (.ifCond .ne 6, (sv_N, (15, (18, []))))), (15, (.ldc 87, (sv_N, (17, (0, []))))), (17, (.ireturn, (sv_N, (18, (0, []))))), (18, (.aload_n 0, (sv_N, (19, (0, []))))), (19, (.getfield 30, (sv_N, (22, (0, []))))), (22, (.getfield 100, (sv_N, (25, (0, []))))), (25, (.iload_n 1, (sv_N, (26, (0, []))))), (26, (.aaload, (sv_N, (27, (0, []))))), (27, (.astore_n 3, (sv_N, (28, (0, []))))), (28, (.aload_n 3, (sv_N, (29, (0, []))))), (29, (.getfield 103, (sv_N, (32, (0, []))))), (32, (.iload_n 2, (sv_N, (33, (0, []))))), (33, (.invokestatic 149, (sv_N, (36, (0, []))))), (36, (.ifCond .eq 10, (sv_N, (39, (46, []))))), (39, (.aload_n 3, (sv_N, (40, (0, []))))), (40, (.getfield 106, (sv_N, (43, (0, []))))), (43, (.goto 5, (sv_N, (46, (48, []))))), (46, (.ldc 153, (sv_N, (48, (0, []))))), (48, (.ireturn, (sv_N, (49, (0, [])))))]
noncomputable def ev_On_as : sv_E := (fun i => sv_lk i fl_11, (fun i => sv_lk i kc_11, (fun i => bif Nat.beq i 166 then 1 else 0, (true, (fun pc => sv_lk pc [(2, (2, .inl n_On_isDrummer)), (9, (1, .inl n_On_isKind)), (33, (2, .inl n_On_isOf))], none)))))
noncomputable def kk_On_as : sv_K (Int32 × sv_S) := fun pc => sv_lk pc []
set_option maxRecDepth 20000 in
theorem e_On_as (a1 : Int32) (a2 : Int32) (σ : sv_S) : sv_ex ev_On_as sv_rI kk_On_as cd_On_as 27 0 [some (.inr (.inr (some (0, 0)))), some (.inl a1), some (.inl a2), none] [] σ = f_On_as a1 a2 σ := by
  unfold f_On_as
  delta ev_On_as kk_On_as n_On_isDrummer n_On_isKind n_On_isOf
  generalize f_On_isDrummer = c0
  generalize f_On_isKind = c1
  generalize f_On_isOf = c2
  rfl
theorem d_On_as : cd_On_as.all (sv_dk cX11_as) = true := by decide +kernel
set_option maxRecDepth 20000 in
theorem b_On_as (Γ : sv_Ga) (res : Int32 × sv_S) (X : sv_Ok Γ ev_On_as cX11_as sv_rI res) (as : List sv_V) (σ : sv_S) (h : n_On_as as σ = some res) : sv_T Γ 0 (sv_e0 4 as) [] σ := by
  unfold n_On_as at h
  split at h
  · refine sv_run X d_On_as (K := kk_On_as) (sv_lk_all (P := fun pc (k : sv_Lo → List sv_V → sv_S → Option (Int32 × sv_S)) => ∀ lo st σ, k lo st σ = some res → sv_T Γ pc lo st σ) ?_) _ _ _ _ _ ((e_On_as _ _ _).trans h)
    clear h
    exact fun _ h => absurd h List.not_mem_nil
  · cases h
theorem a_On_as (as : List sv_V) (σ : sv_S) (x : Int32 × sv_S) (h : n_On_as as σ = some x) : sv_args 4 ev_On_as.2.2.2.1 as := by
  unfold n_On_as at h
  split at h
  · exact ⟨Nat.le_of_ble_eq_true rfl, fun _ v hv => by
      simp only [List.mem_cons, List.not_mem_nil, or_false] at hv
      rcases hv with rfl | rfl | rfl <;> trivial⟩
  · cases h
theorem g_On_as (as : List sv_V) (σ : sv_S) (x : Option sv_V × sv_S) (h : sv_gI n_On_as as σ = some x) : ∃ r i as', as = sv_R r i :: as' ∧ sv_kd r i = .inl 11 := by
  obtain ⟨_, _, h, -⟩ := sv_b_some h
  unfold n_On_as at h
  split at h
  · exact ⟨_, _, _, rfl, rfl⟩
  · cases h
theorem tw_473 : Cond.methodLink RX11 149 yX11_isOf ∈ gw_tbl := gw_at 473 (by decide +kernel) rfl
theorem tw_474 : Cond.static yX11_isOf ∈ gw_tbl := gw_at 474 (by decide +kernel) rfl
theorem tw_475 : Cond.code yX11_isOf cX11_isOf 4 (some .boolean) ∈ gw_tbl := gw_at 475 (by decide +kernel) rfl
set_option maxRecDepth 20000 in
theorem m_On_as (l : Launch) : sv_M l yX11_as cX11_as 4 (some .int) (sv_gI n_On_as) 2 := by
  refine sv_mI (E := ev_On_as) (by decide +kernel) (ln_gen fk_11 kk_11 gk_11) rfl ?_ a_On_as b_On_as
  intro p e R s m args below meth c cells slots Q base ad dC dI cA n0 S hkn hR hf pc n f hcs
  refine sv_lk_all (P := fun pc (x : Nat × sv_F) => sv_cok p l e R s m args below meth c cells slots Q base ad dC dI cA true 4 n0 pc x.1 x.2) ?_ pc (n, f) hcs
  exact List.forall_mem_cons.mpr ⟨(sv_cV S hkn (m_On_isDrummer l) ⟨Nat.le_trans (by decide) hR.1, Nat.le_trans (by decide) hR.2⟩ (by decide) hf rfl (g_On_isDrummer) (sv_w5 tw_348 tw_350 tw_0 tw_53 tw_351) (by decide +kernel) (sv_dc3 d_On_as (pc := 2) rfl rfl)).I,
      List.forall_mem_cons.mpr ⟨(sv_cS S hkn (m_On_isKind l) ⟨Nat.le_trans (by decide) hR.1, Nat.le_trans (by decide) hR.2⟩ (by decide) hf (sv_w4 tw_322 tw_323 tw_53 tw_324) (by decide +kernel) (sv_dc3 d_On_as (pc := 9) rfl rfl)).I,
      List.forall_mem_cons.mpr ⟨(sv_cS S hkn (m_On_isOf l) ⟨Nat.le_trans (by decide) hR.1, Nat.le_trans (by decide) hR.2⟩ (by decide) hf (sv_w4 tw_473 tw_474 tw_53 tw_475) (by decide +kernel) (sv_dc3 d_On_as (pc := 33) rfl rfl)).I,
      fun _ h => absurd h List.not_mem_nil⟩⟩⟩
noncomputable def f_On_turns (a1 : Int32) (a2 : Int32) (σ : sv_S) : Option (Int32 × sv_S) :=
  sv_b (f_On_isDrummer a1 σ) (fun v1 σ2 =>
    sv_if (v1 = 0)
      (some ((-1000000001 : Int32), σ2))
      (sv_b (f_On_isKind a2 σ2) (fun v3 σ4 =>
        sv_if (v3 = 0)
          (some ((-1000000001 : Int32), σ4))
          (sv_g (sv_in a1 10) (let σ5 := sv_up σ4 2 (10 * 0 + (a1.toNatClampNeg)) 0 a2
          some (σ4 2 (10 * 0 + (a1.toNatClampNeg)) 0, σ5))))))
noncomputable def n_On_turns : List sv_V → sv_S → Option (Int32 × sv_S)
  | [.inr (.inr (some (0, 0))), .inl a1, .inl a2], σ => f_On_turns a1 a2 σ
  | _, _ => none
def cd_On_turns : sv_C := [(0, (.aload_n 0, (sv_N, (1, (0, []))))), (1, (.iload_n 1, (sv_N, (2, (0, []))))), (2, (.invokevirtual 97, (sv_N, (5, (0, []))))), (5, (.ifCond .eq 10, (sv_N, (8, (15, []))))), (8, (.iload_n 2, (sv_N, (9, (0, []))))), (9, (.invokestatic 79, (sv_N, (12, (0, []))))), (12, (.ifCond .ne 6, (sv_N, (15, (18, []))))), (15, (.ldc 87, (sv_N, (17, (0, []))))), (17, (.ireturn, (sv_N, (18, (0, []))))), (18, (.aload_n 0, (sv_N, (19, (0, []))))), (19, (.getfield 30, (sv_N, (22, (0, []))))), (22, (.getfield 100, (sv_N, (25, (0, []))))), (25, (.iload_n 1, (sv_N, (26, (0, []))))), (26, (.aaload, (sv_N, (27, (0, []))))), (27, (.astore_n 3, (sv_N, (28, (0, []))))), (28, (.aload_n 3, (sv_N, (29, (0, []))))), (29, (.getfield 103, (sv_N, (32, (0, []))))), (32, (.istore 4, (sv_N, (34, (0, []))))), (34, (.aload_n 3, (sv_N, (35, (0, []))))), (35, (.iload_n 2, (sv_N, (36, (0, []))))), (36, (.putfield 103, (sv_N, (39, (0, []))))), (39, (.iload 4, (sv_N, (41, (0, []))))), (41, (.ireturn, (sv_N, (42, (0, [])))))]
noncomputable def ev_On_turns : sv_E := (fun i => sv_lk i fl_11, (fun i => sv_lk i kc_11, (fun i => bif Nat.beq i 166 then 1 else 0, (true, (fun pc => sv_lk pc [(2, (2, .inl n_On_isDrummer)), (9, (1, .inl n_On_isKind))], none)))))
noncomputable def kk_On_turns : sv_K (Int32 × sv_S) := fun pc => sv_lk pc []
set_option maxRecDepth 20000 in
theorem e_On_turns (a1 : Int32) (a2 : Int32) (σ : sv_S) : sv_ex ev_On_turns sv_rI kk_On_turns cd_On_turns 25 0 [some (.inr (.inr (some (0, 0)))), some (.inl a1), some (.inl a2), none, none] [] σ = f_On_turns a1 a2 σ := by
  unfold f_On_turns
  delta ev_On_turns kk_On_turns n_On_isDrummer n_On_isKind
  generalize f_On_isDrummer = c0
  generalize f_On_isKind = c1
  rfl
theorem d_On_turns : cd_On_turns.all (sv_dk cX11_turns) = true := by decide +kernel
set_option maxRecDepth 20000 in
theorem b_On_turns (Γ : sv_Ga) (res : Int32 × sv_S) (X : sv_Ok Γ ev_On_turns cX11_turns sv_rI res) (as : List sv_V) (σ : sv_S) (h : n_On_turns as σ = some res) : sv_T Γ 0 (sv_e0 5 as) [] σ := by
  unfold n_On_turns at h
  split at h
  · refine sv_run X d_On_turns (K := kk_On_turns) (sv_lk_all (P := fun pc (k : sv_Lo → List sv_V → sv_S → Option (Int32 × sv_S)) => ∀ lo st σ, k lo st σ = some res → sv_T Γ pc lo st σ) ?_) _ _ _ _ _ ((e_On_turns _ _ _).trans h)
    clear h
    exact fun _ h => absurd h List.not_mem_nil
  · cases h
theorem a_On_turns (as : List sv_V) (σ : sv_S) (x : Int32 × sv_S) (h : n_On_turns as σ = some x) : sv_args 5 ev_On_turns.2.2.2.1 as := by
  unfold n_On_turns at h
  split at h
  · exact ⟨Nat.le_of_ble_eq_true rfl, fun _ v hv => by
      simp only [List.mem_cons, List.not_mem_nil, or_false] at hv
      rcases hv with rfl | rfl | rfl <;> trivial⟩
  · cases h
theorem g_On_turns (as : List sv_V) (σ : sv_S) (x : Option sv_V × sv_S) (h : sv_gI n_On_turns as σ = some x) : ∃ r i as', as = sv_R r i :: as' ∧ sv_kd r i = .inl 11 := by
  obtain ⟨_, _, h, -⟩ := sv_b_some h
  unfold n_On_turns at h
  split at h
  · exact ⟨_, _, _, rfl, rfl⟩
  · cases h

set_option maxRecDepth 20000 in
theorem m_On_turns (l : Launch) : sv_M l yX11_turns cX11_turns 5 (some .int) (sv_gI n_On_turns) 1 := by
  refine sv_mI (E := ev_On_turns) (by decide +kernel) (ln_gen fk_11 kk_11 gk_11) rfl ?_ a_On_turns b_On_turns
  intro p e R s m args below meth c cells slots Q base ad dC dI cA n0 S hkn hR hf pc n f hcs
  refine sv_lk_all (P := fun pc (x : Nat × sv_F) => sv_cok p l e R s m args below meth c cells slots Q base ad dC dI cA true 5 n0 pc x.1 x.2) ?_ pc (n, f) hcs
  exact List.forall_mem_cons.mpr ⟨(sv_cV S hkn (m_On_isDrummer l) ⟨Nat.le_trans (by decide) hR.1, Nat.le_trans (by decide) hR.2⟩ (by decide) hf rfl (g_On_isDrummer) (sv_w5 tw_348 tw_350 tw_0 tw_53 tw_351) (by decide +kernel) (sv_dc3 d_On_turns (pc := 2) rfl rfl)).I,
      List.forall_mem_cons.mpr ⟨(sv_cS S hkn (m_On_isKind l) ⟨Nat.le_trans (by decide) hR.1, Nat.le_trans (by decide) hR.2⟩ (by decide) hf (sv_w4 tw_322 tw_323 tw_53 tw_324) (by decide +kernel) (sv_dc3 d_On_turns (pc := 9) rfl rfl)).I,
      fun _ h => absurd h List.not_mem_nil⟩⟩
noncomputable def f_On_set_88 (x2 : Int32) (x3 : Int32) (x4 : Nat) (x5 : Int32) (σ : sv_S) : Option (Int32 × sv_S) :=
    sv_if (x2 = (3 : Int32))
      (sv_b (f_On_isWithin x3 (1 : Int32) (3 : Int32) σ) (fun v1 σ2 =>
        sv_if (v1 = 0)
          (some (x5, σ2))
          (let σ3 := sv_up σ2 2 x4 6 x3
          some (σ2 2 x4 6, σ3))))
      (some (x5, σ))
noncomputable def f_On_set_57 (x2 : Int32) (x3 : Int32) (x4 : Nat) (x5 : Int32) (σ : sv_S) : Option (Int32 × sv_S) :=
    sv_if (x2 = (2 : Int32))
      (sv_b (f_On_isWithin x3 (0 : Int32) (9 : Int32) σ) (fun v1 σ2 =>
        sv_if (v1 = 0)
          (f_On_set_88 x2 x3 x4 x5 σ2)
          (let σ3 := sv_up σ2 2 x4 2 x3
          some (σ2 2 x4 2, σ3))))
      (f_On_set_88 x2 x3 x4 x5 σ)
noncomputable def f_On_set (a1 : Int32) (a2 : Int32) (a3 : Int32) (σ : sv_S) : Option (Int32 × sv_S) :=
  sv_b (f_On_isDrummer a1 σ) (fun v1 σ2 =>
    sv_if (v1 = 0)
      (some ((-1000000001 : Int32), σ2))
      (sv_g (sv_in a1 10) (sv_if (a2 = (1 : Int32))
        (sv_b (f_On_isWithin a3 (1 : Int32) (9 : Int32) σ2) (fun v3 σ4 =>
          sv_if (v3 = 0)
            (f_On_set_57 a2 a3 (10 * 0 + (a1.toNatClampNeg)) (-1000000001 : Int32) σ4)
            (let σ5 := sv_up σ4 2 (10 * 0 + (a1.toNatClampNeg)) 1 a3
            some (σ4 2 (10 * 0 + (a1.toNatClampNeg)) 1, σ5))))
        (f_On_set_57 a2 a3 (10 * 0 + (a1.toNatClampNeg)) (-1000000001 : Int32) σ2))))
noncomputable def n_On_set : List sv_V → sv_S → Option (Int32 × sv_S)
  | [.inr (.inr (some (0, 0))), .inl a1, .inl a2, .inl a3], σ => f_On_set a1 a2 a3 σ
  | _, _ => none
def cd_On_set : sv_C := [(0, (.aload_n 0, (sv_N, (1, (0, []))))), (1, (.iload_n 1, (sv_N, (2, (0, []))))), (2, (.invokevirtual 97, (sv_N, (5, (0, []))))), (5, (.ifCond .ne 6, (sv_N, (8, (11, []))))), (8, (.ldc 87, (sv_N, (10, (0, []))))), (10, (.ireturn, (sv_N, (11, (0, []))))), (11, (.aload_n 0, (sv_N, (12, (0, []))))), (12, (.getfield 30, (sv_N, (15, (0, []))))), (15, (.getfield 100, (sv_N, (18, (0, []))))), (18, (.iload_n 1, (sv_N, (19, (0, []))))), (19, (.aaload, (sv_N, (20, (0, []))))), (20, (.astore 4, (sv_N, (22, (0, []))))), (22, (.ldc 87, (sv_N, (24, (0, []))))), (24, (.istore 5, (sv_N, (26, (0, []))))), (26, (.iload_n 2, (sv_N, (27, (0, []))))), (27, (.iconst 1, (.inl (1 : Int32), (28, (0, []))))), (28, (.if_icmp .ne 29, (sv_N, (31, (57, []))))), (31, (.iload_n 3, (sv_N, (32, (0, []))))), (32, (.iconst 1, (.inl (1 : Int32), (33, (0, []))))), (33, (.bipush 9, (.inl (9 : Int32), (35, (0, []))))), (35, (.invokestatic 83, (sv_N, (38, (0, []))))), (38, (.ifCond .eq 19, (sv_N, (41, (57, []))))), (41, (.aload 4, (sv_N, (43, (0, []))))), (43, (.getfield 106, (sv_N, (46, (0, []))))), (46, (.istore 5, (sv_N, (48, (0, []))))), (48, (.aload 4, (sv_N, (50, (0, []))))), (50, (.iload_n 3, (sv_N, (51, (0, []))))), (51, (.putfield 106, (sv_N, (54, (0, []))))), (54, (.goto 61, (sv_N, (57, (115, []))))), (57, (.iload_n 2, (sv_N, (58, (0, []))))), (58, (.iconst 2, (.inl (2 : Int32), (59, (0, []))))), (59, (.if_icmp .ne 29, (sv_N, (62, (88, []))))), (62, (.iload_n 3, (sv_N, (63, (0, []))))), (63, (.iconst 0, (.inl (0 : Int32), (64, (0, []))))), (64, (.bipush 9, (.inl (9 : Int32), (66, (0, []))))), (66, (.invokestatic 83, (sv_N, (69, (0, []))))), (69, (.ifCond .eq 19, (sv_N, (72, (88, []))))), (72, (.aload 4, (sv_N, (74, (0, []))))), (74, (.getfield 109, (sv_N, (77, (0, []))))), (77, (.istore 5, (sv_N, (79, (0, []))))), (79, (.aload 4, (sv_N, (81, (0, []))))), (81, (.iload_n 3, (sv_N, (82, (0, []))))), (82, (.putfield 109, (sv_N, (85, (0, []))))), (85, (.goto 30, (sv_N, (88, (115, []))))), (88, (.iload_n 2, (sv_N, (89, (0, []))))), (89, (.iconst 3, (.inl (3 : Int32), (90, (0, []))))), (90, (.if_icmp .ne 25, (sv_N, (93, (115, []))))), (93, (.iload_n 3, (sv_N, (94, (0, []))))), (94, (.iconst 1, (.inl (1 : Int32), (95, (0, []))))), (95, (.iconst 3, (.inl (3 : Int32), (96, (0, []))))), (96, (.invokestatic 83, (sv_N, (99, (0, []))))), (99, (.ifCond .eq 16, (sv_N, (102, (115, []))))), (102, (.aload 4, (sv_N, (104, (0, []))))), (104, (.getfield 125, (sv_N, (107, (0, []))))), (107, (.istore 5, (sv_N, (109, (0, []))))), (109, (.aload 4, (sv_N, (111, (0, []))))), (111, (.iload_n 3, (sv_N, (112, (0, []))))), (112, (.putfield 125, (sv_N, (115, (0, []))))), (115, (.iload 5, (sv_N, (117, (0, []))))), (117, (.ireturn, (sv_N, (118, (0, [])))))]
noncomputable def ev_On_set : sv_E := (fun i => sv_lk i fl_11, (fun i => sv_lk i kc_11, (fun i => bif Nat.beq i 166 then 1 else 0, (true, (fun pc => sv_lk pc [(2, (2, .inl n_On_isDrummer)), (35, (3, .inl n_On_isWithin)), (66, (3, .inl n_On_isWithin)), (96, (3, .inl n_On_isWithin))], none)))))
noncomputable def kk_On_set_88 : sv_K (Int32 × sv_S) := fun pc => sv_lk pc []
set_option maxRecDepth 20000 in
theorem e_On_set_88 (x2 : Int32) (x3 : Int32) (x4 : Nat) (x5 : Int32) (z0 z1 : Option sv_V) (σ : sv_S) : sv_ex ev_On_set sv_rI (kk_On_set_88) cd_On_set 62 88 [z0, z1, some (.inl x2), some (.inl x3), some (.inr (.inr (some (2, x4)))), some (.inl x5)] [] σ = f_On_set_88 x2 x3 x4 x5 σ := by
  unfold f_On_set_88
  delta ev_On_set kk_On_set_88 n_On_isDrummer n_On_isWithin
  generalize f_On_isDrummer = c0
  generalize f_On_isWithin = c1
  rfl
noncomputable def kk_On_set_57 : sv_K (Int32 × sv_S) := fun pc => sv_lk pc [(88, fun lo st σ => match lo, st with
    | [_, _, some (.inl x2), some (.inl x3), some (.inr (.inr (some (2, x4)))), some (.inl x5)], [] => f_On_set_88 x2 x3 x4 x5 σ
    | _, _ => none)]
set_option maxRecDepth 20000 in
theorem e_On_set_57 (x2 : Int32) (x3 : Int32) (x4 : Nat) (x5 : Int32) (z0 z1 : Option sv_V) (σ : sv_S) : sv_ex ev_On_set sv_rI (kk_On_set_57) cd_On_set 62 57 [z0, z1, some (.inl x2), some (.inl x3), some (.inr (.inr (some (2, x4)))), some (.inl x5)] [] σ = f_On_set_57 x2 x3 x4 x5 σ := by
  unfold f_On_set_57
  delta ev_On_set kk_On_set_57 n_On_isDrummer n_On_isWithin
  generalize f_On_isDrummer = c0
  generalize f_On_isWithin = c1
  generalize f_On_set_88 = c2
  rfl
noncomputable def kk_On_set : sv_K (Int32 × sv_S) := fun pc => sv_lk pc [(57, fun lo st σ => match lo, st with
    | [_, _, some (.inl x2), some (.inl x3), some (.inr (.inr (some (2, x4)))), some (.inl x5)], [] => f_On_set_57 x2 x3 x4 x5 σ
    | _, _ => none)]
set_option maxRecDepth 20000 in
theorem e_On_set (a1 : Int32) (a2 : Int32) (a3 : Int32) (σ : sv_S) : sv_ex ev_On_set sv_rI kk_On_set cd_On_set 62 0 [some (.inr (.inr (some (0, 0)))), some (.inl a1), some (.inl a2), some (.inl a3), none, none] [] σ = f_On_set a1 a2 a3 σ := by
  unfold f_On_set
  delta ev_On_set kk_On_set n_On_isDrummer n_On_isWithin
  generalize f_On_isDrummer = c0
  generalize f_On_isWithin = c1
  generalize f_On_set_57 = c2
  rfl
theorem d_On_set : cd_On_set.all (sv_dk cX11_set) = true := by decide +kernel
set_option maxRecDepth 20000 in
theorem w_On_set_88 {Γ : sv_Ga} {res : Int32 × sv_S} (X : sv_Ok Γ ev_On_set cX11_set sv_rI res) : ∀ (x2 : Int32) (x3 : Int32) (x4 : Nat) (x5 : Int32) (z0 z1 : Option sv_V) (σ : sv_S), f_On_set_88 x2 x3 x4 x5 σ = some res → sv_T Γ 88 [z0, z1, some (.inl x2), some (.inl x3), some (.inr (.inr (some (2, x4)))), some (.inl x5)] [] σ := by
  intro x2 x3 x4 x5 z0 z1 σ h
  refine sv_run X d_On_set (K := kk_On_set_88) (sv_lk_all (P := fun pc (k : sv_Lo → List sv_V → sv_S → Option (Int32 × sv_S)) => ∀ lo st σ, k lo st σ = some res → sv_T Γ pc lo st σ) ?_) _ _ _ _ _ ((e_On_set_88 x2 x3 x4 x5 z0 z1 σ).trans h)
  clear h
  exact fun _ h => absurd h List.not_mem_nil

set_option maxRecDepth 20000 in
theorem w_On_set_57 {Γ : sv_Ga} {res : Int32 × sv_S} (X : sv_Ok Γ ev_On_set cX11_set sv_rI res) : ∀ (x2 : Int32) (x3 : Int32) (x4 : Nat) (x5 : Int32) (z0 z1 : Option sv_V) (σ : sv_S), f_On_set_57 x2 x3 x4 x5 σ = some res → sv_T Γ 57 [z0, z1, some (.inl x2), some (.inl x3), some (.inr (.inr (some (2, x4)))), some (.inl x5)] [] σ := by
  intro x2 x3 x4 x5 z0 z1 σ h
  refine sv_run X d_On_set (K := kk_On_set_57) (sv_lk_all (P := fun pc (k : sv_Lo → List sv_V → sv_S → Option (Int32 × sv_S)) => ∀ lo st σ, k lo st σ = some res → sv_T Γ pc lo st σ) ?_) _ _ _ _ _ ((e_On_set_57 x2 x3 x4 x5 z0 z1 σ).trans h)
  clear h
  refine List.forall_mem_cons.mpr ⟨fun lo st σ h => ?_, fun _ h => absurd h List.not_mem_nil⟩
  · dsimp only at h
    split at h
    · exact w_On_set_88 X _ _ _ _ _ _ _ h
    · cases h

set_option maxRecDepth 20000 in
theorem b_On_set (Γ : sv_Ga) (res : Int32 × sv_S) (X : sv_Ok Γ ev_On_set cX11_set sv_rI res) (as : List sv_V) (σ : sv_S) (h : n_On_set as σ = some res) : sv_T Γ 0 (sv_e0 6 as) [] σ := by
  unfold n_On_set at h
  split at h
  · refine sv_run X d_On_set (K := kk_On_set) (sv_lk_all (P := fun pc (k : sv_Lo → List sv_V → sv_S → Option (Int32 × sv_S)) => ∀ lo st σ, k lo st σ = some res → sv_T Γ pc lo st σ) ?_) _ _ _ _ _ ((e_On_set _ _ _ _).trans h)
    clear h
    refine List.forall_mem_cons.mpr ⟨fun lo st σ h => ?_, fun _ h => absurd h List.not_mem_nil⟩
    · dsimp only at h
      split at h
      · exact w_On_set_57 X _ _ _ _ _ _ _ h
      · cases h
  · cases h
theorem a_On_set (as : List sv_V) (σ : sv_S) (x : Int32 × sv_S) (h : n_On_set as σ = some x) : sv_args 6 ev_On_set.2.2.2.1 as := by
  unfold n_On_set at h
  split at h
  · exact ⟨Nat.le_of_ble_eq_true rfl, fun _ v hv => by
      simp only [List.mem_cons, List.not_mem_nil, or_false] at hv
      rcases hv with rfl | rfl | rfl | rfl <;> trivial⟩
  · cases h
theorem g_On_set (as : List sv_V) (σ : sv_S) (x : Option sv_V × sv_S) (h : sv_gI n_On_set as σ = some x) : ∃ r i as', as = sv_R r i :: as' ∧ sv_kd r i = .inl 11 := by
  obtain ⟨_, _, h, -⟩ := sv_b_some h
  unfold n_On_set at h
  split at h
  · exact ⟨_, _, _, rfl, rfl⟩
  · cases h

set_option maxRecDepth 20000 in
theorem m_On_set (l : Launch) : sv_M l yX11_set cX11_set 6 (some .int) (sv_gI n_On_set) 1 := by
  refine sv_mI (E := ev_On_set) (by decide +kernel) (ln_gen fk_11 kk_11 gk_11) rfl ?_ a_On_set b_On_set
  intro p e R s m args below meth c cells slots Q base ad dC dI cA n0 S hkn hR hf pc n f hcs
  refine sv_lk_all (P := fun pc (x : Nat × sv_F) => sv_cok p l e R s m args below meth c cells slots Q base ad dC dI cA true 6 n0 pc x.1 x.2) ?_ pc (n, f) hcs
  exact List.forall_mem_cons.mpr ⟨(sv_cV S hkn (m_On_isDrummer l) ⟨Nat.le_trans (by decide) hR.1, Nat.le_trans (by decide) hR.2⟩ (by decide) hf rfl (g_On_isDrummer) (sv_w5 tw_348 tw_350 tw_0 tw_53 tw_351) (by decide +kernel) (sv_dc3 d_On_set (pc := 2) rfl rfl)).I,
      List.forall_mem_cons.mpr ⟨(sv_cS S hkn (m_On_isWithin l) ⟨Nat.le_trans (by decide) hR.1, Nat.le_trans (by decide) hR.2⟩ (by decide) hf (sv_w4 tw_327 tw_328 tw_53 tw_329) (by decide +kernel) (sv_dc3 d_On_set (pc := 35) rfl rfl)).I,
      List.forall_mem_cons.mpr ⟨(sv_cS S hkn (m_On_isWithin l) ⟨Nat.le_trans (by decide) hR.1, Nat.le_trans (by decide) hR.2⟩ (by decide) hf (sv_w4 tw_327 tw_328 tw_53 tw_329) (by decide +kernel) (sv_dc3 d_On_set (pc := 66) rfl rfl)).I,
      List.forall_mem_cons.mpr ⟨(sv_cS S hkn (m_On_isWithin l) ⟨Nat.le_trans (by decide) hR.1, Nat.le_trans (by decide) hR.2⟩ (by decide) hf (sv_w4 tw_327 tw_328 tw_53 tw_329) (by decide +kernel) (sv_dc3 d_On_set (pc := 96) rfl rfl)).I,
      fun _ h => absurd h List.not_mem_nil⟩⟩⟩⟩
noncomputable def f_On_miss (a1 : Int32) (σ : sv_S) : Option (Int32 × sv_S) :=
  sv_b (f_On_isWithin a1 (0 : Int32) (100 : Int32) σ) (fun v1 σ2 =>
    sv_if (v1 = 0)
      (some ((-1000000001 : Int32), σ2))
      (let σ3 := sv_up σ2 1 0 6 a1
      some (σ2 1 0 6, σ3)))
noncomputable def n_On_miss : List sv_V → sv_S → Option (Int32 × sv_S)
  | [.inr (.inr (some (0, 0))), .inl a1], σ => f_On_miss a1 σ
  | _, _ => none
def cd_On_miss : sv_C := [(0, (.iload_n 1, (sv_N, (1, (0, []))))), (1, (.iconst 0, (.inl (0 : Int32), (2, (0, []))))), (2, (.bipush 100, (.inl (100 : Int32), (4, (0, []))))), (4, (.invokestatic 83, (sv_N, (7, (0, []))))), (7, (.ifCond .ne 6, (sv_N, (10, (13, []))))), (10, (.ldc 87, (sv_N, (12, (0, []))))), (12, (.ireturn, (sv_N, (13, (0, []))))), (13, (.aload_n 0, (sv_N, (14, (0, []))))), (14, (.getfield 30, (sv_N, (17, (0, []))))), (17, (.getfield 154, (sv_N, (20, (0, []))))), (20, (.istore_n 2, (sv_N, (21, (0, []))))), (21, (.aload_n 0, (sv_N, (22, (0, []))))), (22, (.getfield 30, (sv_N, (25, (0, []))))), (25, (.iload_n 1, (sv_N, (26, (0, []))))), (26, (.putfield 154, (sv_N, (29, (0, []))))), (29, (.iload_n 2, (sv_N, (30, (0, []))))), (30, (.ireturn, (sv_N, (31, (0, [])))))]
noncomputable def ev_On_miss : sv_E := (fun i => sv_lk i fl_11, (fun i => sv_lk i kc_11, (fun i => bif Nat.beq i 166 then 1 else 0, (true, (fun pc => sv_lk pc [(4, (3, .inl n_On_isWithin))], none)))))
noncomputable def kk_On_miss : sv_K (Int32 × sv_S) := fun pc => sv_lk pc []
set_option maxRecDepth 20000 in
theorem e_On_miss (a1 : Int32) (σ : sv_S) : sv_ex ev_On_miss sv_rI kk_On_miss cd_On_miss 19 0 [some (.inr (.inr (some (0, 0)))), some (.inl a1), none] [] σ = f_On_miss a1 σ := by
  unfold f_On_miss
  delta ev_On_miss kk_On_miss n_On_isWithin
  generalize f_On_isWithin = c0
  rfl
theorem d_On_miss : cd_On_miss.all (sv_dk cX11_miss) = true := by decide +kernel
set_option maxRecDepth 20000 in
theorem b_On_miss (Γ : sv_Ga) (res : Int32 × sv_S) (X : sv_Ok Γ ev_On_miss cX11_miss sv_rI res) (as : List sv_V) (σ : sv_S) (h : n_On_miss as σ = some res) : sv_T Γ 0 (sv_e0 3 as) [] σ := by
  unfold n_On_miss at h
  split at h
  · refine sv_run X d_On_miss (K := kk_On_miss) (sv_lk_all (P := fun pc (k : sv_Lo → List sv_V → sv_S → Option (Int32 × sv_S)) => ∀ lo st σ, k lo st σ = some res → sv_T Γ pc lo st σ) ?_) _ _ _ _ _ ((e_On_miss _ _).trans h)
    clear h
    exact fun _ h => absurd h List.not_mem_nil
  · cases h
theorem a_On_miss (as : List sv_V) (σ : sv_S) (x : Int32 × sv_S) (h : n_On_miss as σ = some x) : sv_args 3 ev_On_miss.2.2.2.1 as := by
  unfold n_On_miss at h
  split at h
  · exact ⟨Nat.le_of_ble_eq_true rfl, fun _ v hv => by
      simp only [List.mem_cons, List.not_mem_nil, or_false] at hv
      rcases hv with rfl | rfl <;> trivial⟩
  · cases h
theorem g_On_miss (as : List sv_V) (σ : sv_S) (x : Option sv_V × sv_S) (h : sv_gI n_On_miss as σ = some x) : ∃ r i as', as = sv_R r i :: as' ∧ sv_kd r i = .inl 11 := by
  obtain ⟨_, _, h, -⟩ := sv_b_some h
  unfold n_On_miss at h
  split at h
  · exact ⟨_, _, _, rfl, rfl⟩
  · cases h

set_option maxRecDepth 20000 in
theorem m_On_miss (l : Launch) : sv_M l yX11_miss cX11_miss 3 (some .int) (sv_gI n_On_miss) 1 := by
  refine sv_mI (E := ev_On_miss) (by decide +kernel) (ln_gen fk_11 kk_11 gk_11) rfl ?_ a_On_miss b_On_miss
  intro p e R s m args below meth c cells slots Q base ad dC dI cA n0 S hkn hR hf pc n f hcs
  refine sv_lk_all (P := fun pc (x : Nat × sv_F) => sv_cok p l e R s m args below meth c cells slots Q base ad dC dI cA true 3 n0 pc x.1 x.2) ?_ pc (n, f) hcs
  exact List.forall_mem_cons.mpr ⟨(sv_cS S hkn (m_On_isWithin l) ⟨Nat.le_trans (by decide) hR.1, Nat.le_trans (by decide) hR.2⟩ (by decide) hf (sv_w4 tw_327 tw_328 tw_53 tw_329) (by decide +kernel) (sv_dc3 d_On_miss (pc := 4) rfl rfl)).I,
      fun _ h => absurd h List.not_mem_nil⟩
noncomputable def f_On_deal_30 : Nat → Int32 → Int32 → sv_S → Option (Int32 × sv_S)
  | 0, _, _, _ => none
  | n + 1, x2, x3, σ =>
    sv_if (x2 ≤ x3)
      (some (x2, σ))
      (sv_b (f_Li_draw 0 σ) (fun v1 σ2 =>
        sv_g (¬ (nI 6) = 0) (sv_b (f_Li_draw 0 σ2) (fun v3 σ4 =>
          sv_g (¬ (9 : Int32) = 0) (sv_b (f_Li_join 0 (v1 - v1 / (nI 6) * (nI 6)) ((1 : Int32) + (v3 - v3 / (9 : Int32) * (9 : Int32))) σ4) (fun v5 σ6 =>
            f_On_deal_30 n x2 (x3 + (1 : Int32)) σ6))))))
noncomputable def f_On_deal (a1 : Int32) (σ : sv_S) : Option (Int32 × sv_S) :=
  sv_b (f_On_isWithin a1 (1 : Int32) (10 : Int32) σ) (fun v1 σ2 =>
    sv_if (v1 = 0)
      (some ((-1000000001 : Int32), σ2))
      (sv_b (f_Jm_min a1 ((10 : Int32) - (σ2 1 0 4)) σ2) (fun v3 σ4 =>
        f_On_deal_30 sv_fu v3 (0 : Int32) σ4)))
noncomputable def n_On_deal : List sv_V → sv_S → Option (Int32 × sv_S)
  | [.inr (.inr (some (0, 0))), .inl a1], σ => f_On_deal a1 σ
  | _, _ => none
def cd_On_deal : sv_C := [(0, (.iload_n 1, (sv_N, (1, (0, []))))), (1, (.iconst 1, (.inl (1 : Int32), (2, (0, []))))), (2, (.bipush 10, (.inl (10 : Int32), (4, (0, []))))), (4, (.invokestatic 83, (sv_N, (7, (0, []))))), (7, (.ifCond .ne 6, (sv_N, (10, (13, []))))), (10, (.ldc 87, (sv_N, (12, (0, []))))), (12, (.ireturn, (sv_N, (13, (0, []))))), (13, (.iload_n 1, (sv_N, (14, (0, []))))), (14, (.bipush 10, (.inl (10 : Int32), (16, (0, []))))), (16, (.aload_n 0, (sv_N, (17, (0, []))))), (17, (.getfield 30, (sv_N, (20, (0, []))))), (20, (.getfield 88, (sv_N, (23, (0, []))))), (23, (.isub, (sv_N, (24, (0, []))))), (24, (.invokestatic 157, (sv_N, (27, (0, []))))), (27, (.istore_n 2, (sv_N, (28, (0, []))))), (28, (.iconst 0, (.inl (0 : Int32), (29, (0, []))))), (29, (.istore_n 3, (sv_N, (30, (0, []))))), (30, (.iload_n 3, (sv_N, (31, (0, []))))), (31, (.iload_n 2, (sv_N, (32, (0, []))))), (32, (.if_icmp .ge 49, (sv_N, (35, (81, []))))), (35, (.aload_n 0, (sv_N, (36, (0, []))))), (36, (.getfield 30, (sv_N, (39, (0, []))))), (39, (.invokevirtual 162, (sv_N, (42, (0, []))))), (42, (.getstatic 166, (sv_N, (45, (0, []))))), (45, (.arraylength, (sv_N, (46, (0, []))))), (46, (.irem, (sv_N, (47, (0, []))))), (47, (.istore 4, (sv_N, (49, (0, []))))), (49, (.iconst 1, (.inl (1 : Int32), (50, (0, []))))), (50, (.aload_n 0, (sv_N, (51, (0, []))))), (51, (.getfield 30, (sv_N, (54, (0, []))))), (54, (.invokevirtual 162, (sv_N, (57, (0, []))))), (57, (.bipush 9, (.inl (9 : Int32), (59, (0, []))))), (59, (.irem, (sv_N, (60, (0, []))))), (60, (.iadd, (sv_N, (61, (0, []))))), (61, (.istore 5, (sv_N, (63, (0, []))))), (63, (.aload_n 0, (sv_N, (64, (0, []))))), (64, (.getfield 30, (sv_N, (67, (0, []))))), (67, (.iload 4, (sv_N, (69, (0, []))))), (69, (.iload 5, (sv_N, (71, (0, []))))), (71, (.invokevirtual 93, (sv_N, (74, (0, []))))), (74, (.pop, (sv_N, (75, (0, []))))), (75, (.iinc 3 1, (.inl (1 : Int32), (78, (0, []))))), (78, (.goto (-48), (sv_N, (81, (30, []))))), (81, (.iload_n 2, (sv_N, (82, (0, []))))), (82, (.ireturn, (sv_N, (83, (0, [])))))]
noncomputable def ev_On_deal : sv_E := (fun i => sv_lk i fl_11, (fun i => sv_lk i kc_11, (fun i => bif Nat.beq i 166 then 1 else 0, (true, (fun pc => sv_lk pc [(4, (3, .inl n_On_isWithin)), (24, (2, .inl n_Jm_min)), (39, (1, .inl n_Li_draw)), (54, (1, .inl n_Li_draw)), (71, (3, .inl n_Li_join))], none)))))
noncomputable def kk_On_deal_30 (n : Nat) : sv_K (Int32 × sv_S) := fun pc => sv_lk pc [(30, fun lo st σ => match lo, st with
    | [some (.inr (.inr (some (0, 0)))), _, some (.inl x2), some (.inl x3), _, _], [] => f_On_deal_30 n x2 x3 σ
    | _, _ => none)]
set_option maxRecDepth 20000 in
theorem e_On_deal_30 (n : Nat) (x2 : Int32) (x3 : Int32) (z1 z4 z5 : Option sv_V) (σ : sv_S) : sv_ex ev_On_deal sv_rI (kk_On_deal_30 n) cd_On_deal 47 30 [some (.inr (.inr (some (0, 0)))), z1, some (.inl x2), some (.inl x3), z4, z5] [] σ = f_On_deal_30 (n + 1) x2 x3 σ := by
  rw [f_On_deal_30.eq_2]
  delta ev_On_deal kk_On_deal_30 n_On_isWithin n_Jm_min n_Li_draw n_Li_join
  generalize f_On_isWithin = c0
  generalize f_Jm_min = c1
  generalize f_Li_draw = c2
  generalize f_Li_join = c3
  generalize f_On_deal_30 = c4
  rfl
noncomputable def kk_On_deal : sv_K (Int32 × sv_S) := fun pc => sv_lk pc [(30, fun lo st σ => match lo, st with
    | [some (.inr (.inr (some (0, 0)))), _, some (.inl x2), some (.inl x3), _, _], [] => f_On_deal_30 sv_fu x2 x3 σ
    | _, _ => none)]
set_option maxRecDepth 20000 in
theorem e_On_deal (a1 : Int32) (σ : sv_S) : sv_ex ev_On_deal sv_rI kk_On_deal cd_On_deal 47 0 [some (.inr (.inr (some (0, 0)))), some (.inl a1), none, none, none, none] [] σ = f_On_deal a1 σ := by
  unfold f_On_deal
  delta ev_On_deal kk_On_deal n_On_isWithin n_Jm_min n_Li_draw n_Li_join
  generalize f_On_isWithin = c0
  generalize f_Jm_min = c1
  generalize f_Li_draw = c2
  generalize f_Li_join = c3
  generalize f_On_deal_30 = c4
  rfl
theorem d_On_deal : cd_On_deal.all (sv_dk cX11_deal) = true := by decide +kernel
set_option maxRecDepth 20000 in
theorem w_On_deal_30 {Γ : sv_Ga} {res : Int32 × sv_S} (X : sv_Ok Γ ev_On_deal cX11_deal sv_rI res) : ∀ (n : Nat) (x2 : Int32) (x3 : Int32) (z1 z4 z5 : Option sv_V) (σ : sv_S), f_On_deal_30 n x2 x3 σ = some res → sv_T Γ 30 [some (.inr (.inr (some (0, 0)))), z1, some (.inl x2), some (.inl x3), z4, z5] [] σ := by
  intro n
  induction n with
  | zero =>
    intro x2 x3 z1 z4 z5 σ h
    rw [f_On_deal_30.eq_1] at h
    cases h
  | succ n ih =>
    intro x2 x3 z1 z4 z5 σ h
    refine sv_run X d_On_deal (K := kk_On_deal_30 n) (sv_lk_all (P := fun pc (k : sv_Lo → List sv_V → sv_S → Option (Int32 × sv_S)) => ∀ lo st σ, k lo st σ = some res → sv_T Γ pc lo st σ) ?_) _ _ _ _ _ ((e_On_deal_30 n x2 x3 z1 z4 z5 σ).trans h)
    clear h
    refine List.forall_mem_cons.mpr ⟨fun lo st σ h => ?_, fun _ h => absurd h List.not_mem_nil⟩
    · dsimp only at h
      split at h
      · exact ih _ _ _ _ _ _ h
      · cases h

set_option maxRecDepth 20000 in
theorem b_On_deal (Γ : sv_Ga) (res : Int32 × sv_S) (X : sv_Ok Γ ev_On_deal cX11_deal sv_rI res) (as : List sv_V) (σ : sv_S) (h : n_On_deal as σ = some res) : sv_T Γ 0 (sv_e0 6 as) [] σ := by
  unfold n_On_deal at h
  split at h
  · refine sv_run X d_On_deal (K := kk_On_deal) (sv_lk_all (P := fun pc (k : sv_Lo → List sv_V → sv_S → Option (Int32 × sv_S)) => ∀ lo st σ, k lo st σ = some res → sv_T Γ pc lo st σ) ?_) _ _ _ _ _ ((e_On_deal _ _).trans h)
    clear h
    refine List.forall_mem_cons.mpr ⟨fun lo st σ h => ?_, fun _ h => absurd h List.not_mem_nil⟩
    · dsimp only at h
      split at h
      · exact w_On_deal_30 X _ _ _ _ _ _ _ h
      · cases h
  · cases h
theorem a_On_deal (as : List sv_V) (σ : sv_S) (x : Int32 × sv_S) (h : n_On_deal as σ = some x) : sv_args 6 ev_On_deal.2.2.2.1 as := by
  unfold n_On_deal at h
  split at h
  · exact ⟨Nat.le_of_ble_eq_true rfl, fun _ v hv => by
      simp only [List.mem_cons, List.not_mem_nil, or_false] at hv
      rcases hv with rfl | rfl <;> trivial⟩
  · cases h
theorem g_On_deal (as : List sv_V) (σ : sv_S) (x : Option sv_V × sv_S) (h : sv_gI n_On_deal as σ = some x) : ∃ r i as', as = sv_R r i :: as' ∧ sv_kd r i = .inl 11 := by
  obtain ⟨_, _, h, -⟩ := sv_b_some h
  unfold n_On_deal at h
  split at h
  · exact ⟨_, _, _, rfl, rfl⟩
  · cases h
theorem tw_493 : Cond.methodLink RX11 162 yX5_draw ∈ gw_tbl := gw_at 493 (by decide +kernel) rfl
set_option maxRecDepth 20000 in
theorem m_On_deal (l : Launch) : sv_M l yX11_deal cX11_deal 6 (some .int) (sv_gI n_On_deal) 3 := by
  refine sv_mI (E := ev_On_deal) (by decide +kernel) (ln_gen fk_11 kk_11 gk_11) rfl ?_ a_On_deal b_On_deal
  intro p e R s m args below meth c cells slots Q base ad dC dI cA n0 S hkn hR hf pc n f hcs
  refine sv_lk_all (P := fun pc (x : Nat × sv_F) => sv_cok p l e R s m args below meth c cells slots Q base ad dC dI cA true 6 n0 pc x.1 x.2) ?_ pc (n, f) hcs
  exact List.forall_mem_cons.mpr ⟨(sv_cS S hkn (m_On_isWithin l) ⟨Nat.le_trans (by decide) hR.1, Nat.le_trans (by decide) hR.2⟩ (by decide) hf (sv_w4 tw_327 tw_328 tw_53 tw_329) (by decide +kernel) (sv_dc3 d_On_deal (pc := 4) rfl rfl)).I,
      List.forall_mem_cons.mpr ⟨(sv_cmin S ⟨Nat.le_trans (by decide) hR.1, Nat.le_trans (by decide) hR.2⟩ hf (sv_w4 tw_403 tw_369 tw_66 tw_370) (sv_dc3 d_On_deal (pc := 24) rfl rfl)).I,
      List.forall_mem_cons.mpr ⟨(sv_cV S hkn (m_Li_draw l) ⟨Nat.le_trans (by decide) hR.1, Nat.le_trans (by decide) hR.2⟩ (by decide) hf rfl (g_Li_draw) (sv_w5 tw_493 tw_494 tw_495 tw_60 tw_496) (by decide +kernel) (sv_dc3 d_On_deal (pc := 39) rfl rfl)).I,
      List.forall_mem_cons.mpr ⟨(sv_cV S hkn (m_Li_draw l) ⟨Nat.le_trans (by decide) hR.1, Nat.le_trans (by decide) hR.2⟩ (by decide) hf rfl (g_Li_draw) (sv_w5 tw_493 tw_494 tw_495 tw_60 tw_496) (by decide +kernel) (sv_dc3 d_On_deal (pc := 54) rfl rfl)).I,
      List.forall_mem_cons.mpr ⟨(sv_cV S hkn (m_Li_join l) ⟨Nat.le_trans (by decide) hR.1, Nat.le_trans (by decide) hR.2⟩ (by decide) hf rfl (g_Li_join) (sv_w5 tw_332 tw_333 tw_334 tw_60 tw_335) (by decide +kernel) (sv_dc3 d_On_deal (pc := 71) rfl rfl)).I,
      fun _ h => absurd h List.not_mem_nil⟩⟩⟩⟩⟩
noncomputable def f_On_seed (a1 : Int32) (σ : sv_S) : Option (Int32 × sv_S) :=
  let σ1 := sv_up σ 1 0 7 a1
  some (σ 1 0 7, σ1)
noncomputable def n_On_seed : List sv_V → sv_S → Option (Int32 × sv_S)
  | [.inr (.inr (some (0, 0))), .inl a1], σ => f_On_seed a1 σ
  | _, _ => none
def cd_On_seed : sv_C := [(0, (.aload_n 0, (sv_N, (1, (0, []))))), (1, (.getfield 30, (sv_N, (4, (0, []))))), (4, (.getfield 169, (sv_N, (7, (0, []))))), (7, (.istore_n 2, (sv_N, (8, (0, []))))), (8, (.aload_n 0, (sv_N, (9, (0, []))))), (9, (.getfield 30, (sv_N, (12, (0, []))))), (12, (.iload_n 1, (sv_N, (13, (0, []))))), (13, (.putfield 169, (sv_N, (16, (0, []))))), (16, (.iload_n 2, (sv_N, (17, (0, []))))), (17, (.ireturn, (sv_N, (18, (0, [])))))]
noncomputable def ev_On_seed : sv_E := (fun i => sv_lk i fl_11, (fun i => sv_lk i kc_11, (fun i => bif Nat.beq i 166 then 1 else 0, (true, (fun pc => sv_lk pc [], none)))))
noncomputable def kk_On_seed : sv_K (Int32 × sv_S) := fun pc => sv_lk pc []
set_option maxRecDepth 20000 in
theorem e_On_seed (a1 : Int32) (σ : sv_S) : sv_ex ev_On_seed sv_rI kk_On_seed cd_On_seed 12 0 [some (.inr (.inr (some (0, 0)))), some (.inl a1), none] [] σ = f_On_seed a1 σ := by
  unfold f_On_seed
  delta ev_On_seed kk_On_seed
  rfl
theorem d_On_seed : cd_On_seed.all (sv_dk cX11_seed) = true := by decide +kernel
set_option maxRecDepth 20000 in
theorem b_On_seed (Γ : sv_Ga) (res : Int32 × sv_S) (X : sv_Ok Γ ev_On_seed cX11_seed sv_rI res) (as : List sv_V) (σ : sv_S) (h : n_On_seed as σ = some res) : sv_T Γ 0 (sv_e0 3 as) [] σ := by
  unfold n_On_seed at h
  split at h
  · refine sv_run X d_On_seed (K := kk_On_seed) (sv_lk_all (P := fun pc (k : sv_Lo → List sv_V → sv_S → Option (Int32 × sv_S)) => ∀ lo st σ, k lo st σ = some res → sv_T Γ pc lo st σ) ?_) _ _ _ _ _ ((e_On_seed _ _).trans h)
    clear h
    exact fun _ h => absurd h List.not_mem_nil
  · cases h
theorem a_On_seed (as : List sv_V) (σ : sv_S) (x : Int32 × sv_S) (h : n_On_seed as σ = some x) : sv_args 3 ev_On_seed.2.2.2.1 as := by
  unfold n_On_seed at h
  split at h
  · exact ⟨Nat.le_of_ble_eq_true rfl, fun _ v hv => by
      simp only [List.mem_cons, List.not_mem_nil, or_false] at hv
      rcases hv with rfl | rfl <;> trivial⟩
  · cases h
theorem g_On_seed (as : List sv_V) (σ : sv_S) (x : Option sv_V × sv_S) (h : sv_gI n_On_seed as σ = some x) : ∃ r i as', as = sv_R r i :: as' ∧ sv_kd r i = .inl 11 := by
  obtain ⟨_, _, h, -⟩ := sv_b_some h
  unfold n_On_seed at h
  split at h
  · exact ⟨_, _, _, rfl, rfl⟩
  · cases h

set_option maxRecDepth 20000 in
theorem m_On_seed (l : Launch) : sv_M l yX11_seed cX11_seed 3 (some .int) (sv_gI n_On_seed) 0 := by
  refine sv_mI (E := ev_On_seed) (by decide +kernel) (ln_gen fk_11 kk_11 gk_11) rfl ?_ a_On_seed b_On_seed
  intro p e R s m args below meth c cells slots Q base ad dC dI cA n0 S hkn hR hf pc n f hcs
  refine sv_lk_all (P := fun pc (x : Nat × sv_F) => sv_cok p l e R s m args below meth c cells slots Q base ad dC dI cA true 3 n0 pc x.1 x.2) ?_ pc (n, f) hcs
  exact fun _ h => absurd h List.not_mem_nil
noncomputable def f_On_order (a1 : Int32) (σ : sv_S) : Option (Int32 × sv_S) :=
  sv_b (f_On_isDrummer a1 σ) (fun v1 σ2 =>
    sv_if (v1 = 0)
      (some ((-1000000001 : Int32), σ2))
      (sv_g (sv_in a1 10) (sv_if ((σ2 2 (10 * 0 + (a1.toNatClampNeg)) 2) ≤ 0)
        (sv_b0 (f_Li_wake 0 a1 σ2) (fun σ3 =>
          sv_g (sv_in a1 10) (some (σ3 2 (10 * 0 + (a1.toNatClampNeg)) 2, σ3))))
        (some ((-1000000002 : Int32), σ2)))))
noncomputable def n_On_order : List sv_V → sv_S → Option (Int32 × sv_S)
  | [.inr (.inr (some (0, 0))), .inl a1], σ => f_On_order a1 σ
  | _, _ => none
def cd_On_order : sv_C := [(0, (.aload_n 0, (sv_N, (1, (0, []))))), (1, (.iload_n 1, (sv_N, (2, (0, []))))), (2, (.invokevirtual 97, (sv_N, (5, (0, []))))), (5, (.ifCond .ne 6, (sv_N, (8, (11, []))))), (8, (.ldc 87, (sv_N, (10, (0, []))))), (10, (.ireturn, (sv_N, (11, (0, []))))), (11, (.aload_n 0, (sv_N, (12, (0, []))))), (12, (.getfield 30, (sv_N, (15, (0, []))))), (15, (.getfield 100, (sv_N, (18, (0, []))))), (18, (.iload_n 1, (sv_N, (19, (0, []))))), (19, (.aaload, (sv_N, (20, (0, []))))), (20, (.getfield 109, (sv_N, (23, (0, []))))), (23, (.ifCond .le 6, (sv_N, (26, (29, []))))), (26, (.ldc 172, (sv_N, (28, (0, []))))), (28, (.ireturn, (sv_N, (29, (0, []))))), (29, (.aload_n 0, (sv_N, (30, (0, []))))), (30, (.getfield 30, (sv_N, (33, (0, []))))), (33, (.iload_n 1, (sv_N, (34, (0, []))))), (34, (.invokevirtual 173, (sv_N, (37, (0, []))))), (37, (.aload_n 0, (sv_N, (38, (0, []))))), (38, (.getfield 30, (sv_N, (41, (0, []))))), (41, (.getfield 100, (sv_N, (44, (0, []))))), (44, (.iload_n 1, (sv_N, (45, (0, []))))), (45, (.aaload, (sv_N, (46, (0, []))))), (46, (.getfield 109, (sv_N, (49, (0, []))))), (49, (.ireturn, (sv_N, (50, (0, [])))))]
noncomputable def ev_On_order : sv_E := (fun i => sv_lk i fl_11, (fun i => sv_lk i kc_11, (fun i => bif Nat.beq i 166 then 1 else 0, (true, (fun pc => sv_lk pc [(2, (2, .inl n_On_isDrummer)), (34, (2, .inr (.inl n_Li_wake)))], none)))))
noncomputable def kk_On_order : sv_K (Int32 × sv_S) := fun pc => sv_lk pc []
set_option maxRecDepth 20000 in
theorem e_On_order (a1 : Int32) (σ : sv_S) : sv_ex ev_On_order sv_rI kk_On_order cd_On_order 28 0 [some (.inr (.inr (some (0, 0)))), some (.inl a1)] [] σ = f_On_order a1 σ := by
  unfold f_On_order
  delta ev_On_order kk_On_order n_On_isDrummer n_Li_wake
  generalize f_On_isDrummer = c0
  generalize f_Li_wake = c1
  rfl
theorem d_On_order : cd_On_order.all (sv_dk cX11_order) = true := by decide +kernel
set_option maxRecDepth 20000 in
theorem b_On_order (Γ : sv_Ga) (res : Int32 × sv_S) (X : sv_Ok Γ ev_On_order cX11_order sv_rI res) (as : List sv_V) (σ : sv_S) (h : n_On_order as σ = some res) : sv_T Γ 0 (sv_e0 2 as) [] σ := by
  unfold n_On_order at h
  split at h
  · refine sv_run X d_On_order (K := kk_On_order) (sv_lk_all (P := fun pc (k : sv_Lo → List sv_V → sv_S → Option (Int32 × sv_S)) => ∀ lo st σ, k lo st σ = some res → sv_T Γ pc lo st σ) ?_) _ _ _ _ _ ((e_On_order _ _).trans h)
    clear h
    exact fun _ h => absurd h List.not_mem_nil
  · cases h
theorem a_On_order (as : List sv_V) (σ : sv_S) (x : Int32 × sv_S) (h : n_On_order as σ = some x) : sv_args 2 ev_On_order.2.2.2.1 as := by
  unfold n_On_order at h
  split at h
  · exact ⟨Nat.le_of_ble_eq_true rfl, fun _ v hv => by
      simp only [List.mem_cons, List.not_mem_nil, or_false] at hv
      rcases hv with rfl | rfl <;> trivial⟩
  · cases h
theorem g_On_order (as : List sv_V) (σ : sv_S) (x : Option sv_V × sv_S) (h : sv_gI n_On_order as σ = some x) : ∃ r i as', as = sv_R r i :: as' ∧ sv_kd r i = .inl 11 := by
  obtain ⟨_, _, h, -⟩ := sv_b_some h
  unfold n_On_order at h
  split at h
  · exact ⟨_, _, _, rfl, rfl⟩
  · cases h
theorem tw_507 : Cond.methodLink RX11 173 yX5_wake ∈ gw_tbl := gw_at 507 (by decide +kernel) rfl
theorem tw_508 : Cond.instanceMethod yX5_wake ∈ gw_tbl := gw_at 508 (by decide +kernel) rfl
theorem tw_509 : Cond.selects RX5 yX5_wake yX5_wake ∈ gw_tbl := gw_at 509 (by decide +kernel) rfl
theorem tw_510 : Cond.code yX5_wake cX5_wake 2 none ∈ gw_tbl := gw_at 510 (by decide +kernel) rfl
set_option maxRecDepth 20000 in
theorem m_On_order (l : Launch) : sv_M l yX11_order cX11_order 2 (some .int) (sv_gI n_On_order) 4 := by
  refine sv_mI (E := ev_On_order) (by decide +kernel) (ln_gen fk_11 kk_11 gk_11) rfl ?_ a_On_order b_On_order
  intro p e R s m args below meth c cells slots Q base ad dC dI cA n0 S hkn hR hf pc n f hcs
  refine sv_lk_all (P := fun pc (x : Nat × sv_F) => sv_cok p l e R s m args below meth c cells slots Q base ad dC dI cA true 2 n0 pc x.1 x.2) ?_ pc (n, f) hcs
  exact List.forall_mem_cons.mpr ⟨(sv_cV S hkn (m_On_isDrummer l) ⟨Nat.le_trans (by decide) hR.1, Nat.le_trans (by decide) hR.2⟩ (by decide) hf rfl (g_On_isDrummer) (sv_w5 tw_348 tw_350 tw_0 tw_53 tw_351) (by decide +kernel) (sv_dc3 d_On_order (pc := 2) rfl rfl)).I,
      List.forall_mem_cons.mpr ⟨(sv_cV S hkn (m_Li_wake l) ⟨Nat.le_trans (by decide) hR.1, Nat.le_trans (by decide) hR.2⟩ (by decide) hf rfl (g_Li_wake) (sv_w5 tw_507 tw_508 tw_509 tw_60 tw_510) (by decide +kernel) (sv_dc3 d_On_order (pc := 34) rfl rfl)).V,
      fun _ h => absurd h List.not_mem_nil⟩⟩
noncomputable def f_On_hush_10 : Nat → Int32 → Int32 → sv_S → Option (Int32 × sv_S)
  | 0, _, _, _ => none
  | n + 1, x1, x2, σ =>
    sv_if ((σ 1 0 4) ≤ x2)
      (some (x1, σ))
      (sv_g (sv_in x2 10) (sv_b0 (f_Dr_fallStill (10 * 0 + (x2.toNatClampNeg)) σ) (fun σ1 =>
        f_On_hush_10 n x1 (x2 + (1 : Int32)) σ1)))
noncomputable def f_On_hush (σ : sv_S) : Option (Int32 × sv_S) :=
  sv_b (f_Li_counting 0 σ) (fun v1 σ2 =>
    f_On_hush_10 sv_fu v1 (0 : Int32) σ2)
noncomputable def n_On_hush : List sv_V → sv_S → Option (Int32 × sv_S)
  | [.inr (.inr (some (0, 0)))], σ => f_On_hush σ
  | _, _ => none
def cd_On_hush : sv_C := [(0, (.aload_n 0, (sv_N, (1, (0, []))))), (1, (.getfield 30, (sv_N, (4, (0, []))))), (4, (.invokevirtual 177, (sv_N, (7, (0, []))))), (7, (.istore_n 1, (sv_N, (8, (0, []))))), (8, (.iconst 0, (.inl (0 : Int32), (9, (0, []))))), (9, (.istore_n 2, (sv_N, (10, (0, []))))), (10, (.iload_n 2, (sv_N, (11, (0, []))))), (11, (.aload_n 0, (sv_N, (12, (0, []))))), (12, (.getfield 30, (sv_N, (15, (0, []))))), (15, (.getfield 88, (sv_N, (18, (0, []))))), (18, (.if_icmp .ge 21, (sv_N, (21, (39, []))))), (21, (.aload_n 0, (sv_N, (22, (0, []))))), (22, (.getfield 30, (sv_N, (25, (0, []))))), (25, (.getfield 100, (sv_N, (28, (0, []))))), (28, (.iload_n 2, (sv_N, (29, (0, []))))), (29, (.aaload, (sv_N, (30, (0, []))))), (30, (.invokevirtual 180, (sv_N, (33, (0, []))))), (33, (.iinc 2 1, (.inl (1 : Int32), (36, (0, []))))), (36, (.goto (-26), (sv_N, (39, (10, []))))), (39, (.iload_n 1, (sv_N, (40, (0, []))))), (40, (.ireturn, (sv_N, (41, (0, [])))))]
noncomputable def ev_On_hush : sv_E := (fun i => sv_lk i fl_11, (fun i => sv_lk i kc_11, (fun i => bif Nat.beq i 166 then 1 else 0, (true, (fun pc => sv_lk pc [(4, (1, .inl n_Li_counting)), (30, (1, .inr (.inl n_Dr_fallStill)))], none)))))
noncomputable def kk_On_hush_10 (n : Nat) : sv_K (Int32 × sv_S) := fun pc => sv_lk pc [(10, fun lo st σ => match lo, st with
    | [some (.inr (.inr (some (0, 0)))), some (.inl x1), some (.inl x2)], [] => f_On_hush_10 n x1 x2 σ
    | _, _ => none)]
set_option maxRecDepth 20000 in
theorem e_On_hush_10 (n : Nat) (x1 : Int32) (x2 : Int32) (σ : sv_S) : sv_ex ev_On_hush sv_rI (kk_On_hush_10 n) cd_On_hush 23 10 [some (.inr (.inr (some (0, 0)))), some (.inl x1), some (.inl x2)] [] σ = f_On_hush_10 (n + 1) x1 x2 σ := by
  rw [f_On_hush_10.eq_2]
  delta ev_On_hush kk_On_hush_10 n_Li_counting n_Dr_fallStill
  generalize f_Li_counting = c0
  generalize f_Dr_fallStill = c1
  generalize f_On_hush_10 = c2
  rfl
noncomputable def kk_On_hush : sv_K (Int32 × sv_S) := fun pc => sv_lk pc [(10, fun lo st σ => match lo, st with
    | [some (.inr (.inr (some (0, 0)))), some (.inl x1), some (.inl x2)], [] => f_On_hush_10 sv_fu x1 x2 σ
    | _, _ => none)]
set_option maxRecDepth 20000 in
theorem e_On_hush (σ : sv_S) : sv_ex ev_On_hush sv_rI kk_On_hush cd_On_hush 23 0 [some (.inr (.inr (some (0, 0)))), none, none] [] σ = f_On_hush σ := by
  unfold f_On_hush
  delta ev_On_hush kk_On_hush n_Li_counting n_Dr_fallStill
  generalize f_Li_counting = c0
  generalize f_Dr_fallStill = c1
  generalize f_On_hush_10 = c2
  rfl
theorem d_On_hush : cd_On_hush.all (sv_dk cX11_hush) = true := by decide +kernel
set_option maxRecDepth 20000 in
theorem w_On_hush_10 {Γ : sv_Ga} {res : Int32 × sv_S} (X : sv_Ok Γ ev_On_hush cX11_hush sv_rI res) : ∀ (n : Nat) (x1 : Int32) (x2 : Int32) (σ : sv_S), f_On_hush_10 n x1 x2 σ = some res → sv_T Γ 10 [some (.inr (.inr (some (0, 0)))), some (.inl x1), some (.inl x2)] [] σ := by
  intro n
  induction n with
  | zero =>
    intro x1 x2 σ h
    rw [f_On_hush_10.eq_1] at h
    cases h
  | succ n ih =>
    intro x1 x2 σ h
    refine sv_run X d_On_hush (K := kk_On_hush_10 n) (sv_lk_all (P := fun pc (k : sv_Lo → List sv_V → sv_S → Option (Int32 × sv_S)) => ∀ lo st σ, k lo st σ = some res → sv_T Γ pc lo st σ) ?_) _ _ _ _ _ ((e_On_hush_10 n x1 x2 σ).trans h)
    clear h
    refine List.forall_mem_cons.mpr ⟨fun lo st σ h => ?_, fun _ h => absurd h List.not_mem_nil⟩
    · dsimp only at h
      split at h
      · exact ih _ _ _ h
      · cases h

set_option maxRecDepth 20000 in
theorem b_On_hush (Γ : sv_Ga) (res : Int32 × sv_S) (X : sv_Ok Γ ev_On_hush cX11_hush sv_rI res) (as : List sv_V) (σ : sv_S) (h : n_On_hush as σ = some res) : sv_T Γ 0 (sv_e0 3 as) [] σ := by
  unfold n_On_hush at h
  split at h
  · refine sv_run X d_On_hush (K := kk_On_hush) (sv_lk_all (P := fun pc (k : sv_Lo → List sv_V → sv_S → Option (Int32 × sv_S)) => ∀ lo st σ, k lo st σ = some res → sv_T Γ pc lo st σ) ?_) _ _ _ _ _ ((e_On_hush _).trans h)
    clear h
    refine List.forall_mem_cons.mpr ⟨fun lo st σ h => ?_, fun _ h => absurd h List.not_mem_nil⟩
    · dsimp only at h
      split at h
      · exact w_On_hush_10 X _ _ _ _ h
      · cases h
  · cases h
theorem a_On_hush (as : List sv_V) (σ : sv_S) (x : Int32 × sv_S) (h : n_On_hush as σ = some x) : sv_args 3 ev_On_hush.2.2.2.1 as := by
  unfold n_On_hush at h
  split at h
  · exact ⟨Nat.le_of_ble_eq_true rfl, fun _ v hv => by
      simp only [List.mem_cons, List.not_mem_nil, or_false] at hv
      rcases hv with rfl <;> trivial⟩
  · cases h
theorem g_On_hush (as : List sv_V) (σ : sv_S) (x : Option sv_V × sv_S) (h : sv_gI n_On_hush as σ = some x) : ∃ r i as', as = sv_R r i :: as' ∧ sv_kd r i = .inl 11 := by
  obtain ⟨_, _, h, -⟩ := sv_b_some h
  unfold n_On_hush at h
  split at h
  · exact ⟨_, _, _, rfl, rfl⟩
  · cases h
theorem tw_516 : Cond.methodLink RX11 177 yX5_counting ∈ gw_tbl := gw_at 516 (by decide +kernel) rfl
theorem tw_517 : Cond.instanceMethod yX5_counting ∈ gw_tbl := gw_at 517 (by decide +kernel) rfl
theorem tw_518 : Cond.selects RX5 yX5_counting yX5_counting ∈ gw_tbl := gw_at 518 (by decide +kernel) rfl
theorem tw_519 : Cond.code yX5_counting cX5_counting 3 (some .int) ∈ gw_tbl := gw_at 519 (by decide +kernel) rfl
theorem tw_520 : Cond.methodLink RX11 180 yX1_fallStill ∈ gw_tbl := gw_at 520 (by decide +kernel) rfl
set_option maxRecDepth 20000 in
theorem m_On_hush (l : Launch) : sv_M l yX11_hush cX11_hush 3 (some .int) (sv_gI n_On_hush) 1 := by
  refine sv_mI (E := ev_On_hush) (by decide +kernel) (ln_gen fk_11 kk_11 gk_11) rfl ?_ a_On_hush b_On_hush
  intro p e R s m args below meth c cells slots Q base ad dC dI cA n0 S hkn hR hf pc n f hcs
  refine sv_lk_all (P := fun pc (x : Nat × sv_F) => sv_cok p l e R s m args below meth c cells slots Q base ad dC dI cA true 3 n0 pc x.1 x.2) ?_ pc (n, f) hcs
  exact List.forall_mem_cons.mpr ⟨(sv_cV S hkn (m_Li_counting l) ⟨Nat.le_trans (by decide) hR.1, Nat.le_trans (by decide) hR.2⟩ (by decide) hf rfl (g_Li_counting) (sv_w5 tw_516 tw_517 tw_518 tw_60 tw_519) (by decide +kernel) (sv_dc3 d_On_hush (pc := 4) rfl rfl)).I,
      List.forall_mem_cons.mpr ⟨(sv_cV S hkn (m_Dr_fallStill l) ⟨Nat.le_trans (by decide) hR.1, Nat.le_trans (by decide) hR.2⟩ (by decide) hf rfl (g_Dr_fallStill) (sv_w5 tw_520 tw_341 tw_342 tw_61 tw_343) (by decide +kernel) (sv_dc3 d_On_hush (pc := 30) rfl rfl)).V,
      fun _ h => absurd h List.not_mem_nil⟩⟩
noncomputable def f_On_beats (a1 : Int32) (σ : sv_S) : Option (Int32 × sv_S) :=
  sv_b (f_On_isWithin a1 (1 : Int32) (100 : Int32) σ) (fun v1 σ2 =>
    sv_if (v1 = 0)
      (some ((-1000000001 : Int32), σ2))
      (sv_b (f_Jm_min a1 ((9999 : Int32) - (σ2 1 0 5)) σ2) (fun v3 σ4 =>
        sv_b (f_Li_pass 0 v3 σ4) (fun v5 σ6 =>
          some (v5, σ6)))))
noncomputable def n_On_beats : List sv_V → sv_S → Option (Int32 × sv_S)
  | [.inr (.inr (some (0, 0))), .inl a1], σ => f_On_beats a1 σ
  | _, _ => none
def cd_On_beats : sv_C := [(0, (.iload_n 1, (sv_N, (1, (0, []))))), (1, (.iconst 1, (.inl (1 : Int32), (2, (0, []))))), (2, (.bipush 100, (.inl (100 : Int32), (4, (0, []))))), (4, (.invokestatic 83, (sv_N, (7, (0, []))))), (7, (.ifCond .ne 6, (sv_N, (10, (13, []))))), (10, (.ldc 87, (sv_N, (12, (0, []))))), (12, (.ireturn, (sv_N, (13, (0, []))))), (13, (.aload_n 0, (sv_N, (14, (0, []))))), (14, (.getfield 30, (sv_N, (17, (0, []))))), (17, (.iload_n 1, (sv_N, (18, (0, []))))), (18, (.sipush 9999, (.inl (9999 : Int32), (21, (0, []))))), (21, (.aload_n 0, (sv_N, (22, (0, []))))), (22, (.getfield 30, (sv_N, (25, (0, []))))), (25, (.getfield 140, (sv_N, (28, (0, []))))), (28, (.isub, (sv_N, (29, (0, []))))), (29, (.invokestatic 157, (sv_N, (32, (0, []))))), (32, (.invokevirtual 183, (sv_N, (35, (0, []))))), (35, (.ireturn, (sv_N, (36, (0, [])))))]
noncomputable def ev_On_beats : sv_E := (fun i => sv_lk i fl_11, (fun i => sv_lk i kc_11, (fun i => bif Nat.beq i 166 then 1 else 0, (true, (fun pc => sv_lk pc [(4, (3, .inl n_On_isWithin)), (29, (2, .inl n_Jm_min)), (32, (2, .inl n_Li_pass))], none)))))
noncomputable def kk_On_beats : sv_K (Int32 × sv_S) := fun pc => sv_lk pc []
set_option maxRecDepth 20000 in
theorem e_On_beats (a1 : Int32) (σ : sv_S) : sv_ex ev_On_beats sv_rI kk_On_beats cd_On_beats 20 0 [some (.inr (.inr (some (0, 0)))), some (.inl a1)] [] σ = f_On_beats a1 σ := by
  unfold f_On_beats
  delta ev_On_beats kk_On_beats n_On_isWithin n_Jm_min n_Li_pass
  generalize f_On_isWithin = c0
  generalize f_Jm_min = c1
  generalize f_Li_pass = c2
  rfl
theorem d_On_beats : cd_On_beats.all (sv_dk cX11_beats) = true := by decide +kernel
set_option maxRecDepth 20000 in
theorem b_On_beats (Γ : sv_Ga) (res : Int32 × sv_S) (X : sv_Ok Γ ev_On_beats cX11_beats sv_rI res) (as : List sv_V) (σ : sv_S) (h : n_On_beats as σ = some res) : sv_T Γ 0 (sv_e0 2 as) [] σ := by
  unfold n_On_beats at h
  split at h
  · refine sv_run X d_On_beats (K := kk_On_beats) (sv_lk_all (P := fun pc (k : sv_Lo → List sv_V → sv_S → Option (Int32 × sv_S)) => ∀ lo st σ, k lo st σ = some res → sv_T Γ pc lo st σ) ?_) _ _ _ _ _ ((e_On_beats _ _).trans h)
    clear h
    exact fun _ h => absurd h List.not_mem_nil
  · cases h
theorem a_On_beats (as : List sv_V) (σ : sv_S) (x : Int32 × sv_S) (h : n_On_beats as σ = some x) : sv_args 2 ev_On_beats.2.2.2.1 as := by
  unfold n_On_beats at h
  split at h
  · exact ⟨Nat.le_of_ble_eq_true rfl, fun _ v hv => by
      simp only [List.mem_cons, List.not_mem_nil, or_false] at hv
      rcases hv with rfl | rfl <;> trivial⟩
  · cases h
theorem g_On_beats (as : List sv_V) (σ : sv_S) (x : Option sv_V × sv_S) (h : sv_gI n_On_beats as σ = some x) : ∃ r i as', as = sv_R r i :: as' ∧ sv_kd r i = .inl 11 := by
  obtain ⟨_, _, h, -⟩ := sv_b_some h
  unfold n_On_beats at h
  split at h
  · exact ⟨_, _, _, rfl, rfl⟩
  · cases h
theorem tw_525 : Cond.methodLink RX11 183 yX5_pass ∈ gw_tbl := gw_at 525 (by decide +kernel) rfl
set_option maxRecDepth 20000 in
theorem m_On_beats (l : Launch) : sv_M l yX11_beats cX11_beats 2 (some .int) (sv_gI n_On_beats) 6 := by
  refine sv_mI (E := ev_On_beats) (by decide +kernel) (ln_gen fk_11 kk_11 gk_11) rfl ?_ a_On_beats b_On_beats
  intro p e R s m args below meth c cells slots Q base ad dC dI cA n0 S hkn hR hf pc n f hcs
  refine sv_lk_all (P := fun pc (x : Nat × sv_F) => sv_cok p l e R s m args below meth c cells slots Q base ad dC dI cA true 2 n0 pc x.1 x.2) ?_ pc (n, f) hcs
  exact List.forall_mem_cons.mpr ⟨(sv_cS S hkn (m_On_isWithin l) ⟨Nat.le_trans (by decide) hR.1, Nat.le_trans (by decide) hR.2⟩ (by decide) hf (sv_w4 tw_327 tw_328 tw_53 tw_329) (by decide +kernel) (sv_dc3 d_On_beats (pc := 4) rfl rfl)).I,
      List.forall_mem_cons.mpr ⟨(sv_cmin S ⟨Nat.le_trans (by decide) hR.1, Nat.le_trans (by decide) hR.2⟩ hf (sv_w4 tw_403 tw_369 tw_66 tw_370) (sv_dc3 d_On_beats (pc := 29) rfl rfl)).I,
      List.forall_mem_cons.mpr ⟨(sv_cV S hkn (m_Li_pass l) ⟨Nat.le_trans (by decide) hR.1, Nat.le_trans (by decide) hR.2⟩ (by decide) hf rfl (g_Li_pass) (sv_w5 tw_525 tw_526 tw_527 tw_60 tw_528) (by decide +kernel) (sv_dc3 d_On_beats (pc := 32) rfl rfl)).I,
      fun _ h => absurd h List.not_mem_nil⟩⟩⟩
noncomputable def f_On_think_13 : Nat → Int32 → sv_S → Option (sv_S)
  | 0, _, _ => none
  | n + 1, x1, σ =>
    sv_if ((σ 1 2 4) ≤ x1)
      (some σ)
      (sv_g (sv_in x1 10) (let σ1 := sv_up σ 2 (10 * 2 + (x1.toNatClampNeg)) 5 (0 : Int32)
      sv_g (sv_in x1 10) (let σ2 := sv_up σ1 2 (10 * 2 + (x1.toNatClampNeg)) 7 (0 : Int32)
      f_On_think_13 n (x1 + (1 : Int32)) σ2)))
noncomputable def f_On_think (σ : sv_S) : Option (sv_S) :=
  sv_b0 (f_Li_become 2 0 σ) (fun σ1 =>
    f_On_think_13 sv_fu (0 : Int32) σ1)
noncomputable def n_On_think : List sv_V → sv_S → Option (sv_S)
  | [.inr (.inr (some (0, 0)))], σ => f_On_think σ
  | _, _ => none
def cd_On_think : sv_C := [(0, (.aload_n 0, (sv_N, (1, (0, []))))), (1, (.getfield 39, (sv_N, (4, (0, []))))), (4, (.aload_n 0, (sv_N, (5, (0, []))))), (5, (.getfield 30, (sv_N, (8, (0, []))))), (8, (.invokevirtual 319, (sv_N, (11, (0, []))))), (11, (.iconst 0, (.inl (0 : Int32), (12, (0, []))))), (12, (.istore_n 1, (sv_N, (13, (0, []))))), (13, (.iload_n 1, (sv_N, (14, (0, []))))), (14, (.aload_n 0, (sv_N, (15, (0, []))))), (15, (.getfield 39, (sv_N, (18, (0, []))))), (18, (.getfield 88, (sv_N, (21, (0, []))))), (21, (.if_icmp .ge 35, (sv_N, (24, (56, []))))), (24, (.aload_n 0, (sv_N, (25, (0, []))))), (25, (.getfield 39, (sv_N, (28, (0, []))))), (28, (.getfield 100, (sv_N, (31, (0, []))))), (31, (.iload_n 1, (sv_N, (32, (0, []))))), (32, (.aaload, (sv_N, (33, (0, []))))), (33, (.iconst 0, (.inl (0 : Int32), (34, (0, []))))), (34, (.putfield 118, (sv_N, (37, (0, []))))), (37, (.aload_n 0, (sv_N, (38, (0, []))))), (38, (.getfield 39, (sv_N, (41, (0, []))))), (41, (.getfield 100, (sv_N, (44, (0, []))))), (44, (.iload_n 1, (sv_N, (45, (0, []))))), (45, (.aaload, (sv_N, (46, (0, []))))), (46, (.iconst 0, (.inl (0 : Int32), (47, (0, []))))), (47, (.putfield 121, (sv_N, (50, (0, []))))), (50, (.iinc 1 1, (.inl (1 : Int32), (53, (0, []))))), (53, (.goto (-40), (sv_N, (56, (13, []))))), (56, (.return_, (sv_N, (57, (0, [])))))]
noncomputable def ev_On_think : sv_E := (fun i => sv_lk i fl_11, (fun i => sv_lk i kc_11, (fun i => bif Nat.beq i 166 then 1 else 0, (true, (fun pc => sv_lk pc [(8, (2, .inr (.inl n_Li_become)))], none)))))
noncomputable def kk_On_think_13 (n : Nat) : sv_K (sv_S) := fun pc => sv_lk pc [(13, fun lo st σ => match lo, st with
    | [some (.inr (.inr (some (0, 0)))), some (.inl x1)], [] => f_On_think_13 n x1 σ
    | _, _ => none)]
set_option maxRecDepth 20000 in
theorem e_On_think_13 (n : Nat) (x1 : Int32) (σ : sv_S) : sv_ex ev_On_think sv_rV (kk_On_think_13 n) cd_On_think 31 13 [some (.inr (.inr (some (0, 0)))), some (.inl x1)] [] σ = f_On_think_13 (n + 1) x1 σ := by
  rw [f_On_think_13.eq_2]
  delta ev_On_think kk_On_think_13 n_Li_become
  generalize f_Li_become = c0
  generalize f_On_think_13 = c1
  rfl
noncomputable def kk_On_think : sv_K (sv_S) := fun pc => sv_lk pc [(13, fun lo st σ => match lo, st with
    | [some (.inr (.inr (some (0, 0)))), some (.inl x1)], [] => f_On_think_13 sv_fu x1 σ
    | _, _ => none)]
set_option maxRecDepth 20000 in
theorem e_On_think (σ : sv_S) : sv_ex ev_On_think sv_rV kk_On_think cd_On_think 31 0 [some (.inr (.inr (some (0, 0)))), none] [] σ = f_On_think σ := by
  unfold f_On_think
  delta ev_On_think kk_On_think n_Li_become
  generalize f_Li_become = c0
  generalize f_On_think_13 = c1
  rfl
theorem d_On_think : cd_On_think.all (sv_dk cX11_think) = true := by decide +kernel
set_option maxRecDepth 20000 in
theorem w_On_think_13 {Γ : sv_Ga} {res : sv_S} (X : sv_Ok Γ ev_On_think cX11_think sv_rV res) : ∀ (n : Nat) (x1 : Int32) (σ : sv_S), f_On_think_13 n x1 σ = some res → sv_T Γ 13 [some (.inr (.inr (some (0, 0)))), some (.inl x1)] [] σ := by
  intro n
  induction n with
  | zero =>
    intro x1 σ h
    rw [f_On_think_13.eq_1] at h
    cases h
  | succ n ih =>
    intro x1 σ h
    refine sv_run X d_On_think (K := kk_On_think_13 n) (sv_lk_all (P := fun pc (k : sv_Lo → List sv_V → sv_S → Option (sv_S)) => ∀ lo st σ, k lo st σ = some res → sv_T Γ pc lo st σ) ?_) _ _ _ _ _ ((e_On_think_13 n x1 σ).trans h)
    clear h
    refine List.forall_mem_cons.mpr ⟨fun lo st σ h => ?_, fun _ h => absurd h List.not_mem_nil⟩
    · dsimp only at h
      split at h
      · exact ih _ _ h
      · cases h

set_option maxRecDepth 20000 in
theorem b_On_think (Γ : sv_Ga) (res : sv_S) (X : sv_Ok Γ ev_On_think cX11_think sv_rV res) (as : List sv_V) (σ : sv_S) (h : n_On_think as σ = some res) : sv_T Γ 0 (sv_e0 2 as) [] σ := by
  unfold n_On_think at h
  split at h
  · refine sv_run X d_On_think (K := kk_On_think) (sv_lk_all (P := fun pc (k : sv_Lo → List sv_V → sv_S → Option (sv_S)) => ∀ lo st σ, k lo st σ = some res → sv_T Γ pc lo st σ) ?_) _ _ _ _ _ ((e_On_think _).trans h)
    clear h
    refine List.forall_mem_cons.mpr ⟨fun lo st σ h => ?_, fun _ h => absurd h List.not_mem_nil⟩
    · dsimp only at h
      split at h
      · exact w_On_think_13 X _ _ _ h
      · cases h
  · cases h
theorem a_On_think (as : List sv_V) (σ : sv_S) (x : sv_S) (h : n_On_think as σ = some x) : sv_args 2 ev_On_think.2.2.2.1 as := by
  unfold n_On_think at h
  split at h
  · exact ⟨Nat.le_of_ble_eq_true rfl, fun _ v hv => by
      simp only [List.mem_cons, List.not_mem_nil, or_false] at hv
      rcases hv with rfl <;> trivial⟩
  · cases h
theorem g_On_think (as : List sv_V) (σ : sv_S) (x : Option sv_V × sv_S) (h : sv_gV n_On_think as σ = some x) : ∃ r i as', as = sv_R r i :: as' ∧ sv_kd r i = .inl 11 := by
  obtain ⟨_, h, -⟩ := sv_b0_some h
  unfold n_On_think at h
  split at h
  · exact ⟨_, _, _, rfl, rfl⟩
  · cases h
theorem tw_552 : Cond.methodLink RX11 319 yX5_become ∈ gw_tbl := gw_at 552 (by decide +kernel) rfl
theorem tw_553 : Cond.instanceMethod yX5_become ∈ gw_tbl := gw_at 553 (by decide +kernel) rfl
theorem tw_554 : Cond.selects RX5 yX5_become yX5_become ∈ gw_tbl := gw_at 554 (by decide +kernel) rfl
theorem tw_555 : Cond.code yX5_become cX5_become 3 none ∈ gw_tbl := gw_at 555 (by decide +kernel) rfl
set_option maxRecDepth 20000 in
theorem m_On_think (l : Launch) : sv_M l yX11_think cX11_think 2 none (sv_gV n_On_think) 2 := by
  refine sv_mV (E := ev_On_think) (by decide +kernel) (ln_gen fk_11 kk_11 gk_11) rfl ?_ a_On_think b_On_think
  intro p e R s m args below meth c cells slots Q base ad dC dI cA n0 S hkn hR hf pc n f hcs
  refine sv_lk_all (P := fun pc (x : Nat × sv_F) => sv_cok p l e R s m args below meth c cells slots Q base ad dC dI cA true 2 n0 pc x.1 x.2) ?_ pc (n, f) hcs
  exact List.forall_mem_cons.mpr ⟨(sv_cV S hkn (m_Li_become l) ⟨Nat.le_trans (by decide) hR.1, Nat.le_trans (by decide) hR.2⟩ (by decide) hf rfl (g_Li_become) (sv_w5 tw_552 tw_553 tw_554 tw_60 tw_555) (by decide +kernel) (sv_dc3 d_On_think (pc := 8) rfl rfl)).V,
      fun _ h => absurd h List.not_mem_nil⟩
noncomputable def f_On_behind_40 : Nat → Int32 → Int32 → Int32 → Int32 → Int32 → sv_S → Option (Int32 × sv_S)
  | 0, _, _, _, _, _, _ => none
  | n + 1, x1, x2, x3, x4, x5, σ =>
    sv_if (x2 ≤ x5)
      (sv_if (x3 = (2 : Int32))
        (some (x4, σ))
        (sv_if (x3 = (1 : Int32))
          (sv_g (sv_in x1 10) (some (σ 2 (10 * 2 + (x1.toNatClampNeg)) 5, σ)))
          (sv_g (sv_in x1 10) (some (σ 2 (10 * 2 + (x1.toNatClampNeg)) 2, σ)))))
      (sv_b (f_Li_passOne 2 σ) (fun v1 σ2 =>
        f_On_behind_40 n x1 x2 x3 v1 (x5 + (1 : Int32)) σ2))
noncomputable def f_On_behind (a1 : Int32) (a2 : Int32) (a3 : Int32) (σ : sv_S) : Option (Int32 × sv_S) :=
  sv_b (f_On_isDrummer a1 σ) (fun v1 σ2 =>
    sv_if (v1 = 0)
      (some ((-1000000001 : Int32), σ2))
      (sv_b (f_On_isWithin a2 (0 : Int32) (100 : Int32) σ2) (fun v3 σ4 =>
        sv_if (v3 = 0)
          (some ((-1000000001 : Int32), σ4))
          (sv_b (f_On_isWithin a3 (0 : Int32) (2 : Int32) σ4) (fun v5 σ6 =>
            sv_if (v5 = 0)
              (some ((-1000000001 : Int32), σ6))
              (sv_b0 (f_On_think σ6) (fun σ7 =>
                f_On_behind_40 sv_fu a1 a2 a3 (0 : Int32) (0 : Int32) σ7)))))))
noncomputable def n_On_behind : List sv_V → sv_S → Option (Int32 × sv_S)
  | [.inr (.inr (some (0, 0))), .inl a1, .inl a2, .inl a3], σ => f_On_behind a1 a2 a3 σ
  | _, _ => none
def cd_On_behind : sv_C := [(0, (.aload_n 0, (sv_N, (1, (0, []))))), (1, (.iload_n 1, (sv_N, (2, (0, []))))), (2, (.invokevirtual 97, (sv_N, (5, (0, []))))), (5, (.ifCond .eq 22, (sv_N, (8, (27, []))))), (8, (.iload_n 2, (sv_N, (9, (0, []))))), (9, (.iconst 0, (.inl (0 : Int32), (10, (0, []))))), (10, (.bipush 100, (.inl (100 : Int32), (12, (0, []))))), (12, (.invokestatic 83, (sv_N, (15, (0, []))))), (15, (.ifCond .eq 12, (sv_N, (18, (27, []))))), (18, (.iload_n 3, (sv_N, (19, (0, []))))), (19, (.iconst 0, (.inl (0 : Int32), (20, (0, []))))), (20, (.iconst 2, (.inl (2 : Int32), (21, (0, []))))), (21, (.invokestatic 83, (sv_N, (24, (0, []))))), (24, (.ifCond .ne 6, (sv_N, (27, (30, []))))), (27, (.ldc 87, (sv_N, (29, (0, []))))), (29, (.ireturn, (sv_N, (30, (0, []))))), (30, (.aload_n 0, (sv_N, (31, (0, []))))), (31, (.invokevirtual 186, (sv_N, (34, (0, []))))), (34, (.iconst 0, (.inl (0 : Int32), (35, (0, []))))), (35, (.istore 4, (sv_N, (37, (0, []))))), (37, (.iconst 0, (.inl (0 : Int32), (38, (0, []))))), (38, (.istore 5, (sv_N, (40, (0, []))))), (40, (.iload 5, (sv_N, (42, (0, []))))), (42, (.iload_n 2, (sv_N, (43, (0, []))))), (43, (.if_icmp .ge 18, (sv_N, (46, (61, []))))), (46, (.aload_n 0, (sv_N, (47, (0, []))))), (47, (.getfield 39, (sv_N, (50, (0, []))))), (50, (.invokevirtual 189, (sv_N, (53, (0, []))))), (53, (.istore 4, (sv_N, (55, (0, []))))), (55, (.iinc 5 1, (.inl (1 : Int32), (58, (0, []))))), (58, (.goto (-18), (sv_N, (61, (40, []))))), (61, (.iload_n 3, (sv_N, (62, (0, []))))), (62, (.iconst 2, (.inl (2 : Int32), (63, (0, []))))), (63, (.if_icmp .ne 6, (sv_N, (66, (69, []))))), (66, (.iload 4, (sv_N, (68, (0, []))))), (68, (.ireturn, (sv_N, (69, (0, []))))), (69, (.iload_n 3, (sv_N, (70, (0, []))))), (70, (.iconst 1, (.inl (1 : Int32), (71, (0, []))))), (71, (.if_icmp .ne 18, (sv_N, (74, (89, []))))), (74, (.aload_n 0, (sv_N, (75, (0, []))))), (75, (.getfield 39, (sv_N, (78, (0, []))))), (78, (.getfield 100, (sv_N, (81, (0, []))))), (81, (.iload_n 1, (sv_N, (82, (0, []))))), (82, (.aaload, (sv_N, (83, (0, []))))), (83, (.getfield 118, (sv_N, (86, (0, []))))), (86, (.goto 15, (sv_N, (89, (101, []))))), (89, (.aload_n 0, (sv_N, (90, (0, []))))), (90, (.getfield 39, (sv_N, (93, (0, []))))), (93, (.getfield 100, (sv_N, (96, (0, []))))), (96, (.iload_n 1, (sv_N, (97, (0, []))))), (97, (.aaload, (sv_N, (98, (0, []))))), (98, (.getfield 109, (sv_N, (101, (0, []))))), (101, (.ireturn, (sv_N, (102, (0, [])))))]
noncomputable def ev_On_behind : sv_E := (fun i => sv_lk i fl_11, (fun i => sv_lk i kc_11, (fun i => bif Nat.beq i 166 then 1 else 0, (true, (fun pc => sv_lk pc [(2, (2, .inl n_On_isDrummer)), (12, (3, .inl n_On_isWithin)), (21, (3, .inl n_On_isWithin)), (31, (1, .inr (.inl n_On_think))), (50, (1, .inl n_Li_passOne))], none)))))
noncomputable def kk_On_behind_40 (n : Nat) : sv_K (Int32 × sv_S) := fun pc => sv_lk pc [(40, fun lo st σ => match lo, st with
    | [some (.inr (.inr (some (0, 0)))), some (.inl x1), some (.inl x2), some (.inl x3), some (.inl x4), some (.inl x5)], [] => f_On_behind_40 n x1 x2 x3 x4 x5 σ
    | _, _ => none)]
set_option maxRecDepth 20000 in
theorem e_On_behind_40 (n : Nat) (x1 : Int32) (x2 : Int32) (x3 : Int32) (x4 : Int32) (x5 : Int32) (σ : sv_S) : sv_ex ev_On_behind sv_rI (kk_On_behind_40 n) cd_On_behind 55 40 [some (.inr (.inr (some (0, 0)))), some (.inl x1), some (.inl x2), some (.inl x3), some (.inl x4), some (.inl x5)] [] σ = f_On_behind_40 (n + 1) x1 x2 x3 x4 x5 σ := by
  rw [f_On_behind_40.eq_2]
  delta ev_On_behind kk_On_behind_40 n_On_isDrummer n_On_isWithin n_On_think n_Li_passOne
  generalize f_On_isDrummer = c0
  generalize f_On_isWithin = c1
  generalize f_On_think = c2
  generalize f_Li_passOne = c3
  generalize f_On_behind_40 = c4
  rfl
noncomputable def kk_On_behind : sv_K (Int32 × sv_S) := fun pc => sv_lk pc [(40, fun lo st σ => match lo, st with
    | [some (.inr (.inr (some (0, 0)))), some (.inl x1), some (.inl x2), some (.inl x3), some (.inl x4), some (.inl x5)], [] => f_On_behind_40 sv_fu x1 x2 x3 x4 x5 σ
    | _, _ => none)]
set_option maxRecDepth 20000 in
theorem e_On_behind (a1 : Int32) (a2 : Int32) (a3 : Int32) (σ : sv_S) : sv_ex ev_On_behind sv_rI kk_On_behind cd_On_behind 55 0 [some (.inr (.inr (some (0, 0)))), some (.inl a1), some (.inl a2), some (.inl a3), none, none] [] σ = f_On_behind a1 a2 a3 σ := by
  unfold f_On_behind
  delta ev_On_behind kk_On_behind n_On_isDrummer n_On_isWithin n_On_think n_Li_passOne
  generalize f_On_isDrummer = c0
  generalize f_On_isWithin = c1
  generalize f_On_think = c2
  generalize f_Li_passOne = c3
  generalize f_On_behind_40 = c4
  rfl
theorem d_On_behind : cd_On_behind.all (sv_dk cX11_behind) = true := by decide +kernel
set_option maxRecDepth 20000 in
theorem w_On_behind_40 {Γ : sv_Ga} {res : Int32 × sv_S} (X : sv_Ok Γ ev_On_behind cX11_behind sv_rI res) : ∀ (n : Nat) (x1 : Int32) (x2 : Int32) (x3 : Int32) (x4 : Int32) (x5 : Int32) (σ : sv_S), f_On_behind_40 n x1 x2 x3 x4 x5 σ = some res → sv_T Γ 40 [some (.inr (.inr (some (0, 0)))), some (.inl x1), some (.inl x2), some (.inl x3), some (.inl x4), some (.inl x5)] [] σ := by
  intro n
  induction n with
  | zero =>
    intro x1 x2 x3 x4 x5 σ h
    rw [f_On_behind_40.eq_1] at h
    cases h
  | succ n ih =>
    intro x1 x2 x3 x4 x5 σ h
    refine sv_run X d_On_behind (K := kk_On_behind_40 n) (sv_lk_all (P := fun pc (k : sv_Lo → List sv_V → sv_S → Option (Int32 × sv_S)) => ∀ lo st σ, k lo st σ = some res → sv_T Γ pc lo st σ) ?_) _ _ _ _ _ ((e_On_behind_40 n x1 x2 x3 x4 x5 σ).trans h)
    clear h
    refine List.forall_mem_cons.mpr ⟨fun lo st σ h => ?_, fun _ h => absurd h List.not_mem_nil⟩
    · dsimp only at h
      split at h
      · exact ih _ _ _ _ _ _ h
      · cases h

set_option maxRecDepth 20000 in
theorem b_On_behind (Γ : sv_Ga) (res : Int32 × sv_S) (X : sv_Ok Γ ev_On_behind cX11_behind sv_rI res) (as : List sv_V) (σ : sv_S) (h : n_On_behind as σ = some res) : sv_T Γ 0 (sv_e0 6 as) [] σ := by
  unfold n_On_behind at h
  split at h
  · refine sv_run X d_On_behind (K := kk_On_behind) (sv_lk_all (P := fun pc (k : sv_Lo → List sv_V → sv_S → Option (Int32 × sv_S)) => ∀ lo st σ, k lo st σ = some res → sv_T Γ pc lo st σ) ?_) _ _ _ _ _ ((e_On_behind _ _ _ _).trans h)
    clear h
    refine List.forall_mem_cons.mpr ⟨fun lo st σ h => ?_, fun _ h => absurd h List.not_mem_nil⟩
    · dsimp only at h
      split at h
      · exact w_On_behind_40 X _ _ _ _ _ _ _ h
      · cases h
  · cases h
theorem a_On_behind (as : List sv_V) (σ : sv_S) (x : Int32 × sv_S) (h : n_On_behind as σ = some x) : sv_args 6 ev_On_behind.2.2.2.1 as := by
  unfold n_On_behind at h
  split at h
  · exact ⟨Nat.le_of_ble_eq_true rfl, fun _ v hv => by
      simp only [List.mem_cons, List.not_mem_nil, or_false] at hv
      rcases hv with rfl | rfl | rfl | rfl <;> trivial⟩
  · cases h
theorem g_On_behind (as : List sv_V) (σ : sv_S) (x : Option sv_V × sv_S) (h : sv_gI n_On_behind as σ = some x) : ∃ r i as', as = sv_R r i :: as' ∧ sv_kd r i = .inl 11 := by
  obtain ⟨_, _, h, -⟩ := sv_b_some h
  unfold n_On_behind at h
  split at h
  · exact ⟨_, _, _, rfl, rfl⟩
  · cases h
theorem tw_1 : Cond.selects RX11 yX11_think yX11_think ∈ gw_tbl := gw_at 1 (by decide +kernel) rfl
theorem tw_548 : Cond.methodLink RX11 186 yX11_think ∈ gw_tbl := gw_at 548 (by decide +kernel) rfl
theorem tw_550 : Cond.instanceMethod yX11_think ∈ gw_tbl := gw_at 550 (by decide +kernel) rfl
theorem tw_551 : Cond.code yX11_think cX11_think 2 none ∈ gw_tbl := gw_at 551 (by decide +kernel) rfl
theorem tw_563 : Cond.methodLink RX11 189 yX5_passOne ∈ gw_tbl := gw_at 563 (by decide +kernel) rfl
set_option maxRecDepth 20000 in
theorem m_On_behind (l : Launch) : sv_M l yX11_behind cX11_behind 6 (some .int) (sv_gI n_On_behind) 5 := by
  refine sv_mI (E := ev_On_behind) (by decide +kernel) (ln_gen fk_11 kk_11 gk_11) rfl ?_ a_On_behind b_On_behind
  intro p e R s m args below meth c cells slots Q base ad dC dI cA n0 S hkn hR hf pc n f hcs
  refine sv_lk_all (P := fun pc (x : Nat × sv_F) => sv_cok p l e R s m args below meth c cells slots Q base ad dC dI cA true 6 n0 pc x.1 x.2) ?_ pc (n, f) hcs
  exact List.forall_mem_cons.mpr ⟨(sv_cV S hkn (m_On_isDrummer l) ⟨Nat.le_trans (by decide) hR.1, Nat.le_trans (by decide) hR.2⟩ (by decide) hf rfl (g_On_isDrummer) (sv_w5 tw_348 tw_350 tw_0 tw_53 tw_351) (by decide +kernel) (sv_dc3 d_On_behind (pc := 2) rfl rfl)).I,
      List.forall_mem_cons.mpr ⟨(sv_cS S hkn (m_On_isWithin l) ⟨Nat.le_trans (by decide) hR.1, Nat.le_trans (by decide) hR.2⟩ (by decide) hf (sv_w4 tw_327 tw_328 tw_53 tw_329) (by decide +kernel) (sv_dc3 d_On_behind (pc := 12) rfl rfl)).I,
      List.forall_mem_cons.mpr ⟨(sv_cS S hkn (m_On_isWithin l) ⟨Nat.le_trans (by decide) hR.1, Nat.le_trans (by decide) hR.2⟩ (by decide) hf (sv_w4 tw_327 tw_328 tw_53 tw_329) (by decide +kernel) (sv_dc3 d_On_behind (pc := 21) rfl rfl)).I,
      List.forall_mem_cons.mpr ⟨(sv_cV S hkn (m_On_think l) ⟨Nat.le_trans (by decide) hR.1, Nat.le_trans (by decide) hR.2⟩ (by decide) hf rfl (g_On_think) (sv_w5 tw_548 tw_550 tw_1 tw_53 tw_551) (by decide +kernel) (sv_dc3 d_On_behind (pc := 31) rfl rfl)).V,
      List.forall_mem_cons.mpr ⟨(sv_cV S hkn (m_Li_passOne l) ⟨Nat.le_trans (by decide) hR.1, Nat.le_trans (by decide) hR.2⟩ (by decide) hf rfl (g_Li_passOne) (sv_w5 tw_563 tw_530 tw_531 tw_60 tw_532) (by decide +kernel) (sv_dc3 d_On_behind (pc := 50) rfl rfl)).I,
      fun _ h => absurd h List.not_mem_nil⟩⟩⟩⟩⟩
noncomputable def f_On_soon (σ : sv_S) : Option (Int32 × sv_S) :=
  sv_b0 (f_On_think σ) (fun σ1 =>
    sv_b (f_Li_firstWithStriking 2 (1 : Int32) σ1) (fun v2 σ3 =>
      some (v2, σ3)))
noncomputable def n_On_soon : List sv_V → sv_S → Option (Int32 × sv_S)
  | [.inr (.inr (some (0, 0)))], σ => f_On_soon σ
  | _, _ => none
def cd_On_soon : sv_C := [(0, (.aload_n 0, (sv_N, (1, (0, []))))), (1, (.invokevirtual 186, (sv_N, (4, (0, []))))), (4, (.aload_n 0, (sv_N, (5, (0, []))))), (5, (.getfield 39, (sv_N, (8, (0, []))))), (8, (.iconst 1, (.inl (1 : Int32), (9, (0, []))))), (9, (.invokevirtual 192, (sv_N, (12, (0, []))))), (12, (.ireturn, (sv_N, (13, (0, [])))))]
noncomputable def ev_On_soon : sv_E := (fun i => sv_lk i fl_11, (fun i => sv_lk i kc_11, (fun i => bif Nat.beq i 166 then 1 else 0, (true, (fun pc => sv_lk pc [(1, (1, .inr (.inl n_On_think))), (9, (2, .inl n_Li_firstWithStriking))], none)))))
noncomputable def kk_On_soon : sv_K (Int32 × sv_S) := fun pc => sv_lk pc []
set_option maxRecDepth 20000 in
theorem e_On_soon (σ : sv_S) : sv_ex ev_On_soon sv_rI kk_On_soon cd_On_soon 9 0 [some (.inr (.inr (some (0, 0))))] [] σ = f_On_soon σ := by
  unfold f_On_soon
  delta ev_On_soon kk_On_soon n_On_think n_Li_firstWithStriking
  generalize f_On_think = c0
  generalize f_Li_firstWithStriking = c1
  rfl
theorem d_On_soon : cd_On_soon.all (sv_dk cX11_soon) = true := by decide +kernel
set_option maxRecDepth 20000 in
theorem b_On_soon (Γ : sv_Ga) (res : Int32 × sv_S) (X : sv_Ok Γ ev_On_soon cX11_soon sv_rI res) (as : List sv_V) (σ : sv_S) (h : n_On_soon as σ = some res) : sv_T Γ 0 (sv_e0 1 as) [] σ := by
  unfold n_On_soon at h
  split at h
  · refine sv_run X d_On_soon (K := kk_On_soon) (sv_lk_all (P := fun pc (k : sv_Lo → List sv_V → sv_S → Option (Int32 × sv_S)) => ∀ lo st σ, k lo st σ = some res → sv_T Γ pc lo st σ) ?_) _ _ _ _ _ ((e_On_soon _).trans h)
    clear h
    exact fun _ h => absurd h List.not_mem_nil
  · cases h
theorem a_On_soon (as : List sv_V) (σ : sv_S) (x : Int32 × sv_S) (h : n_On_soon as σ = some x) : sv_args 1 ev_On_soon.2.2.2.1 as := by
  unfold n_On_soon at h
  split at h
  · exact ⟨Nat.le_of_ble_eq_true rfl, fun _ v hv => by
      simp only [List.mem_cons, List.not_mem_nil, or_false] at hv
      rcases hv with rfl <;> trivial⟩
  · cases h
theorem g_On_soon (as : List sv_V) (σ : sv_S) (x : Option sv_V × sv_S) (h : sv_gI n_On_soon as σ = some x) : ∃ r i as', as = sv_R r i :: as' ∧ sv_kd r i = .inl 11 := by
  obtain ⟨_, _, h, -⟩ := sv_b_some h
  unfold n_On_soon at h
  split at h
  · exact ⟨_, _, _, rfl, rfl⟩
  · cases h
theorem tw_568 : Cond.methodLink RX11 192 yX5_firstWithStriking ∈ gw_tbl := gw_at 568 (by decide +kernel) rfl
theorem tw_569 : Cond.instanceMethod yX5_firstWithStriking ∈ gw_tbl := gw_at 569 (by decide +kernel) rfl
theorem tw_570 : Cond.selects RX5 yX5_firstWithStriking yX5_firstWithStriking ∈ gw_tbl := gw_at 570 (by decide +kernel) rfl
theorem tw_571 : Cond.code yX5_firstWithStriking cX5_firstWithStriking 3 (some .int) ∈ gw_tbl := gw_at 571 (by decide +kernel) rfl
set_option maxRecDepth 20000 in
theorem m_On_soon (l : Launch) : sv_M l yX11_soon cX11_soon 1 (some .int) (sv_gI n_On_soon) 6 := by
  refine sv_mI (E := ev_On_soon) (by decide +kernel) (ln_gen fk_11 kk_11 gk_11) rfl ?_ a_On_soon b_On_soon
  intro p e R s m args below meth c cells slots Q base ad dC dI cA n0 S hkn hR hf pc n f hcs
  refine sv_lk_all (P := fun pc (x : Nat × sv_F) => sv_cok p l e R s m args below meth c cells slots Q base ad dC dI cA true 1 n0 pc x.1 x.2) ?_ pc (n, f) hcs
  exact List.forall_mem_cons.mpr ⟨(sv_cV S hkn (m_On_think l) ⟨Nat.le_trans (by decide) hR.1, Nat.le_trans (by decide) hR.2⟩ (by decide) hf rfl (g_On_think) (sv_w5 tw_548 tw_550 tw_1 tw_53 tw_551) (by decide +kernel) (sv_dc3 d_On_soon (pc := 1) rfl rfl)).V,
      List.forall_mem_cons.mpr ⟨(sv_cV S hkn (m_Li_firstWithStriking l) ⟨Nat.le_trans (by decide) hR.1, Nat.le_trans (by decide) hR.2⟩ (by decide) hf rfl (g_Li_firstWithStriking) (sv_w5 tw_568 tw_569 tw_570 tw_60 tw_571) (by decide +kernel) (sv_dc3 d_On_soon (pc := 9) rfl rfl)).I,
      fun _ h => absurd h List.not_mem_nil⟩⟩
noncomputable def f_On_all (σ : sv_S) : Option (Int32 × sv_S) :=
  sv_if ((σ 1 0 4) = 0)
    (some ((-1000000005 : Int32), σ))
    (sv_b0 (f_On_think σ) (fun σ1 =>
      sv_b (f_Li_firstWithStriking 2 (σ1 1 0 4) σ1) (fun v2 σ3 =>
        some (v2, σ3))))
noncomputable def n_On_all : List sv_V → sv_S → Option (Int32 × sv_S)
  | [.inr (.inr (some (0, 0)))], σ => f_On_all σ
  | _, _ => none
def cd_On_all : sv_C := [(0, (.aload_n 0, (sv_N, (1, (0, []))))), (1, (.getfield 30, (sv_N, (4, (0, []))))), (4, (.getfield 88, (sv_N, (7, (0, []))))), (7, (.ifCond .ne 6, (sv_N, (10, (13, []))))), (10, (.ldc 124, (sv_N, (12, (0, []))))), (12, (.ireturn, (sv_N, (13, (0, []))))), (13, (.aload_n 0, (sv_N, (14, (0, []))))), (14, (.invokevirtual 186, (sv_N, (17, (0, []))))), (17, (.aload_n 0, (sv_N, (18, (0, []))))), (18, (.getfield 39, (sv_N, (21, (0, []))))), (21, (.aload_n 0, (sv_N, (22, (0, []))))), (22, (.getfield 30, (sv_N, (25, (0, []))))), (25, (.getfield 88, (sv_N, (28, (0, []))))), (28, (.invokevirtual 192, (sv_N, (31, (0, []))))), (31, (.ireturn, (sv_N, (32, (0, [])))))]
noncomputable def ev_On_all : sv_E := (fun i => sv_lk i fl_11, (fun i => sv_lk i kc_11, (fun i => bif Nat.beq i 166 then 1 else 0, (true, (fun pc => sv_lk pc [(14, (1, .inr (.inl n_On_think))), (28, (2, .inl n_Li_firstWithStriking))], none)))))
noncomputable def kk_On_all : sv_K (Int32 × sv_S) := fun pc => sv_lk pc []
set_option maxRecDepth 20000 in
theorem e_On_all (σ : sv_S) : sv_ex ev_On_all sv_rI kk_On_all cd_On_all 17 0 [some (.inr (.inr (some (0, 0))))] [] σ = f_On_all σ := by
  unfold f_On_all
  delta ev_On_all kk_On_all n_On_think n_Li_firstWithStriking
  generalize f_On_think = c0
  generalize f_Li_firstWithStriking = c1
  rfl
theorem d_On_all : cd_On_all.all (sv_dk cX11_all) = true := by decide +kernel
set_option maxRecDepth 20000 in
theorem b_On_all (Γ : sv_Ga) (res : Int32 × sv_S) (X : sv_Ok Γ ev_On_all cX11_all sv_rI res) (as : List sv_V) (σ : sv_S) (h : n_On_all as σ = some res) : sv_T Γ 0 (sv_e0 1 as) [] σ := by
  unfold n_On_all at h
  split at h
  · refine sv_run X d_On_all (K := kk_On_all) (sv_lk_all (P := fun pc (k : sv_Lo → List sv_V → sv_S → Option (Int32 × sv_S)) => ∀ lo st σ, k lo st σ = some res → sv_T Γ pc lo st σ) ?_) _ _ _ _ _ ((e_On_all _).trans h)
    clear h
    exact fun _ h => absurd h List.not_mem_nil
  · cases h
theorem a_On_all (as : List sv_V) (σ : sv_S) (x : Int32 × sv_S) (h : n_On_all as σ = some x) : sv_args 1 ev_On_all.2.2.2.1 as := by
  unfold n_On_all at h
  split at h
  · exact ⟨Nat.le_of_ble_eq_true rfl, fun _ v hv => by
      simp only [List.mem_cons, List.not_mem_nil, or_false] at hv
      rcases hv with rfl <;> trivial⟩
  · cases h
theorem g_On_all (as : List sv_V) (σ : sv_S) (x : Option sv_V × sv_S) (h : sv_gI n_On_all as σ = some x) : ∃ r i as', as = sv_R r i :: as' ∧ sv_kd r i = .inl 11 := by
  obtain ⟨_, _, h, -⟩ := sv_b_some h
  unfold n_On_all at h
  split at h
  · exact ⟨_, _, _, rfl, rfl⟩
  · cases h

set_option maxRecDepth 20000 in
theorem m_On_all (l : Launch) : sv_M l yX11_all cX11_all 1 (some .int) (sv_gI n_On_all) 6 := by
  refine sv_mI (E := ev_On_all) (by decide +kernel) (ln_gen fk_11 kk_11 gk_11) rfl ?_ a_On_all b_On_all
  intro p e R s m args below meth c cells slots Q base ad dC dI cA n0 S hkn hR hf pc n f hcs
  refine sv_lk_all (P := fun pc (x : Nat × sv_F) => sv_cok p l e R s m args below meth c cells slots Q base ad dC dI cA true 1 n0 pc x.1 x.2) ?_ pc (n, f) hcs
  exact List.forall_mem_cons.mpr ⟨(sv_cV S hkn (m_On_think l) ⟨Nat.le_trans (by decide) hR.1, Nat.le_trans (by decide) hR.2⟩ (by decide) hf rfl (g_On_think) (sv_w5 tw_548 tw_550 tw_1 tw_53 tw_551) (by decide +kernel) (sv_dc3 d_On_all (pc := 14) rfl rfl)).V,
      List.forall_mem_cons.mpr ⟨(sv_cV S hkn (m_Li_firstWithStriking l) ⟨Nat.le_trans (by decide) hR.1, Nat.le_trans (by decide) hR.2⟩ (by decide) hf rfl (g_Li_firstWithStriking) (sv_w5 tw_568 tw_569 tw_570 tw_60 tw_571) (by decide +kernel) (sv_dc3 d_On_all (pc := 28) rfl rfl)).I,
      fun _ h => absurd h List.not_mem_nil⟩⟩
noncomputable def f_On_spread (a1 : Int32) (σ : sv_S) : Option (Int32 × sv_S) :=
  sv_b (f_On_isWithin a1 (1 : Int32) (100 : Int32) σ) (fun v1 σ2 =>
    sv_if (v1 = 0)
      (some ((-1000000001 : Int32), σ2))
      (sv_b0 (f_On_think σ2) (fun σ3 =>
        sv_b (f_Li_spreadIn 2 a1 σ3) (fun v4 σ5 =>
          some (v4, σ5)))))
noncomputable def n_On_spread : List sv_V → sv_S → Option (Int32 × sv_S)
  | [.inr (.inr (some (0, 0))), .inl a1], σ => f_On_spread a1 σ
  | _, _ => none
def cd_On_spread : sv_C := [(0, (.iload_n 1, (sv_N, (1, (0, []))))), (1, (.iconst 1, (.inl (1 : Int32), (2, (0, []))))), (2, (.bipush 100, (.inl (100 : Int32), (4, (0, []))))), (4, (.invokestatic 83, (sv_N, (7, (0, []))))), (7, (.ifCond .ne 6, (sv_N, (10, (13, []))))), (10, (.ldc 87, (sv_N, (12, (0, []))))), (12, (.ireturn, (sv_N, (13, (0, []))))), (13, (.aload_n 0, (sv_N, (14, (0, []))))), (14, (.invokevirtual 186, (sv_N, (17, (0, []))))), (17, (.aload_n 0, (sv_N, (18, (0, []))))), (18, (.getfield 39, (sv_N, (21, (0, []))))), (21, (.iload_n 1, (sv_N, (22, (0, []))))), (22, (.invokevirtual 195, (sv_N, (25, (0, []))))), (25, (.ireturn, (sv_N, (26, (0, [])))))]
noncomputable def ev_On_spread : sv_E := (fun i => sv_lk i fl_11, (fun i => sv_lk i kc_11, (fun i => bif Nat.beq i 166 then 1 else 0, (true, (fun pc => sv_lk pc [(4, (3, .inl n_On_isWithin)), (14, (1, .inr (.inl n_On_think))), (22, (2, .inl n_Li_spreadIn))], none)))))
noncomputable def kk_On_spread : sv_K (Int32 × sv_S) := fun pc => sv_lk pc []
set_option maxRecDepth 20000 in
theorem e_On_spread (a1 : Int32) (σ : sv_S) : sv_ex ev_On_spread sv_rI kk_On_spread cd_On_spread 16 0 [some (.inr (.inr (some (0, 0)))), some (.inl a1)] [] σ = f_On_spread a1 σ := by
  unfold f_On_spread
  delta ev_On_spread kk_On_spread n_On_isWithin n_On_think n_Li_spreadIn
  generalize f_On_isWithin = c0
  generalize f_On_think = c1
  generalize f_Li_spreadIn = c2
  rfl
theorem d_On_spread : cd_On_spread.all (sv_dk cX11_spread) = true := by decide +kernel
set_option maxRecDepth 20000 in
theorem b_On_spread (Γ : sv_Ga) (res : Int32 × sv_S) (X : sv_Ok Γ ev_On_spread cX11_spread sv_rI res) (as : List sv_V) (σ : sv_S) (h : n_On_spread as σ = some res) : sv_T Γ 0 (sv_e0 2 as) [] σ := by
  unfold n_On_spread at h
  split at h
  · refine sv_run X d_On_spread (K := kk_On_spread) (sv_lk_all (P := fun pc (k : sv_Lo → List sv_V → sv_S → Option (Int32 × sv_S)) => ∀ lo st σ, k lo st σ = some res → sv_T Γ pc lo st σ) ?_) _ _ _ _ _ ((e_On_spread _ _).trans h)
    clear h
    exact fun _ h => absurd h List.not_mem_nil
  · cases h
theorem a_On_spread (as : List sv_V) (σ : sv_S) (x : Int32 × sv_S) (h : n_On_spread as σ = some x) : sv_args 2 ev_On_spread.2.2.2.1 as := by
  unfold n_On_spread at h
  split at h
  · exact ⟨Nat.le_of_ble_eq_true rfl, fun _ v hv => by
      simp only [List.mem_cons, List.not_mem_nil, or_false] at hv
      rcases hv with rfl | rfl <;> trivial⟩
  · cases h
theorem g_On_spread (as : List sv_V) (σ : sv_S) (x : Option sv_V × sv_S) (h : sv_gI n_On_spread as σ = some x) : ∃ r i as', as = sv_R r i :: as' ∧ sv_kd r i = .inl 11 := by
  obtain ⟨_, _, h, -⟩ := sv_b_some h
  unfold n_On_spread at h
  split at h
  · exact ⟨_, _, _, rfl, rfl⟩
  · cases h
theorem tw_581 : Cond.methodLink RX11 195 yX5_spreadIn ∈ gw_tbl := gw_at 581 (by decide +kernel) rfl
theorem tw_582 : Cond.instanceMethod yX5_spreadIn ∈ gw_tbl := gw_at 582 (by decide +kernel) rfl
theorem tw_583 : Cond.selects RX5 yX5_spreadIn yX5_spreadIn ∈ gw_tbl := gw_at 583 (by decide +kernel) rfl
theorem tw_584 : Cond.code yX5_spreadIn cX5_spreadIn 6 (some .int) ∈ gw_tbl := gw_at 584 (by decide +kernel) rfl
set_option maxRecDepth 20000 in
theorem m_On_spread (l : Launch) : sv_M l yX11_spread cX11_spread 2 (some .int) (sv_gI n_On_spread) 7 := by
  refine sv_mI (E := ev_On_spread) (by decide +kernel) (ln_gen fk_11 kk_11 gk_11) rfl ?_ a_On_spread b_On_spread
  intro p e R s m args below meth c cells slots Q base ad dC dI cA n0 S hkn hR hf pc n f hcs
  refine sv_lk_all (P := fun pc (x : Nat × sv_F) => sv_cok p l e R s m args below meth c cells slots Q base ad dC dI cA true 2 n0 pc x.1 x.2) ?_ pc (n, f) hcs
  exact List.forall_mem_cons.mpr ⟨(sv_cS S hkn (m_On_isWithin l) ⟨Nat.le_trans (by decide) hR.1, Nat.le_trans (by decide) hR.2⟩ (by decide) hf (sv_w4 tw_327 tw_328 tw_53 tw_329) (by decide +kernel) (sv_dc3 d_On_spread (pc := 4) rfl rfl)).I,
      List.forall_mem_cons.mpr ⟨(sv_cV S hkn (m_On_think l) ⟨Nat.le_trans (by decide) hR.1, Nat.le_trans (by decide) hR.2⟩ (by decide) hf rfl (g_On_think) (sv_w5 tw_548 tw_550 tw_1 tw_53 tw_551) (by decide +kernel) (sv_dc3 d_On_spread (pc := 14) rfl rfl)).V,
      List.forall_mem_cons.mpr ⟨(sv_cV S hkn (m_Li_spreadIn l) ⟨Nat.le_trans (by decide) hR.1, Nat.le_trans (by decide) hR.2⟩ (by decide) hf rfl (g_Li_spreadIn) (sv_w5 tw_581 tw_582 tw_583 tw_60 tw_584) (by decide +kernel) (sv_dc3 d_On_spread (pc := 22) rfl rfl)).I,
      fun _ h => absurd h List.not_mem_nil⟩⟩⟩
noncomputable def f_On_toWhom_91 (k21 : Int32 → Int32 → Int32 → Int32 → sv_S → Option (Int32 × sv_S)) (x1 : Int32) (x4 : Int32) (x5 : Int32) (σ : sv_S) : Option (Int32 × sv_S) :=
    k21 x1 x4 x5 (x4 + (1 : Int32)) σ
noncomputable def f_On_toWhom_21 : Nat → Int32 → Int32 → Int32 → Int32 → sv_S → Option (Int32 × sv_S)
  | 0, _, _, _, _, _ => none
  | n + 1, x1, x2, x3, x4, σ =>
    sv_if ((σ 1 0 4) ≤ x4)
      (some (x2, σ))
      (sv_g (sv_in x4 10) (sv_if ((σ 2 (10 * 0 + (x4.toNatClampNeg)) 2) = 0)
        (sv_b0 (f_On_think σ) (fun σ1 =>
          sv_b0 (f_Li_wake 2 x4 σ1) (fun σ2 =>
            sv_b (f_Li_spreadIn 2 x1 σ2) (fun v3 σ4 =>
              sv_if (v3 = (-1000000005 : Int32))
                (f_On_toWhom_21 n x1 x2 x3 (x4 + (1 : Int32)) σ4)
                (sv_if (x2 = (-1000000005 : Int32))
                  (f_On_toWhom_91 (f_On_toWhom_21 n) x1 x4 v3 σ4)
                  (sv_if (x3 ≤ v3)
                    (f_On_toWhom_21 n x1 x2 x3 (x4 + (1 : Int32)) σ4)
                    (f_On_toWhom_91 (f_On_toWhom_21 n) x1 x4 v3 σ4)))))))
        (f_On_toWhom_21 n x1 x2 x3 (x4 + (1 : Int32)) σ)))
noncomputable def f_On_toWhom (a1 : Int32) (σ : sv_S) : Option (Int32 × sv_S) :=
  sv_b (f_On_isWithin a1 (1 : Int32) (60 : Int32) σ) (fun v1 σ2 =>
    sv_if (v1 = 0)
      (some ((-1000000001 : Int32), σ2))
      (f_On_toWhom_21 sv_fu a1 (-1000000005 : Int32) (0 : Int32) (0 : Int32) σ2))
noncomputable def n_On_toWhom : List sv_V → sv_S → Option (Int32 × sv_S)
  | [.inr (.inr (some (0, 0))), .inl a1], σ => f_On_toWhom a1 σ
  | _, _ => none
def cd_On_toWhom : sv_C := [(0, (.iload_n 1, (sv_N, (1, (0, []))))), (1, (.iconst 1, (.inl (1 : Int32), (2, (0, []))))), (2, (.bipush 60, (.inl (60 : Int32), (4, (0, []))))), (4, (.invokestatic 83, (sv_N, (7, (0, []))))), (7, (.ifCond .ne 6, (sv_N, (10, (13, []))))), (10, (.ldc 87, (sv_N, (12, (0, []))))), (12, (.ireturn, (sv_N, (13, (0, []))))), (13, (.ldc 124, (sv_N, (15, (0, []))))), (15, (.istore_n 2, (sv_N, (16, (0, []))))), (16, (.iconst 0, (.inl (0 : Int32), (17, (0, []))))), (17, (.istore_n 3, (sv_N, (18, (0, []))))), (18, (.iconst 0, (.inl (0 : Int32), (19, (0, []))))), (19, (.istore 4, (sv_N, (21, (0, []))))), (21, (.iload 4, (sv_N, (23, (0, []))))), (23, (.aload_n 0, (sv_N, (24, (0, []))))), (24, (.getfield 30, (sv_N, (27, (0, []))))), (27, (.getfield 88, (sv_N, (30, (0, []))))), (30, (.if_icmp .ge 73, (sv_N, (33, (103, []))))), (33, (.aload_n 0, (sv_N, (34, (0, []))))), (34, (.getfield 30, (sv_N, (37, (0, []))))), (37, (.getfield 100, (sv_N, (40, (0, []))))), (40, (.iload 4, (sv_N, (42, (0, []))))), (42, (.aaload, (sv_N, (43, (0, []))))), (43, (.getfield 109, (sv_N, (46, (0, []))))), (46, (.ifCond .ne 51, (sv_N, (49, (97, []))))), (49, (.aload_n 0, (sv_N, (50, (0, []))))), (50, (.invokevirtual 186, (sv_N, (53, (0, []))))), (53, (.aload_n 0, (sv_N, (54, (0, []))))), (54, (.getfield 39, (sv_N, (57, (0, []))))), (57, (.iload 4, (sv_N, (59, (0, []))))), (59, (.invokevirtual 173, (sv_N, (62, (0, []))))), (62, (.aload_n 0, (sv_N, (63, (0, []))))), (63, (.getfield 39, (sv_N, (66, (0, []))))), (66, (.iload_n 1, (sv_N, (67, (0, []))))), (67, (.invokevirtual 195, (sv_N, (70, (0, []))))), (70, (.istore 5, (sv_N, (72, (0, []))))), (72, (.iload 5, (sv_N, (74, (0, []))))), (74, (.ldc 124, (sv_N, (76, (0, []))))), (76, (.if_icmp .eq 21, (sv_N, (79, (97, []))))), (79, (.iload_n 2, (sv_N, (80, (0, []))))), (80, (.ldc 124, (sv_N, (82, (0, []))))), (82, (.if_icmp .eq 9, (sv_N, (85, (91, []))))), (85, (.iload 5, (sv_N, (87, (0, []))))), (87, (.iload_n 3, (sv_N, (88, (0, []))))), (88, (.if_icmp .ge 9, (sv_N, (91, (97, []))))), (91, (.iload 4, (sv_N, (93, (0, []))))), (93, (.istore_n 2, (sv_N, (94, (0, []))))), (94, (.iload 5, (sv_N, (96, (0, []))))), (96, (.istore_n 3, (sv_N, (97, (0, []))))), (97, (.iinc 4 1, (.inl (1 : Int32), (100, (0, []))))), (100, (.goto (-79), (sv_N, (103, (21, []))))), (103, (.iload_n 2, (sv_N, (104, (0, []))))), (104, (.ireturn, (sv_N, (105, (0, [])))))]
noncomputable def ev_On_toWhom : sv_E := (fun i => sv_lk i fl_11, (fun i => sv_lk i kc_11, (fun i => bif Nat.beq i 166 then 1 else 0, (true, (fun pc => sv_lk pc [(4, (3, .inl n_On_isWithin)), (50, (1, .inr (.inl n_On_think))), (59, (2, .inr (.inl n_Li_wake))), (67, (2, .inl n_Li_spreadIn))], none)))))
noncomputable def kk_On_toWhom_91 (k21 : Int32 → Int32 → Int32 → Int32 → sv_S → Option (Int32 × sv_S)) : sv_K (Int32 × sv_S) := fun pc => sv_lk pc [(21, fun lo st σ => match lo, st with
    | [some (.inr (.inr (some (0, 0)))), some (.inl x1), some (.inl x2), some (.inl x3), some (.inl x4), _], [] => k21 x1 x2 x3 x4 σ
    | _, _ => none)]
set_option maxRecDepth 20000 in
theorem e_On_toWhom_91 (k21 : Int32 → Int32 → Int32 → Int32 → sv_S → Option (Int32 × sv_S)) (x1 : Int32) (x4 : Int32) (x5 : Int32) (z2 z3 : Option sv_V) (σ : sv_S) : sv_ex ev_On_toWhom sv_rI (kk_On_toWhom_91 k21) cd_On_toWhom 55 91 [some (.inr (.inr (some (0, 0)))), some (.inl x1), z2, z3, some (.inl x4), some (.inl x5)] [] σ = f_On_toWhom_91 k21 x1 x4 x5 σ := by
  unfold f_On_toWhom_91
  delta ev_On_toWhom kk_On_toWhom_91 n_On_isWithin n_On_think n_Li_wake n_Li_spreadIn
  generalize f_On_isWithin = c0
  generalize f_On_think = c1
  generalize f_Li_wake = c2
  generalize f_Li_spreadIn = c3
  generalize f_On_toWhom_21 = c4
  rfl
noncomputable def kk_On_toWhom_21 (n : Nat) : sv_K (Int32 × sv_S) := fun pc => sv_lk pc [(21, fun lo st σ => match lo, st with
    | [some (.inr (.inr (some (0, 0)))), some (.inl x1), some (.inl x2), some (.inl x3), some (.inl x4), _], [] => f_On_toWhom_21 n x1 x2 x3 x4 σ
    | _, _ => none),
  (91, fun lo st σ => match lo, st with
    | [some (.inr (.inr (some (0, 0)))), some (.inl x1), _, _, some (.inl x4), some (.inl x5)], [] => f_On_toWhom_91 (f_On_toWhom_21 n) x1 x4 x5 σ
    | _, _ => none)]
set_option maxRecDepth 20000 in
theorem e_On_toWhom_21 (n : Nat) (x1 : Int32) (x2 : Int32) (x3 : Int32) (x4 : Int32) (z5 : Option sv_V) (σ : sv_S) : sv_ex ev_On_toWhom sv_rI (kk_On_toWhom_21 n) cd_On_toWhom 55 21 [some (.inr (.inr (some (0, 0)))), some (.inl x1), some (.inl x2), some (.inl x3), some (.inl x4), z5] [] σ = f_On_toWhom_21 (n + 1) x1 x2 x3 x4 σ := by
  rw [f_On_toWhom_21.eq_2]
  delta ev_On_toWhom kk_On_toWhom_21 n_On_isWithin n_On_think n_Li_wake n_Li_spreadIn
  generalize f_On_isWithin = c0
  generalize f_On_think = c1
  generalize f_Li_wake = c2
  generalize f_Li_spreadIn = c3
  generalize f_On_toWhom_21 = c4
  generalize f_On_toWhom_91 = c5
  rfl
noncomputable def kk_On_toWhom : sv_K (Int32 × sv_S) := fun pc => sv_lk pc [(21, fun lo st σ => match lo, st with
    | [some (.inr (.inr (some (0, 0)))), some (.inl x1), some (.inl x2), some (.inl x3), some (.inl x4), _], [] => f_On_toWhom_21 sv_fu x1 x2 x3 x4 σ
    | _, _ => none)]
set_option maxRecDepth 20000 in
theorem e_On_toWhom (a1 : Int32) (σ : sv_S) : sv_ex ev_On_toWhom sv_rI kk_On_toWhom cd_On_toWhom 55 0 [some (.inr (.inr (some (0, 0)))), some (.inl a1), none, none, none, none] [] σ = f_On_toWhom a1 σ := by
  unfold f_On_toWhom
  delta ev_On_toWhom kk_On_toWhom n_On_isWithin n_On_think n_Li_wake n_Li_spreadIn
  generalize f_On_isWithin = c0
  generalize f_On_think = c1
  generalize f_Li_wake = c2
  generalize f_Li_spreadIn = c3
  generalize f_On_toWhom_21 = c4
  rfl
theorem d_On_toWhom : cd_On_toWhom.all (sv_dk cX11_toWhom) = true := by decide +kernel
set_option maxRecDepth 20000 in
theorem w_On_toWhom_91 {Γ : sv_Ga} {res : Int32 × sv_S} (X : sv_Ok Γ ev_On_toWhom cX11_toWhom sv_rI res) (k21 : Int32 → Int32 → Int32 → Int32 → sv_S → Option (Int32 × sv_S)) (h21 : ∀ (x1 : Int32) (x2 : Int32) (x3 : Int32) (x4 : Int32) (z5 : Option sv_V) (σ : sv_S), k21 x1 x2 x3 x4 σ = some res → sv_T Γ 21 [some (.inr (.inr (some (0, 0)))), some (.inl x1), some (.inl x2), some (.inl x3), some (.inl x4), z5] [] σ) : ∀ (x1 : Int32) (x4 : Int32) (x5 : Int32) (z2 z3 : Option sv_V) (σ : sv_S), f_On_toWhom_91 k21 x1 x4 x5 σ = some res → sv_T Γ 91 [some (.inr (.inr (some (0, 0)))), some (.inl x1), z2, z3, some (.inl x4), some (.inl x5)] [] σ := by
  intro x1 x4 x5 z2 z3 σ h
  refine sv_run X d_On_toWhom (K := kk_On_toWhom_91 k21) (sv_lk_all (P := fun pc (k : sv_Lo → List sv_V → sv_S → Option (Int32 × sv_S)) => ∀ lo st σ, k lo st σ = some res → sv_T Γ pc lo st σ) ?_) _ _ _ _ _ ((e_On_toWhom_91 k21 x1 x4 x5 z2 z3 σ).trans h)
  clear h
  refine List.forall_mem_cons.mpr ⟨fun lo st σ h => ?_, fun _ h => absurd h List.not_mem_nil⟩
  · dsimp only at h
    split at h
    · exact h21 _ _ _ _ _ _ h
    · cases h

set_option maxRecDepth 20000 in
theorem w_On_toWhom_21 {Γ : sv_Ga} {res : Int32 × sv_S} (X : sv_Ok Γ ev_On_toWhom cX11_toWhom sv_rI res) : ∀ (n : Nat) (x1 : Int32) (x2 : Int32) (x3 : Int32) (x4 : Int32) (z5 : Option sv_V) (σ : sv_S), f_On_toWhom_21 n x1 x2 x3 x4 σ = some res → sv_T Γ 21 [some (.inr (.inr (some (0, 0)))), some (.inl x1), some (.inl x2), some (.inl x3), some (.inl x4), z5] [] σ := by
  intro n
  induction n with
  | zero =>
    intro x1 x2 x3 x4 z5 σ h
    rw [f_On_toWhom_21.eq_1] at h
    cases h
  | succ n ih =>
    intro x1 x2 x3 x4 z5 σ h
    refine sv_run X d_On_toWhom (K := kk_On_toWhom_21 n) (sv_lk_all (P := fun pc (k : sv_Lo → List sv_V → sv_S → Option (Int32 × sv_S)) => ∀ lo st σ, k lo st σ = some res → sv_T Γ pc lo st σ) ?_) _ _ _ _ _ ((e_On_toWhom_21 n x1 x2 x3 x4 z5 σ).trans h)
    clear h
    refine List.forall_mem_cons.mpr ⟨fun lo st σ h => ?_, List.forall_mem_cons.mpr ⟨fun lo st σ h => ?_, fun _ h => absurd h List.not_mem_nil⟩⟩
    · dsimp only at h
      split at h
      · exact ih _ _ _ _ _ _ h
      · cases h
    · dsimp only at h
      split at h
      · exact w_On_toWhom_91 X _ ih _ _ _ _ _ _ h
      · cases h

set_option maxRecDepth 20000 in
theorem b_On_toWhom (Γ : sv_Ga) (res : Int32 × sv_S) (X : sv_Ok Γ ev_On_toWhom cX11_toWhom sv_rI res) (as : List sv_V) (σ : sv_S) (h : n_On_toWhom as σ = some res) : sv_T Γ 0 (sv_e0 6 as) [] σ := by
  unfold n_On_toWhom at h
  split at h
  · refine sv_run X d_On_toWhom (K := kk_On_toWhom) (sv_lk_all (P := fun pc (k : sv_Lo → List sv_V → sv_S → Option (Int32 × sv_S)) => ∀ lo st σ, k lo st σ = some res → sv_T Γ pc lo st σ) ?_) _ _ _ _ _ ((e_On_toWhom _ _).trans h)
    clear h
    refine List.forall_mem_cons.mpr ⟨fun lo st σ h => ?_, fun _ h => absurd h List.not_mem_nil⟩
    · dsimp only at h
      split at h
      · exact w_On_toWhom_21 X _ _ _ _ _ _ _ h
      · cases h
  · cases h
theorem a_On_toWhom (as : List sv_V) (σ : sv_S) (x : Int32 × sv_S) (h : n_On_toWhom as σ = some x) : sv_args 6 ev_On_toWhom.2.2.2.1 as := by
  unfold n_On_toWhom at h
  split at h
  · exact ⟨Nat.le_of_ble_eq_true rfl, fun _ v hv => by
      simp only [List.mem_cons, List.not_mem_nil, or_false] at hv
      rcases hv with rfl | rfl <;> trivial⟩
  · cases h
theorem g_On_toWhom (as : List sv_V) (σ : sv_S) (x : Option sv_V × sv_S) (h : sv_gI n_On_toWhom as σ = some x) : ∃ r i as', as = sv_R r i :: as' ∧ sv_kd r i = .inl 11 := by
  obtain ⟨_, _, h, -⟩ := sv_b_some h
  unfold n_On_toWhom at h
  split at h
  · exact ⟨_, _, _, rfl, rfl⟩
  · cases h

set_option maxRecDepth 20000 in
theorem m_On_toWhom (l : Launch) : sv_M l yX11_toWhom cX11_toWhom 6 (some .int) (sv_gI n_On_toWhom) 7 := by
  refine sv_mI (E := ev_On_toWhom) (by decide +kernel) (ln_gen fk_11 kk_11 gk_11) rfl ?_ a_On_toWhom b_On_toWhom
  intro p e R s m args below meth c cells slots Q base ad dC dI cA n0 S hkn hR hf pc n f hcs
  refine sv_lk_all (P := fun pc (x : Nat × sv_F) => sv_cok p l e R s m args below meth c cells slots Q base ad dC dI cA true 6 n0 pc x.1 x.2) ?_ pc (n, f) hcs
  exact List.forall_mem_cons.mpr ⟨(sv_cS S hkn (m_On_isWithin l) ⟨Nat.le_trans (by decide) hR.1, Nat.le_trans (by decide) hR.2⟩ (by decide) hf (sv_w4 tw_327 tw_328 tw_53 tw_329) (by decide +kernel) (sv_dc3 d_On_toWhom (pc := 4) rfl rfl)).I,
      List.forall_mem_cons.mpr ⟨(sv_cV S hkn (m_On_think l) ⟨Nat.le_trans (by decide) hR.1, Nat.le_trans (by decide) hR.2⟩ (by decide) hf rfl (g_On_think) (sv_w5 tw_548 tw_550 tw_1 tw_53 tw_551) (by decide +kernel) (sv_dc3 d_On_toWhom (pc := 50) rfl rfl)).V,
      List.forall_mem_cons.mpr ⟨(sv_cV S hkn (m_Li_wake l) ⟨Nat.le_trans (by decide) hR.1, Nat.le_trans (by decide) hR.2⟩ (by decide) hf rfl (g_Li_wake) (sv_w5 tw_507 tw_508 tw_509 tw_60 tw_510) (by decide +kernel) (sv_dc3 d_On_toWhom (pc := 59) rfl rfl)).V,
      List.forall_mem_cons.mpr ⟨(sv_cV S hkn (m_Li_spreadIn l) ⟨Nat.le_trans (by decide) hR.1, Nat.le_trans (by decide) hR.2⟩ (by decide) hf rfl (g_Li_spreadIn) (sv_w5 tw_581 tw_582 tw_583 tw_60 tw_584) (by decide +kernel) (sv_dc3 d_On_toWhom (pc := 67) rfl rfl)).I,
      fun _ h => absurd h List.not_mem_nil⟩⟩⟩⟩
noncomputable def f_On_findMend_33 (k18 : Int32 → Int32 → Int32 → Int32 → sv_S → Option (Int32 × sv_S)) : Nat → Int32 → Int32 → Int32 → Int32 → Int32 → sv_S → Option (Int32 × sv_S)
  | 0, _, _, _, _, _, _ => none
  | n + 1, x1, x2, x3, x4, x5, σ =>
    sv_if ((9 : Int32) < x5)
      (k18 x1 x2 x3 (x4 + (1 : Int32)) σ)
      (sv_g (sv_in x4 10) (sv_if (x5 = (σ 2 (10 * 0 + (x4.toNatClampNeg)) 1))
        (f_On_findMend_33 k18 n x1 x2 x3 x4 (x5 + (1 : Int32)) σ)
        (sv_b0 (f_On_think σ) (fun σ1 =>
          sv_g (sv_in x4 10) (let σ2 := sv_up σ1 2 (10 * 2 + (x4.toNatClampNeg)) 1 x5
          sv_b (f_Li_mostAtOnce 2 x1 σ2) (fun v3 σ4 =>
            sv_if (v3 ≤ x2)
              (f_On_findMend_33 k18 n x1 x2 x3 x4 (x5 + (1 : Int32)) σ4)
              (sv_g (sv_in (0 : Int32) 3) (sv_g (sv_in (1 : Int32) 3) (sv_g (sv_in (2 : Int32) 3) (f_On_findMend_33 k18 n x1 v3 (1 : Int32) x4 (x5 + (1 : Int32)) (sv_up (sv_up (sv_up σ4 17 0 ((0 : Int32).toNatClampNeg) x4) 17 0 ((1 : Int32).toNatClampNeg) x5) 17 0 ((2 : Int32).toNatClampNeg) v3)))))))))))
noncomputable def f_On_findMend_18 : Nat → Int32 → Int32 → Int32 → Int32 → sv_S → Option (Int32 × sv_S)
  | 0, _, _, _, _, _ => none
  | n + 1, x1, x2, x3, x4, σ =>
    sv_if ((σ 1 0 4) ≤ x4)
      (sv_g (x3 = 0 ∨ x3 = 1) (some (x3, σ)))
      (f_On_findMend_33 (f_On_findMend_18 n) sv_fu x1 x2 x3 x4 (1 : Int32) σ)
noncomputable def f_On_findMend (a1 : Int32) (σ : sv_S) : Option (Int32 × sv_S) :=
  sv_b0 (f_On_think σ) (fun σ1 =>
    sv_b (f_Li_mostAtOnce 2 a1 σ1) (fun v2 σ3 =>
      f_On_findMend_18 sv_fu a1 v2 (0 : Int32) (0 : Int32) σ3))
noncomputable def n_On_findMend : List sv_V → sv_S → Option (Int32 × sv_S)
  | [.inr (.inr (some (0, 0))), .inl a1], σ => f_On_findMend a1 σ
  | _, _ => none
def cd_On_findMend : sv_C := [(0, (.aload_n 0, (sv_N, (1, (0, []))))), (1, (.invokevirtual 186, (sv_N, (4, (0, []))))), (4, (.aload_n 0, (sv_N, (5, (0, []))))), (5, (.getfield 39, (sv_N, (8, (0, []))))), (8, (.iload_n 1, (sv_N, (9, (0, []))))), (9, (.invokevirtual 326, (sv_N, (12, (0, []))))), (12, (.istore_n 2, (sv_N, (13, (0, []))))), (13, (.iconst 0, (.inl (0 : Int32), (14, (0, []))))), (14, (.istore_n 3, (sv_N, (15, (0, []))))), (15, (.iconst 0, (.inl (0 : Int32), (16, (0, []))))), (16, (.istore 4, (sv_N, (18, (0, []))))), (18, (.iload 4, (sv_N, (20, (0, []))))), (20, (.aload_n 0, (sv_N, (21, (0, []))))), (21, (.getfield 30, (sv_N, (24, (0, []))))), (24, (.getfield 88, (sv_N, (27, (0, []))))), (27, (.if_icmp .ge 107, (sv_N, (30, (134, []))))), (30, (.iconst 1, (.inl (1 : Int32), (31, (0, []))))), (31, (.istore 5, (sv_N, (33, (0, []))))), (33, (.iload 5, (sv_N, (35, (0, []))))), (35, (.bipush 9, (.inl (9 : Int32), (37, (0, []))))), (37, (.if_icmp .gt 91, (sv_N, (40, (128, []))))), (40, (.iload 5, (sv_N, (42, (0, []))))), (42, (.aload_n 0, (sv_N, (43, (0, []))))), (43, (.getfield 30, (sv_N, (46, (0, []))))), (46, (.getfield 100, (sv_N, (49, (0, []))))), (49, (.iload 4, (sv_N, (51, (0, []))))), (51, (.aaload, (sv_N, (52, (0, []))))), (52, (.getfield 106, (sv_N, (55, (0, []))))), (55, (.if_icmp .eq 67, (sv_N, (58, (122, []))))), (58, (.aload_n 0, (sv_N, (59, (0, []))))), (59, (.invokevirtual 186, (sv_N, (62, (0, []))))), (62, (.aload_n 0, (sv_N, (63, (0, []))))), (63, (.getfield 39, (sv_N, (66, (0, []))))), (66, (.getfield 100, (sv_N, (69, (0, []))))), (69, (.iload 4, (sv_N, (71, (0, []))))), (71, (.aaload, (sv_N, (72, (0, []))))), (72, (.iload 5, (sv_N, (74, (0, []))))), (74, (.putfield 106, (sv_N, (77, (0, []))))), (77, (.aload_n 0, (sv_N, (78, (0, []))))), (78, (.getfield 39, (sv_N, (81, (0, []))))), (81, (.iload_n 1, (sv_N, (82, (0, []))))), (82, (.invokevirtual 326, (sv_N, (85, (0, []))))), (85, (.istore 6, (sv_N, (87, (0, []))))), (87, (.iload 6, (sv_N, (89, (0, []))))), (89, (.iload_n 2, (sv_N, (90, (0, []))))), (90, (.if_icmp .le 32, (sv_N, (93, (122, []))))), (93, (.iload 6, (sv_N, (95, (0, []))))), (95, (.istore_n 2, (sv_N, (96, (0, []))))), (96, (.iconst 1, (.inl (1 : Int32), (97, (0, []))))), (97, (.istore_n 3, (sv_N, (98, (0, []))))), (98, (.aload_n 0, (sv_N, (99, (0, []))))), (99, (.getfield 76, (sv_N, (102, (0, []))))), (102, (.iconst 0, (.inl (0 : Int32), (103, (0, []))))), (103, (.iload 4, (sv_N, (105, (0, []))))), (105, (.iastore, (sv_N, (106, (0, []))))), (106, (.aload_n 0, (sv_N, (107, (0, []))))), (107, (.getfield 76, (sv_N, (110, (0, []))))), (110, (.iconst 1, (.inl (1 : Int32), (111, (0, []))))), (111, (.iload 5, (sv_N, (113, (0, []))))), (113, (.iastore, (sv_N, (114, (0, []))))), (114, (.aload_n 0, (sv_N, (115, (0, []))))), (115, (.getfield 76, (sv_N, (118, (0, []))))), (118, (.iconst 2, (.inl (2 : Int32), (119, (0, []))))), (119, (.iload 6, (sv_N, (121, (0, []))))), (121, (.iastore, (sv_N, (122, (0, []))))), (122, (.iinc 5 1, (.inl (1 : Int32), (125, (0, []))))), (125, (.goto (-92), (sv_N, (128, (33, []))))), (128, (.iinc 4 1, (.inl (1 : Int32), (131, (0, []))))), (131, (.goto (-113), (sv_N, (134, (18, []))))), (134, (.iload_n 3, (sv_N, (135, (0, []))))), (135, (.ireturn, (sv_N, (136, (0, [])))))]
noncomputable def ev_On_findMend : sv_E := (fun i => sv_lk i fl_11, (fun i => sv_lk i kc_11, (fun i => bif Nat.beq i 166 then 1 else 0, (true, (fun pc => sv_lk pc [(1, (1, .inr (.inl n_On_think))), (9, (2, .inl n_Li_mostAtOnce)), (59, (1, .inr (.inl n_On_think))), (82, (2, .inl n_Li_mostAtOnce))], none)))))
noncomputable def kk_On_findMend_33 (k18 : Int32 → Int32 → Int32 → Int32 → sv_S → Option (Int32 × sv_S)) (n : Nat) : sv_K (Int32 × sv_S) := fun pc => sv_lk pc [(18, fun lo st σ => match lo, st with
    | [some (.inr (.inr (some (0, 0)))), some (.inl x1), some (.inl x2), some (.inl x3), some (.inl x4), _, _], [] => k18 x1 x2 x3 x4 σ
    | _, _ => none),
  (33, fun lo st σ => match lo, st with
    | [some (.inr (.inr (some (0, 0)))), some (.inl x1), some (.inl x2), some (.inl x3), some (.inl x4), some (.inl x5), _], [] => f_On_findMend_33 k18 n x1 x2 x3 x4 x5 σ
    | _, _ => none)]
set_option maxRecDepth 20000 in
theorem e_On_findMend_33 (k18 : Int32 → Int32 → Int32 → Int32 → sv_S → Option (Int32 × sv_S)) (n : Nat) (x1 : Int32) (x2 : Int32) (x3 : Int32) (x4 : Int32) (x5 : Int32) (z6 : Option sv_V) (σ : sv_S) : sv_ex ev_On_findMend sv_rZ (kk_On_findMend_33 k18 n) cd_On_findMend 73 33 [some (.inr (.inr (some (0, 0)))), some (.inl x1), some (.inl x2), some (.inl x3), some (.inl x4), some (.inl x5), z6] [] σ = f_On_findMend_33 k18 (n + 1) x1 x2 x3 x4 x5 σ := by
  rw [f_On_findMend_33.eq_2]
  delta ev_On_findMend kk_On_findMend_33 n_On_think n_Li_mostAtOnce
  generalize f_On_think = c0
  generalize f_Li_mostAtOnce = c1
  generalize f_On_findMend_18 = c2
  generalize f_On_findMend_33 = c3
  rfl
noncomputable def kk_On_findMend_18 (n : Nat) : sv_K (Int32 × sv_S) := fun pc => sv_lk pc [(33, fun lo st σ => match lo, st with
    | [some (.inr (.inr (some (0, 0)))), some (.inl x1), some (.inl x2), some (.inl x3), some (.inl x4), some (.inl x5), _], [] => f_On_findMend_33 (f_On_findMend_18 n) sv_fu x1 x2 x3 x4 x5 σ
    | _, _ => none)]
set_option maxRecDepth 20000 in
theorem e_On_findMend_18 (n : Nat) (x1 : Int32) (x2 : Int32) (x3 : Int32) (x4 : Int32) (z5 z6 : Option sv_V) (σ : sv_S) : sv_ex ev_On_findMend sv_rZ (kk_On_findMend_18 n) cd_On_findMend 73 18 [some (.inr (.inr (some (0, 0)))), some (.inl x1), some (.inl x2), some (.inl x3), some (.inl x4), z5, z6] [] σ = f_On_findMend_18 (n + 1) x1 x2 x3 x4 σ := by
  rw [f_On_findMend_18.eq_2]
  delta ev_On_findMend kk_On_findMend_18 n_On_think n_Li_mostAtOnce
  generalize f_On_think = c0
  generalize f_Li_mostAtOnce = c1
  generalize f_On_findMend_33 = c2
  generalize f_On_findMend_18 = c3
  rfl
noncomputable def kk_On_findMend : sv_K (Int32 × sv_S) := fun pc => sv_lk pc [(18, fun lo st σ => match lo, st with
    | [some (.inr (.inr (some (0, 0)))), some (.inl x1), some (.inl x2), some (.inl x3), some (.inl x4), _, _], [] => f_On_findMend_18 sv_fu x1 x2 x3 x4 σ
    | _, _ => none)]
set_option maxRecDepth 20000 in
theorem e_On_findMend (a1 : Int32) (σ : sv_S) : sv_ex ev_On_findMend sv_rZ kk_On_findMend cd_On_findMend 73 0 [some (.inr (.inr (some (0, 0)))), some (.inl a1), none, none, none, none, none] [] σ = f_On_findMend a1 σ := by
  unfold f_On_findMend
  delta ev_On_findMend kk_On_findMend n_On_think n_Li_mostAtOnce
  generalize f_On_think = c0
  generalize f_Li_mostAtOnce = c1
  generalize f_On_findMend_18 = c2
  rfl
theorem d_On_findMend : cd_On_findMend.all (sv_dk cX11_findMend) = true := by decide +kernel
set_option maxRecDepth 20000 in
theorem w_On_findMend_33 {Γ : sv_Ga} {res : Int32 × sv_S} (X : sv_Ok Γ ev_On_findMend cX11_findMend sv_rZ res) (k18 : Int32 → Int32 → Int32 → Int32 → sv_S → Option (Int32 × sv_S)) (h18 : ∀ (x1 : Int32) (x2 : Int32) (x3 : Int32) (x4 : Int32) (z5 z6 : Option sv_V) (σ : sv_S), k18 x1 x2 x3 x4 σ = some res → sv_T Γ 18 [some (.inr (.inr (some (0, 0)))), some (.inl x1), some (.inl x2), some (.inl x3), some (.inl x4), z5, z6] [] σ) : ∀ (n : Nat) (x1 : Int32) (x2 : Int32) (x3 : Int32) (x4 : Int32) (x5 : Int32) (z6 : Option sv_V) (σ : sv_S), f_On_findMend_33 k18 n x1 x2 x3 x4 x5 σ = some res → sv_T Γ 33 [some (.inr (.inr (some (0, 0)))), some (.inl x1), some (.inl x2), some (.inl x3), some (.inl x4), some (.inl x5), z6] [] σ := by
  intro n
  induction n with
  | zero =>
    intro x1 x2 x3 x4 x5 z6 σ h
    rw [f_On_findMend_33.eq_1] at h
    cases h
  | succ n ih =>
    intro x1 x2 x3 x4 x5 z6 σ h
    refine sv_run X d_On_findMend (K := kk_On_findMend_33 k18 n) (sv_lk_all (P := fun pc (k : sv_Lo → List sv_V → sv_S → Option (Int32 × sv_S)) => ∀ lo st σ, k lo st σ = some res → sv_T Γ pc lo st σ) ?_) _ _ _ _ _ ((e_On_findMend_33 k18 n x1 x2 x3 x4 x5 z6 σ).trans h)
    clear h
    refine List.forall_mem_cons.mpr ⟨fun lo st σ h => ?_, List.forall_mem_cons.mpr ⟨fun lo st σ h => ?_, fun _ h => absurd h List.not_mem_nil⟩⟩
    · dsimp only at h
      split at h
      · exact h18 _ _ _ _ _ _ _ h
      · cases h
    · dsimp only at h
      split at h
      · exact ih _ _ _ _ _ _ _ h
      · cases h

set_option maxRecDepth 20000 in
theorem w_On_findMend_18 {Γ : sv_Ga} {res : Int32 × sv_S} (X : sv_Ok Γ ev_On_findMend cX11_findMend sv_rZ res) : ∀ (n : Nat) (x1 : Int32) (x2 : Int32) (x3 : Int32) (x4 : Int32) (z5 z6 : Option sv_V) (σ : sv_S), f_On_findMend_18 n x1 x2 x3 x4 σ = some res → sv_T Γ 18 [some (.inr (.inr (some (0, 0)))), some (.inl x1), some (.inl x2), some (.inl x3), some (.inl x4), z5, z6] [] σ := by
  intro n
  induction n with
  | zero =>
    intro x1 x2 x3 x4 z5 z6 σ h
    rw [f_On_findMend_18.eq_1] at h
    cases h
  | succ n ih =>
    intro x1 x2 x3 x4 z5 z6 σ h
    refine sv_run X d_On_findMend (K := kk_On_findMend_18 n) (sv_lk_all (P := fun pc (k : sv_Lo → List sv_V → sv_S → Option (Int32 × sv_S)) => ∀ lo st σ, k lo st σ = some res → sv_T Γ pc lo st σ) ?_) _ _ _ _ _ ((e_On_findMend_18 n x1 x2 x3 x4 z5 z6 σ).trans h)
    clear h
    refine List.forall_mem_cons.mpr ⟨fun lo st σ h => ?_, fun _ h => absurd h List.not_mem_nil⟩
    · dsimp only at h
      split at h
      · exact w_On_findMend_33 X _ ih _ _ _ _ _ _ _ _ h
      · cases h

set_option maxRecDepth 20000 in
theorem b_On_findMend (Γ : sv_Ga) (res : Int32 × sv_S) (X : sv_Ok Γ ev_On_findMend cX11_findMend sv_rZ res) (as : List sv_V) (σ : sv_S) (h : n_On_findMend as σ = some res) : sv_T Γ 0 (sv_e0 7 as) [] σ := by
  unfold n_On_findMend at h
  split at h
  · refine sv_run X d_On_findMend (K := kk_On_findMend) (sv_lk_all (P := fun pc (k : sv_Lo → List sv_V → sv_S → Option (Int32 × sv_S)) => ∀ lo st σ, k lo st σ = some res → sv_T Γ pc lo st σ) ?_) _ _ _ _ _ ((e_On_findMend _ _).trans h)
    clear h
    refine List.forall_mem_cons.mpr ⟨fun lo st σ h => ?_, fun _ h => absurd h List.not_mem_nil⟩
    · dsimp only at h
      split at h
      · exact w_On_findMend_18 X _ _ _ _ _ _ _ _ h
      · cases h
  · cases h
theorem a_On_findMend (as : List sv_V) (σ : sv_S) (x : Int32 × sv_S) (h : n_On_findMend as σ = some x) : sv_args 7 ev_On_findMend.2.2.2.1 as := by
  unfold n_On_findMend at h
  split at h
  · exact ⟨Nat.le_of_ble_eq_true rfl, fun _ v hv => by
      simp only [List.mem_cons, List.not_mem_nil, or_false] at hv
      rcases hv with rfl | rfl <;> trivial⟩
  · cases h
theorem g_On_findMend (as : List sv_V) (σ : sv_S) (x : Option sv_V × sv_S) (h : sv_gI n_On_findMend as σ = some x) : ∃ r i as', as = sv_R r i :: as' ∧ sv_kd r i = .inl 11 := by
  obtain ⟨_, _, h, -⟩ := sv_b_some h
  unfold n_On_findMend at h
  split at h
  · exact ⟨_, _, _, rfl, rfl⟩
  · cases h
theorem tw_599 : Cond.methodLink RX11 326 yX5_mostAtOnce ∈ gw_tbl := gw_at 599 (by decide +kernel) rfl
theorem tw_600 : Cond.instanceMethod yX5_mostAtOnce ∈ gw_tbl := gw_at 600 (by decide +kernel) rfl
theorem tw_601 : Cond.selects RX5 yX5_mostAtOnce yX5_mostAtOnce ∈ gw_tbl := gw_at 601 (by decide +kernel) rfl
theorem tw_602 : Cond.code yX5_mostAtOnce cX5_mostAtOnce 4 (some .int) ∈ gw_tbl := gw_at 602 (by decide +kernel) rfl
set_option maxRecDepth 20000 in
theorem m_On_findMend (l : Launch) : sv_M l yX11_findMend cX11_findMend 7 (some .boolean) (sv_gI n_On_findMend) 6 := by
  refine sv_mZ (E := ev_On_findMend) (by decide +kernel) (ln_gen fk_11 kk_11 gk_11) rfl ?_ a_On_findMend b_On_findMend
  intro p e R s m args below meth c cells slots Q base ad dC dI cA n0 S hkn hR hf pc n f hcs
  refine sv_lk_all (P := fun pc (x : Nat × sv_F) => sv_cok p l e R s m args below meth c cells slots Q base ad dC dI cA true 7 n0 pc x.1 x.2) ?_ pc (n, f) hcs
  exact List.forall_mem_cons.mpr ⟨(sv_cV S hkn (m_On_think l) ⟨Nat.le_trans (by decide) hR.1, Nat.le_trans (by decide) hR.2⟩ (by decide) hf rfl (g_On_think) (sv_w5 tw_548 tw_550 tw_1 tw_53 tw_551) (by decide +kernel) (sv_dc3 d_On_findMend (pc := 1) rfl rfl)).V,
      List.forall_mem_cons.mpr ⟨(sv_cV S hkn (m_Li_mostAtOnce l) ⟨Nat.le_trans (by decide) hR.1, Nat.le_trans (by decide) hR.2⟩ (by decide) hf rfl (g_Li_mostAtOnce) (sv_w5 tw_599 tw_600 tw_601 tw_60 tw_602) (by decide +kernel) (sv_dc3 d_On_findMend (pc := 9) rfl rfl)).I,
      List.forall_mem_cons.mpr ⟨(sv_cV S hkn (m_On_think l) ⟨Nat.le_trans (by decide) hR.1, Nat.le_trans (by decide) hR.2⟩ (by decide) hf rfl (g_On_think) (sv_w5 tw_548 tw_550 tw_1 tw_53 tw_551) (by decide +kernel) (sv_dc3 d_On_findMend (pc := 59) rfl rfl)).V,
      List.forall_mem_cons.mpr ⟨(sv_cV S hkn (m_Li_mostAtOnce l) ⟨Nat.le_trans (by decide) hR.1, Nat.le_trans (by decide) hR.2⟩ (by decide) hf rfl (g_Li_mostAtOnce) (sv_w5 tw_599 tw_600 tw_601 tw_60 tw_602) (by decide +kernel) (sv_dc3 d_On_findMend (pc := 82) rfl rfl)).I,
      fun _ h => absurd h List.not_mem_nil⟩⟩⟩⟩
noncomputable def f_On_mend (a1 : Int32) (a2 : Int32) (σ : sv_S) : Option (Int32 × sv_S) :=
  sv_b (f_On_isWithin a1 (1 : Int32) (40 : Int32) σ) (fun v1 σ2 =>
    sv_if (v1 = 0)
      (some ((-1000000001 : Int32), σ2))
      (sv_b (f_On_isWithin a2 (0 : Int32) (2 : Int32) σ2) (fun v3 σ4 =>
        sv_if (v3 = 0)
          (some ((-1000000001 : Int32), σ4))
          (sv_b (f_On_findMend a1 σ4) (fun v5 σ6 =>
            sv_if (v5 = 0)
              (some ((-1000000005 : Int32), σ6))
              (sv_g (sv_in a2 3) (some (σ6 17 0 (a2.toNatClampNeg), σ6))))))))
noncomputable def n_On_mend : List sv_V → sv_S → Option (Int32 × sv_S)
  | [.inr (.inr (some (0, 0))), .inl a1, .inl a2], σ => f_On_mend a1 a2 σ
  | _, _ => none
def cd_On_mend : sv_C := [(0, (.iload_n 1, (sv_N, (1, (0, []))))), (1, (.iconst 1, (.inl (1 : Int32), (2, (0, []))))), (2, (.bipush 40, (.inl (40 : Int32), (4, (0, []))))), (4, (.invokestatic 83, (sv_N, (7, (0, []))))), (7, (.ifCond .eq 12, (sv_N, (10, (19, []))))), (10, (.iload_n 2, (sv_N, (11, (0, []))))), (11, (.iconst 0, (.inl (0 : Int32), (12, (0, []))))), (12, (.iconst 2, (.inl (2 : Int32), (13, (0, []))))), (13, (.invokestatic 83, (sv_N, (16, (0, []))))), (16, (.ifCond .ne 6, (sv_N, (19, (22, []))))), (19, (.ldc 87, (sv_N, (21, (0, []))))), (21, (.ireturn, (sv_N, (22, (0, []))))), (22, (.aload_n 0, (sv_N, (23, (0, []))))), (23, (.iload_n 1, (sv_N, (24, (0, []))))), (24, (.invokevirtual 198, (sv_N, (27, (0, []))))), (27, (.ifCond .eq 12, (sv_N, (30, (39, []))))), (30, (.aload_n 0, (sv_N, (31, (0, []))))), (31, (.getfield 76, (sv_N, (34, (0, []))))), (34, (.iload_n 2, (sv_N, (35, (0, []))))), (35, (.iaload, (sv_N, (36, (0, []))))), (36, (.goto 5, (sv_N, (39, (41, []))))), (39, (.ldc 124, (sv_N, (41, (0, []))))), (41, (.ireturn, (sv_N, (42, (0, [])))))]
noncomputable def ev_On_mend : sv_E := (fun i => sv_lk i fl_11, (fun i => sv_lk i kc_11, (fun i => bif Nat.beq i 166 then 1 else 0, (true, (fun pc => sv_lk pc [(4, (3, .inl n_On_isWithin)), (13, (3, .inl n_On_isWithin)), (24, (2, .inl n_On_findMend))], none)))))
noncomputable def kk_On_mend : sv_K (Int32 × sv_S) := fun pc => sv_lk pc []
set_option maxRecDepth 20000 in
theorem e_On_mend (a1 : Int32) (a2 : Int32) (σ : sv_S) : sv_ex ev_On_mend sv_rI kk_On_mend cd_On_mend 25 0 [some (.inr (.inr (some (0, 0)))), some (.inl a1), some (.inl a2)] [] σ = f_On_mend a1 a2 σ := by
  unfold f_On_mend
  delta ev_On_mend kk_On_mend n_On_isWithin n_On_findMend
  generalize f_On_isWithin = c0
  generalize f_On_findMend = c1
  rfl
theorem d_On_mend : cd_On_mend.all (sv_dk cX11_mend) = true := by decide +kernel
set_option maxRecDepth 20000 in
theorem b_On_mend (Γ : sv_Ga) (res : Int32 × sv_S) (X : sv_Ok Γ ev_On_mend cX11_mend sv_rI res) (as : List sv_V) (σ : sv_S) (h : n_On_mend as σ = some res) : sv_T Γ 0 (sv_e0 3 as) [] σ := by
  unfold n_On_mend at h
  split at h
  · refine sv_run X d_On_mend (K := kk_On_mend) (sv_lk_all (P := fun pc (k : sv_Lo → List sv_V → sv_S → Option (Int32 × sv_S)) => ∀ lo st σ, k lo st σ = some res → sv_T Γ pc lo st σ) ?_) _ _ _ _ _ ((e_On_mend _ _ _).trans h)
    clear h
    exact fun _ h => absurd h List.not_mem_nil
  · cases h
theorem a_On_mend (as : List sv_V) (σ : sv_S) (x : Int32 × sv_S) (h : n_On_mend as σ = some x) : sv_args 3 ev_On_mend.2.2.2.1 as := by
  unfold n_On_mend at h
  split at h
  · exact ⟨Nat.le_of_ble_eq_true rfl, fun _ v hv => by
      simp only [List.mem_cons, List.not_mem_nil, or_false] at hv
      rcases hv with rfl | rfl | rfl <;> trivial⟩
  · cases h
theorem g_On_mend (as : List sv_V) (σ : sv_S) (x : Option sv_V × sv_S) (h : sv_gI n_On_mend as σ = some x) : ∃ r i as', as = sv_R r i :: as' ∧ sv_kd r i = .inl 11 := by
  obtain ⟨_, _, h, -⟩ := sv_b_some h
  unfold n_On_mend at h
  split at h
  · exact ⟨_, _, _, rfl, rfl⟩
  · cases h
theorem tw_2 : Cond.selects RX11 yX11_findMend yX11_findMend ∈ gw_tbl := gw_at 2 (by decide +kernel) rfl
theorem tw_595 : Cond.methodLink RX11 198 yX11_findMend ∈ gw_tbl := gw_at 595 (by decide +kernel) rfl
theorem tw_597 : Cond.instanceMethod yX11_findMend ∈ gw_tbl := gw_at 597 (by decide +kernel) rfl
theorem tw_598 : Cond.code yX11_findMend cX11_findMend 7 (some .boolean) ∈ gw_tbl := gw_at 598 (by decide +kernel) rfl
set_option maxRecDepth 20000 in
theorem m_On_mend (l : Launch) : sv_M l yX11_mend cX11_mend 3 (some .int) (sv_gI n_On_mend) 7 := by
  refine sv_mI (E := ev_On_mend) (by decide +kernel) (ln_gen fk_11 kk_11 gk_11) rfl ?_ a_On_mend b_On_mend
  intro p e R s m args below meth c cells slots Q base ad dC dI cA n0 S hkn hR hf pc n f hcs
  refine sv_lk_all (P := fun pc (x : Nat × sv_F) => sv_cok p l e R s m args below meth c cells slots Q base ad dC dI cA true 3 n0 pc x.1 x.2) ?_ pc (n, f) hcs
  exact List.forall_mem_cons.mpr ⟨(sv_cS S hkn (m_On_isWithin l) ⟨Nat.le_trans (by decide) hR.1, Nat.le_trans (by decide) hR.2⟩ (by decide) hf (sv_w4 tw_327 tw_328 tw_53 tw_329) (by decide +kernel) (sv_dc3 d_On_mend (pc := 4) rfl rfl)).I,
      List.forall_mem_cons.mpr ⟨(sv_cS S hkn (m_On_isWithin l) ⟨Nat.le_trans (by decide) hR.1, Nat.le_trans (by decide) hR.2⟩ (by decide) hf (sv_w4 tw_327 tw_328 tw_53 tw_329) (by decide +kernel) (sv_dc3 d_On_mend (pc := 13) rfl rfl)).I,
      List.forall_mem_cons.mpr ⟨(sv_cV S hkn (m_On_findMend l) ⟨Nat.le_trans (by decide) hR.1, Nat.le_trans (by decide) hR.2⟩ (by decide) hf rfl (g_On_findMend) (sv_w5 tw_595 tw_597 tw_2 tw_53 tw_598) (by decide +kernel) (sv_dc3 d_On_mend (pc := 24) rfl rfl)).I,
      fun _ h => absurd h List.not_mem_nil⟩⟩⟩
noncomputable def f_On_far (a1 : Int32) (a2 : Int32) (σ : sv_S) : Option (Int32 × sv_S) :=
  sv_b (f_On_isDrummer a1 σ) (fun v1 σ2 =>
    sv_if (v1 = 0)
      (some ((-1000000001 : Int32), σ2))
      (sv_b (f_On_isDrummer a2 σ2) (fun v3 σ4 =>
        sv_if (v3 = 0)
          (some ((-1000000001 : Int32), σ4))
          (sv_b (f_Li_beatsBetween 0 a1 a2 σ4) (fun v5 σ6 =>
            some (v5, σ6))))))
noncomputable def n_On_far : List sv_V → sv_S → Option (Int32 × sv_S)
  | [.inr (.inr (some (0, 0))), .inl a1, .inl a2], σ => f_On_far a1 a2 σ
  | _, _ => none
def cd_On_far : sv_C := [(0, (.aload_n 0, (sv_N, (1, (0, []))))), (1, (.iload_n 1, (sv_N, (2, (0, []))))), (2, (.invokevirtual 97, (sv_N, (5, (0, []))))), (5, (.ifCond .eq 23, (sv_N, (8, (28, []))))), (8, (.aload_n 0, (sv_N, (9, (0, []))))), (9, (.iload_n 2, (sv_N, (10, (0, []))))), (10, (.invokevirtual 97, (sv_N, (13, (0, []))))), (13, (.ifCond .eq 15, (sv_N, (16, (28, []))))), (16, (.aload_n 0, (sv_N, (17, (0, []))))), (17, (.getfield 30, (sv_N, (20, (0, []))))), (20, (.iload_n 1, (sv_N, (21, (0, []))))), (21, (.iload_n 2, (sv_N, (22, (0, []))))), (22, (.invokevirtual 201, (sv_N, (25, (0, []))))), (25, (.goto 5, (sv_N, (28, (30, []))))), (28, (.ldc 87, (sv_N, (30, (0, []))))), (30, (.ireturn, (sv_N, (31, (0, [])))))]
noncomputable def ev_On_far : sv_E := (fun i => sv_lk i fl_11, (fun i => sv_lk i kc_11, (fun i => bif Nat.beq i 166 then 1 else 0, (true, (fun pc => sv_lk pc [(2, (2, .inl n_On_isDrummer)), (10, (2, .inl n_On_isDrummer)), (22, (3, .inl n_Li_beatsBetween))], none)))))
noncomputable def kk_On_far : sv_K (Int32 × sv_S) := fun pc => sv_lk pc []
set_option maxRecDepth 20000 in
theorem e_On_far (a1 : Int32) (a2 : Int32) (σ : sv_S) : sv_ex ev_On_far sv_rI kk_On_far cd_On_far 18 0 [some (.inr (.inr (some (0, 0)))), some (.inl a1), some (.inl a2)] [] σ = f_On_far a1 a2 σ := by
  unfold f_On_far
  delta ev_On_far kk_On_far n_On_isDrummer n_Li_beatsBetween
  generalize f_On_isDrummer = c0
  generalize f_Li_beatsBetween = c1
  rfl
theorem d_On_far : cd_On_far.all (sv_dk cX11_far) = true := by decide +kernel
set_option maxRecDepth 20000 in
theorem b_On_far (Γ : sv_Ga) (res : Int32 × sv_S) (X : sv_Ok Γ ev_On_far cX11_far sv_rI res) (as : List sv_V) (σ : sv_S) (h : n_On_far as σ = some res) : sv_T Γ 0 (sv_e0 3 as) [] σ := by
  unfold n_On_far at h
  split at h
  · refine sv_run X d_On_far (K := kk_On_far) (sv_lk_all (P := fun pc (k : sv_Lo → List sv_V → sv_S → Option (Int32 × sv_S)) => ∀ lo st σ, k lo st σ = some res → sv_T Γ pc lo st σ) ?_) _ _ _ _ _ ((e_On_far _ _ _).trans h)
    clear h
    exact fun _ h => absurd h List.not_mem_nil
  · cases h
theorem a_On_far (as : List sv_V) (σ : sv_S) (x : Int32 × sv_S) (h : n_On_far as σ = some x) : sv_args 3 ev_On_far.2.2.2.1 as := by
  unfold n_On_far at h
  split at h
  · exact ⟨Nat.le_of_ble_eq_true rfl, fun _ v hv => by
      simp only [List.mem_cons, List.not_mem_nil, or_false] at hv
      rcases hv with rfl | rfl | rfl <;> trivial⟩
  · cases h
theorem g_On_far (as : List sv_V) (σ : sv_S) (x : Option sv_V × sv_S) (h : sv_gI n_On_far as σ = some x) : ∃ r i as', as = sv_R r i :: as' ∧ sv_kd r i = .inl 11 := by
  obtain ⟨_, _, h, -⟩ := sv_b_some h
  unfold n_On_far at h
  split at h
  · exact ⟨_, _, _, rfl, rfl⟩
  · cases h
theorem tw_607 : Cond.methodLink RX11 201 yX5_beatsBetween ∈ gw_tbl := gw_at 607 (by decide +kernel) rfl
theorem tw_608 : Cond.instanceMethod yX5_beatsBetween ∈ gw_tbl := gw_at 608 (by decide +kernel) rfl
theorem tw_609 : Cond.selects RX5 yX5_beatsBetween yX5_beatsBetween ∈ gw_tbl := gw_at 609 (by decide +kernel) rfl
theorem tw_610 : Cond.code yX5_beatsBetween cX5_beatsBetween 5 (some .int) ∈ gw_tbl := gw_at 610 (by decide +kernel) rfl
set_option maxRecDepth 20000 in
theorem m_On_far (l : Launch) : sv_M l yX11_far cX11_far 3 (some .int) (sv_gI n_On_far) 2 := by
  refine sv_mI (E := ev_On_far) (by decide +kernel) (ln_gen fk_11 kk_11 gk_11) rfl ?_ a_On_far b_On_far
  intro p e R s m args below meth c cells slots Q base ad dC dI cA n0 S hkn hR hf pc n f hcs
  refine sv_lk_all (P := fun pc (x : Nat × sv_F) => sv_cok p l e R s m args below meth c cells slots Q base ad dC dI cA true 3 n0 pc x.1 x.2) ?_ pc (n, f) hcs
  exact List.forall_mem_cons.mpr ⟨(sv_cV S hkn (m_On_isDrummer l) ⟨Nat.le_trans (by decide) hR.1, Nat.le_trans (by decide) hR.2⟩ (by decide) hf rfl (g_On_isDrummer) (sv_w5 tw_348 tw_350 tw_0 tw_53 tw_351) (by decide +kernel) (sv_dc3 d_On_far (pc := 2) rfl rfl)).I,
      List.forall_mem_cons.mpr ⟨(sv_cV S hkn (m_On_isDrummer l) ⟨Nat.le_trans (by decide) hR.1, Nat.le_trans (by decide) hR.2⟩ (by decide) hf rfl (g_On_isDrummer) (sv_w5 tw_348 tw_350 tw_0 tw_53 tw_351) (by decide +kernel) (sv_dc3 d_On_far (pc := 10) rfl rfl)).I,
      List.forall_mem_cons.mpr ⟨(sv_cV S hkn (m_Li_beatsBetween l) ⟨Nat.le_trans (by decide) hR.1, Nat.le_trans (by decide) hR.2⟩ (by decide) hf rfl (g_Li_beatsBetween) (sv_w5 tw_607 tw_608 tw_609 tw_60 tw_610) (by decide +kernel) (sv_dc3 d_On_far (pc := 22) rfl rfl)).I,
      fun _ h => absurd h List.not_mem_nil⟩⟩⟩
noncomputable def f_On_reach_26 : Nat → Int32 → Int32 → Int32 → Int32 → sv_S → Option (Int32 × sv_S)
  | 0, _, _, _, _, _ => none
  | n + 1, x1, x2, x3, x4, σ =>
    sv_if ((σ 1 0 4) ≤ x4)
      (some (x3, σ))
      (sv_b (f_Li_beatsBetween 0 x1 x4 σ) (fun v1 σ2 =>
        sv_if (x2 < v1)
          (f_On_reach_26 n x1 x2 x3 (x4 + (1 : Int32)) σ2)
          (f_On_reach_26 n x1 x2 (x3 ||| ((1 : Int32) <<< (x4 &&& 31))) (x4 + (1 : Int32)) σ2)))
noncomputable def f_On_reach (a1 : Int32) (a2 : Int32) (σ : sv_S) : Option (Int32 × sv_S) :=
  sv_b (f_On_isDrummer a1 σ) (fun v1 σ2 =>
    sv_if (v1 = 0)
      (some ((-1000000001 : Int32), σ2))
      (sv_b (f_On_isWithin a2 (0 : Int32) (30 : Int32) σ2) (fun v3 σ4 =>
        sv_if (v3 = 0)
          (some ((-1000000001 : Int32), σ4))
          (f_On_reach_26 sv_fu a1 a2 (0 : Int32) (0 : Int32) σ4))))
noncomputable def n_On_reach : List sv_V → sv_S → Option (Int32 × sv_S)
  | [.inr (.inr (some (0, 0))), .inl a1, .inl a2], σ => f_On_reach a1 a2 σ
  | _, _ => none
def cd_On_reach : sv_C := [(0, (.aload_n 0, (sv_N, (1, (0, []))))), (1, (.iload_n 1, (sv_N, (2, (0, []))))), (2, (.invokevirtual 97, (sv_N, (5, (0, []))))), (5, (.ifCond .eq 13, (sv_N, (8, (18, []))))), (8, (.iload_n 2, (sv_N, (9, (0, []))))), (9, (.iconst 0, (.inl (0 : Int32), (10, (0, []))))), (10, (.bipush 30, (.inl (30 : Int32), (12, (0, []))))), (12, (.invokestatic 83, (sv_N, (15, (0, []))))), (15, (.ifCond .ne 6, (sv_N, (18, (21, []))))), (18, (.ldc 87, (sv_N, (20, (0, []))))), (20, (.ireturn, (sv_N, (21, (0, []))))), (21, (.iconst 0, (.inl (0 : Int32), (22, (0, []))))), (22, (.istore_n 3, (sv_N, (23, (0, []))))), (23, (.iconst 0, (.inl (0 : Int32), (24, (0, []))))), (24, (.istore 4, (sv_N, (26, (0, []))))), (26, (.iload 4, (sv_N, (28, (0, []))))), (28, (.aload_n 0, (sv_N, (29, (0, []))))), (29, (.getfield 30, (sv_N, (32, (0, []))))), (32, (.getfield 88, (sv_N, (35, (0, []))))), (35, (.if_icmp .ge 30, (sv_N, (38, (65, []))))), (38, (.aload_n 0, (sv_N, (39, (0, []))))), (39, (.getfield 30, (sv_N, (42, (0, []))))), (42, (.iload_n 1, (sv_N, (43, (0, []))))), (43, (.iload 4, (sv_N, (45, (0, []))))), (45, (.invokevirtual 201, (sv_N, (48, (0, []))))), (48, (.iload_n 2, (sv_N, (49, (0, []))))), (49, (.if_icmp .gt 10, (sv_N, (52, (59, []))))), (52, (.iload_n 3, (sv_N, (53, (0, []))))), (53, (.iconst 1, (.inl (1 : Int32), (54, (0, []))))), (54, (.iload 4, (sv_N, (56, (0, []))))), (56, (.ishl, (sv_N, (57, (0, []))))), (57, (.ior, (sv_N, (58, (0, []))))), (58, (.istore_n 3, (sv_N, (59, (0, []))))), (59, (.iinc 4 1, (.inl (1 : Int32), (62, (0, []))))), (62, (.goto (-36), (sv_N, (65, (26, []))))), (65, (.iload_n 3, (sv_N, (66, (0, []))))), (66, (.ireturn, (sv_N, (67, (0, [])))))]
noncomputable def ev_On_reach : sv_E := (fun i => sv_lk i fl_11, (fun i => sv_lk i kc_11, (fun i => bif Nat.beq i 166 then 1 else 0, (true, (fun pc => sv_lk pc [(2, (2, .inl n_On_isDrummer)), (12, (3, .inl n_On_isWithin)), (45, (3, .inl n_Li_beatsBetween))], none)))))
noncomputable def kk_On_reach_26 (n : Nat) : sv_K (Int32 × sv_S) := fun pc => sv_lk pc [(26, fun lo st σ => match lo, st with
    | [some (.inr (.inr (some (0, 0)))), some (.inl x1), some (.inl x2), some (.inl x3), some (.inl x4)], [] => f_On_reach_26 n x1 x2 x3 x4 σ
    | _, _ => none)]
set_option maxRecDepth 20000 in
theorem e_On_reach_26 (n : Nat) (x1 : Int32) (x2 : Int32) (x3 : Int32) (x4 : Int32) (σ : sv_S) : sv_ex ev_On_reach sv_rI (kk_On_reach_26 n) cd_On_reach 39 26 [some (.inr (.inr (some (0, 0)))), some (.inl x1), some (.inl x2), some (.inl x3), some (.inl x4)] [] σ = f_On_reach_26 (n + 1) x1 x2 x3 x4 σ := by
  rw [f_On_reach_26.eq_2]
  delta ev_On_reach kk_On_reach_26 n_On_isDrummer n_On_isWithin n_Li_beatsBetween
  generalize f_On_isDrummer = c0
  generalize f_On_isWithin = c1
  generalize f_Li_beatsBetween = c2
  generalize f_On_reach_26 = c3
  rfl
noncomputable def kk_On_reach : sv_K (Int32 × sv_S) := fun pc => sv_lk pc [(26, fun lo st σ => match lo, st with
    | [some (.inr (.inr (some (0, 0)))), some (.inl x1), some (.inl x2), some (.inl x3), some (.inl x4)], [] => f_On_reach_26 sv_fu x1 x2 x3 x4 σ
    | _, _ => none)]
set_option maxRecDepth 20000 in
theorem e_On_reach (a1 : Int32) (a2 : Int32) (σ : sv_S) : sv_ex ev_On_reach sv_rI kk_On_reach cd_On_reach 39 0 [some (.inr (.inr (some (0, 0)))), some (.inl a1), some (.inl a2), none, none] [] σ = f_On_reach a1 a2 σ := by
  unfold f_On_reach
  delta ev_On_reach kk_On_reach n_On_isDrummer n_On_isWithin n_Li_beatsBetween
  generalize f_On_isDrummer = c0
  generalize f_On_isWithin = c1
  generalize f_Li_beatsBetween = c2
  generalize f_On_reach_26 = c3
  rfl
theorem d_On_reach : cd_On_reach.all (sv_dk cX11_reach) = true := by decide +kernel
set_option maxRecDepth 20000 in
theorem w_On_reach_26 {Γ : sv_Ga} {res : Int32 × sv_S} (X : sv_Ok Γ ev_On_reach cX11_reach sv_rI res) : ∀ (n : Nat) (x1 : Int32) (x2 : Int32) (x3 : Int32) (x4 : Int32) (σ : sv_S), f_On_reach_26 n x1 x2 x3 x4 σ = some res → sv_T Γ 26 [some (.inr (.inr (some (0, 0)))), some (.inl x1), some (.inl x2), some (.inl x3), some (.inl x4)] [] σ := by
  intro n
  induction n with
  | zero =>
    intro x1 x2 x3 x4 σ h
    rw [f_On_reach_26.eq_1] at h
    cases h
  | succ n ih =>
    intro x1 x2 x3 x4 σ h
    refine sv_run X d_On_reach (K := kk_On_reach_26 n) (sv_lk_all (P := fun pc (k : sv_Lo → List sv_V → sv_S → Option (Int32 × sv_S)) => ∀ lo st σ, k lo st σ = some res → sv_T Γ pc lo st σ) ?_) _ _ _ _ _ ((e_On_reach_26 n x1 x2 x3 x4 σ).trans h)
    clear h
    refine List.forall_mem_cons.mpr ⟨fun lo st σ h => ?_, fun _ h => absurd h List.not_mem_nil⟩
    · dsimp only at h
      split at h
      · exact ih _ _ _ _ _ h
      · cases h

set_option maxRecDepth 20000 in
theorem b_On_reach (Γ : sv_Ga) (res : Int32 × sv_S) (X : sv_Ok Γ ev_On_reach cX11_reach sv_rI res) (as : List sv_V) (σ : sv_S) (h : n_On_reach as σ = some res) : sv_T Γ 0 (sv_e0 5 as) [] σ := by
  unfold n_On_reach at h
  split at h
  · refine sv_run X d_On_reach (K := kk_On_reach) (sv_lk_all (P := fun pc (k : sv_Lo → List sv_V → sv_S → Option (Int32 × sv_S)) => ∀ lo st σ, k lo st σ = some res → sv_T Γ pc lo st σ) ?_) _ _ _ _ _ ((e_On_reach _ _ _).trans h)
    clear h
    refine List.forall_mem_cons.mpr ⟨fun lo st σ h => ?_, fun _ h => absurd h List.not_mem_nil⟩
    · dsimp only at h
      split at h
      · exact w_On_reach_26 X _ _ _ _ _ _ h
      · cases h
  · cases h
theorem a_On_reach (as : List sv_V) (σ : sv_S) (x : Int32 × sv_S) (h : n_On_reach as σ = some x) : sv_args 5 ev_On_reach.2.2.2.1 as := by
  unfold n_On_reach at h
  split at h
  · exact ⟨Nat.le_of_ble_eq_true rfl, fun _ v hv => by
      simp only [List.mem_cons, List.not_mem_nil, or_false] at hv
      rcases hv with rfl | rfl | rfl <;> trivial⟩
  · cases h
theorem g_On_reach (as : List sv_V) (σ : sv_S) (x : Option sv_V × sv_S) (h : sv_gI n_On_reach as σ = some x) : ∃ r i as', as = sv_R r i :: as' ∧ sv_kd r i = .inl 11 := by
  obtain ⟨_, _, h, -⟩ := sv_b_some h
  unfold n_On_reach at h
  split at h
  · exact ⟨_, _, _, rfl, rfl⟩
  · cases h

set_option maxRecDepth 20000 in
theorem m_On_reach (l : Launch) : sv_M l yX11_reach cX11_reach 5 (some .int) (sv_gI n_On_reach) 2 := by
  refine sv_mI (E := ev_On_reach) (by decide +kernel) (ln_gen fk_11 kk_11 gk_11) rfl ?_ a_On_reach b_On_reach
  intro p e R s m args below meth c cells slots Q base ad dC dI cA n0 S hkn hR hf pc n f hcs
  refine sv_lk_all (P := fun pc (x : Nat × sv_F) => sv_cok p l e R s m args below meth c cells slots Q base ad dC dI cA true 5 n0 pc x.1 x.2) ?_ pc (n, f) hcs
  exact List.forall_mem_cons.mpr ⟨(sv_cV S hkn (m_On_isDrummer l) ⟨Nat.le_trans (by decide) hR.1, Nat.le_trans (by decide) hR.2⟩ (by decide) hf rfl (g_On_isDrummer) (sv_w5 tw_348 tw_350 tw_0 tw_53 tw_351) (by decide +kernel) (sv_dc3 d_On_reach (pc := 2) rfl rfl)).I,
      List.forall_mem_cons.mpr ⟨(sv_cS S hkn (m_On_isWithin l) ⟨Nat.le_trans (by decide) hR.1, Nat.le_trans (by decide) hR.2⟩ (by decide) hf (sv_w4 tw_327 tw_328 tw_53 tw_329) (by decide +kernel) (sv_dc3 d_On_reach (pc := 12) rfl rfl)).I,
      List.forall_mem_cons.mpr ⟨(sv_cV S hkn (m_Li_beatsBetween l) ⟨Nat.le_trans (by decide) hR.1, Nat.le_trans (by decide) hR.2⟩ (by decide) hf rfl (g_Li_beatsBetween) (sv_w5 tw_607 tw_608 tw_609 tw_60 tw_610) (by decide +kernel) (sv_dc3 d_On_reach (pc := 45) rfl rfl)).I,
      fun _ h => absurd h List.not_mem_nil⟩⟩⟩
noncomputable def f_On_edge (a1 : Int32) (σ : sv_S) : Option (Int32 × sv_S) :=
  sv_b (f_On_isDrummer a1 σ) (fun v1 σ2 =>
    sv_if (v1 = 0)
      (some ((-1000000001 : Int32), σ2))
      (sv_b (f_Li_beatsBetween 0 (0 : Int32) a1 σ2) (fun v3 σ4 =>
        sv_b (f_Li_beatsBetween 0 a1 ((σ4 1 0 4) - (1 : Int32)) σ4) (fun v5 σ6 =>
          sv_b (f_Jm_max v3 v5 σ6) (fun v7 σ8 =>
            some (v7, σ8))))))
noncomputable def n_On_edge : List sv_V → sv_S → Option (Int32 × sv_S)
  | [.inr (.inr (some (0, 0))), .inl a1], σ => f_On_edge a1 σ
  | _, _ => none
def cd_On_edge : sv_C := [(0, (.aload_n 0, (sv_N, (1, (0, []))))), (1, (.iload_n 1, (sv_N, (2, (0, []))))), (2, (.invokevirtual 97, (sv_N, (5, (0, []))))), (5, (.ifCond .ne 6, (sv_N, (8, (11, []))))), (8, (.ldc 87, (sv_N, (10, (0, []))))), (10, (.ireturn, (sv_N, (11, (0, []))))), (11, (.aload_n 0, (sv_N, (12, (0, []))))), (12, (.getfield 30, (sv_N, (15, (0, []))))), (15, (.iconst 0, (.inl (0 : Int32), (16, (0, []))))), (16, (.iload_n 1, (sv_N, (17, (0, []))))), (17, (.invokevirtual 201, (sv_N, (20, (0, []))))), (20, (.aload_n 0, (sv_N, (21, (0, []))))), (21, (.getfield 30, (sv_N, (24, (0, []))))), (24, (.iload_n 1, (sv_N, (25, (0, []))))), (25, (.aload_n 0, (sv_N, (26, (0, []))))), (26, (.getfield 30, (sv_N, (29, (0, []))))), (29, (.getfield 88, (sv_N, (32, (0, []))))), (32, (.iconst 1, (.inl (1 : Int32), (33, (0, []))))), (33, (.isub, (sv_N, (34, (0, []))))), (34, (.invokevirtual 201, (sv_N, (37, (0, []))))), (37, (.invokestatic 204, (sv_N, (40, (0, []))))), (40, (.ireturn, (sv_N, (41, (0, [])))))]
noncomputable def ev_On_edge : sv_E := (fun i => sv_lk i fl_11, (fun i => sv_lk i kc_11, (fun i => bif Nat.beq i 166 then 1 else 0, (true, (fun pc => sv_lk pc [(2, (2, .inl n_On_isDrummer)), (17, (3, .inl n_Li_beatsBetween)), (34, (3, .inl n_Li_beatsBetween)), (37, (2, .inl n_Jm_max))], none)))))
noncomputable def kk_On_edge : sv_K (Int32 × sv_S) := fun pc => sv_lk pc []
set_option maxRecDepth 20000 in
theorem e_On_edge (a1 : Int32) (σ : sv_S) : sv_ex ev_On_edge sv_rI kk_On_edge cd_On_edge 24 0 [some (.inr (.inr (some (0, 0)))), some (.inl a1)] [] σ = f_On_edge a1 σ := by
  unfold f_On_edge
  delta ev_On_edge kk_On_edge n_On_isDrummer n_Li_beatsBetween n_Jm_max
  generalize f_On_isDrummer = c0
  generalize f_Li_beatsBetween = c1
  generalize f_Jm_max = c2
  rfl
theorem d_On_edge : cd_On_edge.all (sv_dk cX11_edge) = true := by decide +kernel
set_option maxRecDepth 20000 in
theorem b_On_edge (Γ : sv_Ga) (res : Int32 × sv_S) (X : sv_Ok Γ ev_On_edge cX11_edge sv_rI res) (as : List sv_V) (σ : sv_S) (h : n_On_edge as σ = some res) : sv_T Γ 0 (sv_e0 2 as) [] σ := by
  unfold n_On_edge at h
  split at h
  · refine sv_run X d_On_edge (K := kk_On_edge) (sv_lk_all (P := fun pc (k : sv_Lo → List sv_V → sv_S → Option (Int32 × sv_S)) => ∀ lo st σ, k lo st σ = some res → sv_T Γ pc lo st σ) ?_) _ _ _ _ _ ((e_On_edge _ _).trans h)
    clear h
    exact fun _ h => absurd h List.not_mem_nil
  · cases h
theorem a_On_edge (as : List sv_V) (σ : sv_S) (x : Int32 × sv_S) (h : n_On_edge as σ = some x) : sv_args 2 ev_On_edge.2.2.2.1 as := by
  unfold n_On_edge at h
  split at h
  · exact ⟨Nat.le_of_ble_eq_true rfl, fun _ v hv => by
      simp only [List.mem_cons, List.not_mem_nil, or_false] at hv
      rcases hv with rfl | rfl <;> trivial⟩
  · cases h
theorem g_On_edge (as : List sv_V) (σ : sv_S) (x : Option sv_V × sv_S) (h : sv_gI n_On_edge as σ = some x) : ∃ r i as', as = sv_R r i :: as' ∧ sv_kd r i = .inl 11 := by
  obtain ⟨_, _, h, -⟩ := sv_b_some h
  unfold n_On_edge at h
  split at h
  · exact ⟨_, _, _, rfl, rfl⟩
  · cases h

set_option maxRecDepth 20000 in
theorem m_On_edge (l : Launch) : sv_M l yX11_edge cX11_edge 2 (some .int) (sv_gI n_On_edge) 2 := by
  refine sv_mI (E := ev_On_edge) (by decide +kernel) (ln_gen fk_11 kk_11 gk_11) rfl ?_ a_On_edge b_On_edge
  intro p e R s m args below meth c cells slots Q base ad dC dI cA n0 S hkn hR hf pc n f hcs
  refine sv_lk_all (P := fun pc (x : Nat × sv_F) => sv_cok p l e R s m args below meth c cells slots Q base ad dC dI cA true 2 n0 pc x.1 x.2) ?_ pc (n, f) hcs
  exact List.forall_mem_cons.mpr ⟨(sv_cV S hkn (m_On_isDrummer l) ⟨Nat.le_trans (by decide) hR.1, Nat.le_trans (by decide) hR.2⟩ (by decide) hf rfl (g_On_isDrummer) (sv_w5 tw_348 tw_350 tw_0 tw_53 tw_351) (by decide +kernel) (sv_dc3 d_On_edge (pc := 2) rfl rfl)).I,
      List.forall_mem_cons.mpr ⟨(sv_cV S hkn (m_Li_beatsBetween l) ⟨Nat.le_trans (by decide) hR.1, Nat.le_trans (by decide) hR.2⟩ (by decide) hf rfl (g_Li_beatsBetween) (sv_w5 tw_607 tw_608 tw_609 tw_60 tw_610) (by decide +kernel) (sv_dc3 d_On_edge (pc := 17) rfl rfl)).I,
      List.forall_mem_cons.mpr ⟨(sv_cV S hkn (m_Li_beatsBetween l) ⟨Nat.le_trans (by decide) hR.1, Nat.le_trans (by decide) hR.2⟩ (by decide) hf rfl (g_Li_beatsBetween) (sv_w5 tw_607 tw_608 tw_609 tw_60 tw_610) (by decide +kernel) (sv_dc3 d_On_edge (pc := 34) rfl rfl)).I,
      List.forall_mem_cons.mpr ⟨(sv_cmax S ⟨Nat.le_trans (by decide) hR.1, Nat.le_trans (by decide) hR.2⟩ hf (sv_w4 tw_404 tw_405 tw_66 tw_406) (sv_dc3 d_On_edge (pc := 37) rfl rfl)).I,
      fun _ h => absurd h List.not_mem_nil⟩⟩⟩⟩
noncomputable def f_On_differences_82 (k4 : Nat → Int32 → Int32 → sv_S → Option (Int32 × sv_S)) (x1 : Nat) (x2 : Int32) (x3 : Int32) (y0 : Int32) (σ : sv_S) : Option (Int32 × sv_S) :=
    sv_g (sv_in x3 24) (sv_b (f_Jm_abs (y0 - (σ 13 x1 (x3.toNatClampNeg))) σ) (fun v1 σ2 =>
      k4 x1 (x2 + v1) (x3 + (1 : Int32)) σ2))
noncomputable def f_On_differences_51 (k4 : Nat → Int32 → Int32 → sv_S → Option (Int32 × sv_S)) (x1 : Nat) (x2 : Int32) (x3 : Int32) (y0 : Int32) (σ : sv_S) : Option (Int32 × sv_S) :=
    sv_if (y0 = 0)
      (f_On_differences_82 k4 x1 x2 x3 (0 : Int32) σ)
      (sv_g (sv_in x3 10) (f_On_differences_82 k4 x1 x2 x3 ((σ 2 (10 * 2 + (x3.toNatClampNeg)) 7) - (σ 1 0 5)) σ))
noncomputable def f_On_differences_4 : Nat → Nat → Int32 → Int32 → sv_S → Option (Int32 × sv_S)
  | 0, _, _, _, _ => none
  | n + 1, x1, x2, x3, σ =>
    sv_if ((σ 12 x1 1) ≤ x3)
      (some (x2, σ))
      (sv_b (f_Sh_hasNumber x1 x3 σ) (fun v1 σ2 =>
        sv_if (v1 = 0)
          (f_On_differences_4 n x1 x2 (x3 + (1 : Int32)) σ2)
          (sv_if ((σ2 1 2 4) ≤ x3)
            (f_On_differences_51 (f_On_differences_4 n) x1 x2 x3 (0 : Int32) σ2)
            (sv_g (sv_in x3 10) (sv_if ((σ2 2 (10 * 2 + (x3.toNatClampNeg)) 7) ≤ 0)
              (f_On_differences_51 (f_On_differences_4 n) x1 x2 x3 (0 : Int32) σ2)
              (f_On_differences_51 (f_On_differences_4 n) x1 x2 x3 (1 : Int32) σ2))))))
noncomputable def f_On_differences (a1 : Nat) (σ : sv_S) : Option (Int32 × sv_S) :=
  f_On_differences_4 sv_fu a1 (0 : Int32) (0 : Int32) σ
noncomputable def n_On_differences : List sv_V → sv_S → Option (Int32 × sv_S)
  | [.inr (.inr (some (0, 0))), .inr (.inr (some (12, a1)))], σ => f_On_differences a1 σ
  | _, _ => none
def cd_On_differences : sv_C := [(0, (.iconst 0, (.inl (0 : Int32), (1, (0, []))))), (1, (.istore_n 2, (sv_N, (2, (0, []))))), (2, (.iconst 0, (.inl (0 : Int32), (3, (0, []))))), (3, (.istore_n 3, (sv_N, (4, (0, []))))), (4, (.iload_n 3, (sv_N, (5, (0, []))))), (5, (.aload_n 1, (sv_N, (6, (0, []))))), (6, (.getfield 291, (sv_N, (9, (0, []))))), (9, (.if_icmp .ge 96, (sv_N, (12, (105, []))))), (12, (.aload_n 1, (sv_N, (13, (0, []))))), (13, (.iload_n 3, (sv_N, (14, (0, []))))), (14, (.invokevirtual 285, (sv_N, (17, (0, []))))), (17, (.ifCond .eq 82, (sv_N, (20, (99, []))))), (20, (.iload_n 3, (sv_N, (21, (0, []))))), (21, (.aload_n 0, (sv_N, (22, (0, []))))), (22, (.getfield 39, (sv_N, (25, (0, []))))), (25, (.getfield 88, (sv_N, (28, (0, []))))), (28, (.if_icmp .ge 22, (sv_N, (31, (50, []))))), (31, (.aload_n 0, (sv_N, (32, (0, []))))), (32, (.getfield 39, (sv_N, (35, (0, []))))), (35, (.getfield 100, (sv_N, (38, (0, []))))), (38, (.iload_n 3, (sv_N, (39, (0, []))))), (39, (.aaload, (sv_N, (40, (0, []))))), (40, (.getfield 121, (sv_N, (43, (0, []))))), (43, (.ifCond .le 7, (sv_N, (46, (50, []))))), (46, (.iconst 1, (.inl (1 : Int32), (47, (0, []))))), (47, (.goto 4, (sv_N, (50, (51, []))))), (50, (.iconst 0, (.inl (0 : Int32), (51, (0, []))))), (51, (.istore 4, (sv_N, (53, (0, []))))), (53, (.iload 4, (sv_N, (55, (0, []))))), (55, (.ifCond .eq 26, (sv_N, (58, (81, []))))), (58, (.aload_n 0, (sv_N, (59, (0, []))))), (59, (.getfield 39, (sv_N, (62, (0, []))))), (62, (.getfield 100, (sv_N, (65, (0, []))))), (65, (.iload_n 3, (sv_N, (66, (0, []))))), (66, (.aaload, (sv_N, (67, (0, []))))), (67, (.getfield 121, (sv_N, (70, (0, []))))), (70, (.aload_n 0, (sv_N, (71, (0, []))))), (71, (.getfield 30, (sv_N, (74, (0, []))))), (74, (.getfield 140, (sv_N, (77, (0, []))))), (77, (.isub, (sv_N, (78, (0, []))))), (78, (.goto 4, (sv_N, (81, (82, []))))), (81, (.iconst 0, (.inl (0 : Int32), (82, (0, []))))), (82, (.istore 5, (sv_N, (84, (0, []))))), (84, (.iload_n 2, (sv_N, (85, (0, []))))), (85, (.iload 5, (sv_N, (87, (0, []))))), (87, (.aload_n 1, (sv_N, (88, (0, []))))), (88, (.getfield 280, (sv_N, (91, (0, []))))), (91, (.iload_n 3, (sv_N, (92, (0, []))))), (92, (.iaload, (sv_N, (93, (0, []))))), (93, (.isub, (sv_N, (94, (0, []))))), (94, (.invokestatic 333, (sv_N, (97, (0, []))))), (97, (.iadd, (sv_N, (98, (0, []))))), (98, (.istore_n 2, (sv_N, (99, (0, []))))), (99, (.iinc 3 1, (.inl (1 : Int32), (102, (0, []))))), (102, (.goto (-98), (sv_N, (105, (4, []))))), (105, (.iload_n 2, (sv_N, (106, (0, []))))), (106, (.ireturn, (sv_N, (107, (0, [])))))]
noncomputable def ev_On_differences : sv_E := (fun i => sv_lk i fl_11, (fun i => sv_lk i kc_11, (fun i => bif Nat.beq i 166 then 1 else 0, (true, (fun pc => sv_lk pc [(14, (2, .inl n_Sh_hasNumber)), (94, (1, .inl n_Jm_abs))], none)))))
noncomputable def kk_On_differences_82 (k4 : Nat → Int32 → Int32 → sv_S → Option (Int32 × sv_S)) : sv_K (Int32 × sv_S) := fun pc => sv_lk pc [(4, fun lo st σ => match lo, st with
    | [some (.inr (.inr (some (0, 0)))), some (.inr (.inr (some (12, x1)))), some (.inl x2), some (.inl x3), _, _], [] => k4 x1 x2 x3 σ
    | _, _ => none)]
set_option maxRecDepth 20000 in
theorem e_On_differences_82 (k4 : Nat → Int32 → Int32 → sv_S → Option (Int32 × sv_S)) (x1 : Nat) (x2 : Int32) (x3 : Int32) (y0 : Int32) (z4 z5 : Option sv_V) (σ : sv_S) : sv_ex ev_On_differences sv_rI (kk_On_differences_82 k4) cd_On_differences 59 82 [some (.inr (.inr (some (0, 0)))), some (.inr (.inr (some (12, x1)))), some (.inl x2), some (.inl x3), z4, z5] [.inl y0] σ = f_On_differences_82 k4 x1 x2 x3 y0 σ := by
  unfold f_On_differences_82
  delta ev_On_differences kk_On_differences_82 n_Sh_hasNumber n_Jm_abs
  generalize f_Sh_hasNumber = c0
  generalize f_Jm_abs = c1
  generalize f_On_differences_4 = c2
  rfl
noncomputable def kk_On_differences_51 (k4 : Nat → Int32 → Int32 → sv_S → Option (Int32 × sv_S)) : sv_K (Int32 × sv_S) := fun pc => sv_lk pc [(82, fun lo st σ => match lo, st with
    | [some (.inr (.inr (some (0, 0)))), some (.inr (.inr (some (12, x1)))), some (.inl x2), some (.inl x3), _, _], [.inl y0] => f_On_differences_82 k4 x1 x2 x3 y0 σ
    | _, _ => none)]
set_option maxRecDepth 20000 in
theorem e_On_differences_51 (k4 : Nat → Int32 → Int32 → sv_S → Option (Int32 × sv_S)) (x1 : Nat) (x2 : Int32) (x3 : Int32) (y0 : Int32) (z4 z5 : Option sv_V) (σ : sv_S) : sv_ex ev_On_differences sv_rI (kk_On_differences_51 k4) cd_On_differences 59 51 [some (.inr (.inr (some (0, 0)))), some (.inr (.inr (some (12, x1)))), some (.inl x2), some (.inl x3), z4, z5] [.inl y0] σ = f_On_differences_51 k4 x1 x2 x3 y0 σ := by
  unfold f_On_differences_51
  delta ev_On_differences kk_On_differences_51 n_Sh_hasNumber n_Jm_abs
  generalize f_Sh_hasNumber = c0
  generalize f_Jm_abs = c1
  generalize f_On_differences_82 = c2
  rfl
noncomputable def kk_On_differences_4 (n : Nat) : sv_K (Int32 × sv_S) := fun pc => sv_lk pc [(4, fun lo st σ => match lo, st with
    | [some (.inr (.inr (some (0, 0)))), some (.inr (.inr (some (12, x1)))), some (.inl x2), some (.inl x3), _, _], [] => f_On_differences_4 n x1 x2 x3 σ
    | _, _ => none),
  (51, fun lo st σ => match lo, st with
    | [some (.inr (.inr (some (0, 0)))), some (.inr (.inr (some (12, x1)))), some (.inl x2), some (.inl x3), _, _], [.inl y0] => f_On_differences_51 (f_On_differences_4 n) x1 x2 x3 y0 σ
    | _, _ => none)]
set_option maxRecDepth 20000 in
theorem e_On_differences_4 (n : Nat) (x1 : Nat) (x2 : Int32) (x3 : Int32) (z4 z5 : Option sv_V) (σ : sv_S) : sv_ex ev_On_differences sv_rI (kk_On_differences_4 n) cd_On_differences 59 4 [some (.inr (.inr (some (0, 0)))), some (.inr (.inr (some (12, x1)))), some (.inl x2), some (.inl x3), z4, z5] [] σ = f_On_differences_4 (n + 1) x1 x2 x3 σ := by
  rw [f_On_differences_4.eq_2]
  delta ev_On_differences kk_On_differences_4 n_Sh_hasNumber n_Jm_abs
  generalize f_Sh_hasNumber = c0
  generalize f_Jm_abs = c1
  generalize f_On_differences_4 = c2
  generalize f_On_differences_51 = c3
  rfl
noncomputable def kk_On_differences : sv_K (Int32 × sv_S) := fun pc => sv_lk pc [(4, fun lo st σ => match lo, st with
    | [some (.inr (.inr (some (0, 0)))), some (.inr (.inr (some (12, x1)))), some (.inl x2), some (.inl x3), _, _], [] => f_On_differences_4 sv_fu x1 x2 x3 σ
    | _, _ => none)]
set_option maxRecDepth 20000 in
theorem e_On_differences (a1 : Nat) (σ : sv_S) : sv_ex ev_On_differences sv_rI kk_On_differences cd_On_differences 59 0 [some (.inr (.inr (some (0, 0)))), some (.inr (.inr (some (12, a1)))), none, none, none, none] [] σ = f_On_differences a1 σ := by
  unfold f_On_differences
  delta ev_On_differences kk_On_differences n_Sh_hasNumber n_Jm_abs
  generalize f_Sh_hasNumber = c0
  generalize f_Jm_abs = c1
  generalize f_On_differences_4 = c2
  rfl
theorem d_On_differences : cd_On_differences.all (sv_dk cX11_differences) = true := by decide +kernel
set_option maxRecDepth 20000 in
theorem w_On_differences_82 {Γ : sv_Ga} {res : Int32 × sv_S} (X : sv_Ok Γ ev_On_differences cX11_differences sv_rI res) (k4 : Nat → Int32 → Int32 → sv_S → Option (Int32 × sv_S)) (h4 : ∀ (x1 : Nat) (x2 : Int32) (x3 : Int32) (z4 z5 : Option sv_V) (σ : sv_S), k4 x1 x2 x3 σ = some res → sv_T Γ 4 [some (.inr (.inr (some (0, 0)))), some (.inr (.inr (some (12, x1)))), some (.inl x2), some (.inl x3), z4, z5] [] σ) : ∀ (x1 : Nat) (x2 : Int32) (x3 : Int32) (y0 : Int32) (z4 z5 : Option sv_V) (σ : sv_S), f_On_differences_82 k4 x1 x2 x3 y0 σ = some res → sv_T Γ 82 [some (.inr (.inr (some (0, 0)))), some (.inr (.inr (some (12, x1)))), some (.inl x2), some (.inl x3), z4, z5] [.inl y0] σ := by
  intro x1 x2 x3 y0 z4 z5 σ h
  refine sv_run X d_On_differences (K := kk_On_differences_82 k4) (sv_lk_all (P := fun pc (k : sv_Lo → List sv_V → sv_S → Option (Int32 × sv_S)) => ∀ lo st σ, k lo st σ = some res → sv_T Γ pc lo st σ) ?_) _ _ _ _ _ ((e_On_differences_82 k4 x1 x2 x3 y0 z4 z5 σ).trans h)
  clear h
  refine List.forall_mem_cons.mpr ⟨fun lo st σ h => ?_, fun _ h => absurd h List.not_mem_nil⟩
  · dsimp only at h
    split at h
    · exact h4 _ _ _ _ _ _ h
    · cases h

set_option maxRecDepth 20000 in
theorem w_On_differences_51 {Γ : sv_Ga} {res : Int32 × sv_S} (X : sv_Ok Γ ev_On_differences cX11_differences sv_rI res) (k4 : Nat → Int32 → Int32 → sv_S → Option (Int32 × sv_S)) (h4 : ∀ (x1 : Nat) (x2 : Int32) (x3 : Int32) (z4 z5 : Option sv_V) (σ : sv_S), k4 x1 x2 x3 σ = some res → sv_T Γ 4 [some (.inr (.inr (some (0, 0)))), some (.inr (.inr (some (12, x1)))), some (.inl x2), some (.inl x3), z4, z5] [] σ) : ∀ (x1 : Nat) (x2 : Int32) (x3 : Int32) (y0 : Int32) (z4 z5 : Option sv_V) (σ : sv_S), f_On_differences_51 k4 x1 x2 x3 y0 σ = some res → sv_T Γ 51 [some (.inr (.inr (some (0, 0)))), some (.inr (.inr (some (12, x1)))), some (.inl x2), some (.inl x3), z4, z5] [.inl y0] σ := by
  intro x1 x2 x3 y0 z4 z5 σ h
  refine sv_run X d_On_differences (K := kk_On_differences_51 k4) (sv_lk_all (P := fun pc (k : sv_Lo → List sv_V → sv_S → Option (Int32 × sv_S)) => ∀ lo st σ, k lo st σ = some res → sv_T Γ pc lo st σ) ?_) _ _ _ _ _ ((e_On_differences_51 k4 x1 x2 x3 y0 z4 z5 σ).trans h)
  clear h
  refine List.forall_mem_cons.mpr ⟨fun lo st σ h => ?_, fun _ h => absurd h List.not_mem_nil⟩
  · dsimp only at h
    split at h
    · exact w_On_differences_82 X _ h4 _ _ _ _ _ _ _ h
    · cases h

set_option maxRecDepth 20000 in
theorem w_On_differences_4 {Γ : sv_Ga} {res : Int32 × sv_S} (X : sv_Ok Γ ev_On_differences cX11_differences sv_rI res) : ∀ (n : Nat) (x1 : Nat) (x2 : Int32) (x3 : Int32) (z4 z5 : Option sv_V) (σ : sv_S), f_On_differences_4 n x1 x2 x3 σ = some res → sv_T Γ 4 [some (.inr (.inr (some (0, 0)))), some (.inr (.inr (some (12, x1)))), some (.inl x2), some (.inl x3), z4, z5] [] σ := by
  intro n
  induction n with
  | zero =>
    intro x1 x2 x3 z4 z5 σ h
    rw [f_On_differences_4.eq_1] at h
    cases h
  | succ n ih =>
    intro x1 x2 x3 z4 z5 σ h
    refine sv_run X d_On_differences (K := kk_On_differences_4 n) (sv_lk_all (P := fun pc (k : sv_Lo → List sv_V → sv_S → Option (Int32 × sv_S)) => ∀ lo st σ, k lo st σ = some res → sv_T Γ pc lo st σ) ?_) _ _ _ _ _ ((e_On_differences_4 n x1 x2 x3 z4 z5 σ).trans h)
    clear h
    refine List.forall_mem_cons.mpr ⟨fun lo st σ h => ?_, List.forall_mem_cons.mpr ⟨fun lo st σ h => ?_, fun _ h => absurd h List.not_mem_nil⟩⟩
    · dsimp only at h
      split at h
      · exact ih _ _ _ _ _ _ h
      · cases h
    · dsimp only at h
      split at h
      · exact w_On_differences_51 X _ ih _ _ _ _ _ _ _ h
      · cases h

set_option maxRecDepth 20000 in
theorem b_On_differences (Γ : sv_Ga) (res : Int32 × sv_S) (X : sv_Ok Γ ev_On_differences cX11_differences sv_rI res) (as : List sv_V) (σ : sv_S) (h : n_On_differences as σ = some res) : sv_T Γ 0 (sv_e0 6 as) [] σ := by
  unfold n_On_differences at h
  split at h
  · refine sv_run X d_On_differences (K := kk_On_differences) (sv_lk_all (P := fun pc (k : sv_Lo → List sv_V → sv_S → Option (Int32 × sv_S)) => ∀ lo st σ, k lo st σ = some res → sv_T Γ pc lo st σ) ?_) _ _ _ _ _ ((e_On_differences _ _).trans h)
    clear h
    refine List.forall_mem_cons.mpr ⟨fun lo st σ h => ?_, fun _ h => absurd h List.not_mem_nil⟩
    · dsimp only at h
      split at h
      · exact w_On_differences_4 X _ _ _ _ _ _ _ h
      · cases h
  · cases h
theorem a_On_differences (as : List sv_V) (σ : sv_S) (x : Int32 × sv_S) (h : n_On_differences as σ = some x) : sv_args 6 ev_On_differences.2.2.2.1 as := by
  unfold n_On_differences at h
  split at h
  · exact ⟨Nat.le_of_ble_eq_true rfl, fun _ v hv => by
      simp only [List.mem_cons, List.not_mem_nil, or_false] at hv
      rcases hv with rfl | rfl <;> trivial⟩
  · cases h
theorem g_On_differences (as : List sv_V) (σ : sv_S) (x : Option sv_V × sv_S) (h : sv_gI n_On_differences as σ = some x) : ∃ r i as', as = sv_R r i :: as' ∧ sv_kd r i = .inl 11 := by
  obtain ⟨_, _, h, -⟩ := sv_b_some h
  unfold n_On_differences at h
  split at h
  · exact ⟨_, _, _, rfl, rfl⟩
  · cases h
theorem tw_639 : Cond.methodLink RX11 285 yX6_hasNumber ∈ gw_tbl := gw_at 639 (by decide +kernel) rfl
theorem tw_640 : Cond.instanceMethod yX6_hasNumber ∈ gw_tbl := gw_at 640 (by decide +kernel) rfl
theorem tw_641 : Cond.selects RX6 yX6_hasNumber yX6_hasNumber ∈ gw_tbl := gw_at 641 (by decide +kernel) rfl
theorem tw_642 : Cond.code yX6_hasNumber cX6_hasNumber 2 (some .boolean) ∈ gw_tbl := gw_at 642 (by decide +kernel) rfl
theorem tw_648 : Cond.methodLink RX11 333 Lib.Math.abs.name ∈ gw_tbl := gw_at 648 (by decide +kernel) rfl
theorem tw_649 : Cond.static Lib.Math.abs.name ∈ gw_tbl := gw_at 649 (by decide +kernel) rfl
theorem tw_650 : Cond.code Lib.Math.abs.name Lib.Math.abs.code 1 (some .int) ∈ gw_tbl := gw_at 650 (by decide +kernel) rfl
set_option maxRecDepth 20000 in
theorem m_On_differences (l : Launch) : sv_M l yX11_differences cX11_differences 6 (some .int) (sv_gI n_On_differences) 2 := by
  refine sv_mI (E := ev_On_differences) (by decide +kernel) (ln_gen fk_11 kk_11 gk_11) rfl ?_ a_On_differences b_On_differences
  intro p e R s m args below meth c cells slots Q base ad dC dI cA n0 S hkn hR hf pc n f hcs
  refine sv_lk_all (P := fun pc (x : Nat × sv_F) => sv_cok p l e R s m args below meth c cells slots Q base ad dC dI cA true 6 n0 pc x.1 x.2) ?_ pc (n, f) hcs
  exact List.forall_mem_cons.mpr ⟨(sv_cV S hkn (m_Sh_hasNumber l) ⟨Nat.le_trans (by decide) hR.1, Nat.le_trans (by decide) hR.2⟩ (by decide) hf rfl (g_Sh_hasNumber) (sv_w5 tw_639 tw_640 tw_641 tw_64 tw_642) (by decide +kernel) (sv_dc3 d_On_differences (pc := 14) rfl rfl)).I,
      List.forall_mem_cons.mpr ⟨(sv_cabs S ⟨Nat.le_trans (by decide) hR.1, Nat.le_trans (by decide) hR.2⟩ hf (sv_w4 tw_648 tw_649 tw_66 tw_650) (sv_dc3 d_On_differences (pc := 94) rfl rfl)).I,
      fun _ h => absurd h List.not_mem_nil⟩⟩
noncomputable def f_On_findMiscounted_89 (k2 : Nat → Int32 → Int32 → sv_S → Option (Int32 × sv_S)) (x1 : Nat) (x2 : Int32) (x3 : Int32) (x5 : Int32) (σ : sv_S) : Option (Int32 × sv_S) :=
    sv_g (sv_in (0 : Int32) 3) (sv_g (sv_in (1 : Int32) 3) (k2 x1 x2 (x3 + (1 : Int32)) (sv_up (sv_up σ 17 0 ((0 : Int32).toNatClampNeg) x3) 17 0 ((1 : Int32).toNatClampNeg) x5)))
noncomputable def f_On_findMiscounted_55 (k2 : Nat → Int32 → Int32 → sv_S → Option (Int32 × sv_S)) (x1 : Nat) (x2 : Int32) (x3 : Int32) (y0 : Int32) (y1 : Nat) (σ : sv_S) : Option (Int32 × sv_S) :=
    let σ1 := sv_up σ 2 y1 1 y0
    sv_b (f_Li_pass 2 x2 σ1) (fun v2 σ3 =>
      sv_b (f_On_differences x1 σ3) (fun v4 σ5 =>
        sv_if (x3 = 0)
          (f_On_findMiscounted_89 k2 x1 x2 x3 v4 σ5)
          (sv_g (sv_in (1 : Int32) 3) (sv_if ((σ5 17 0 ((1 : Int32).toNatClampNeg)) ≤ v4)
            (k2 x1 x2 (x3 + (1 : Int32)) σ5)
            (f_On_findMiscounted_89 k2 x1 x2 x3 v4 σ5)))))
noncomputable def f_On_findMiscounted_2 : Nat → Nat → Int32 → Int32 → sv_S → Option (Int32 × sv_S)
  | 0, _, _, _, _ => none
  | n + 1, x1, x2, x3, σ =>
    sv_if ((σ 1 0 4) ≤ x3)
      (sv_if ((σ 1 0 4) ≤ 0)
        (sv_g ((0 : Int32) = 0 ∨ (0 : Int32) = 1) (some ((0 : Int32), σ)))
        (sv_g ((1 : Int32) = 0 ∨ (1 : Int32) = 1) (some ((1 : Int32), σ))))
      (sv_b0 (f_On_think σ) (fun σ1 =>
        sv_g (sv_in x3 10) (sv_g (sv_in x3 10) (sv_if ((σ1 2 (10 * 0 + (x3.toNatClampNeg)) 1) < (9 : Int32))
          (f_On_findMiscounted_55 (f_On_findMiscounted_2 n) x1 x2 x3 ((σ1 2 (10 * 0 + (x3.toNatClampNeg)) 1) + (1 : Int32)) (10 * 2 + (x3.toNatClampNeg)) σ1)
          (f_On_findMiscounted_55 (f_On_findMiscounted_2 n) x1 x2 x3 (1 : Int32) (10 * 2 + (x3.toNatClampNeg)) σ1)))))
noncomputable def f_On_findMiscounted (a1 : Nat) (a2 : Int32) (σ : sv_S) : Option (Int32 × sv_S) :=
  f_On_findMiscounted_2 sv_fu a1 a2 (0 : Int32) σ
noncomputable def n_On_findMiscounted : List sv_V → sv_S → Option (Int32 × sv_S)
  | [.inr (.inr (some (0, 0))), .inr (.inr (some (12, a1))), .inl a2], σ => f_On_findMiscounted a1 a2 σ
  | _, _ => none
def cd_On_findMiscounted : sv_C := [(0, (.iconst 0, (.inl (0 : Int32), (1, (0, []))))), (1, (.istore_n 3, (sv_N, (2, (0, []))))), (2, (.iload_n 3, (sv_N, (3, (0, []))))), (3, (.aload_n 0, (sv_N, (4, (0, []))))), (4, (.getfield 30, (sv_N, (7, (0, []))))), (7, (.getfield 88, (sv_N, (10, (0, []))))), (10, (.if_icmp .ge 100, (sv_N, (13, (110, []))))), (13, (.aload_n 0, (sv_N, (14, (0, []))))), (14, (.invokevirtual 186, (sv_N, (17, (0, []))))), (17, (.aload_n 0, (sv_N, (18, (0, []))))), (18, (.getfield 30, (sv_N, (21, (0, []))))), (21, (.getfield 100, (sv_N, (24, (0, []))))), (24, (.iload_n 3, (sv_N, (25, (0, []))))), (25, (.aaload, (sv_N, (26, (0, []))))), (26, (.getfield 106, (sv_N, (29, (0, []))))), (29, (.istore 4, (sv_N, (31, (0, []))))), (31, (.aload_n 0, (sv_N, (32, (0, []))))), (32, (.getfield 39, (sv_N, (35, (0, []))))), (35, (.getfield 100, (sv_N, (38, (0, []))))), (38, (.iload_n 3, (sv_N, (39, (0, []))))), (39, (.aaload, (sv_N, (40, (0, []))))), (40, (.iload 4, (sv_N, (42, (0, []))))), (42, (.bipush 9, (.inl (9 : Int32), (44, (0, []))))), (44, (.if_icmp .lt 7, (sv_N, (47, (51, []))))), (47, (.iconst 1, (.inl (1 : Int32), (48, (0, []))))), (48, (.goto 7, (sv_N, (51, (55, []))))), (51, (.iload 4, (sv_N, (53, (0, []))))), (53, (.iconst 1, (.inl (1 : Int32), (54, (0, []))))), (54, (.iadd, (sv_N, (55, (0, []))))), (55, (.putfield 106, (sv_N, (58, (0, []))))), (58, (.aload_n 0, (sv_N, (59, (0, []))))), (59, (.getfield 39, (sv_N, (62, (0, []))))), (62, (.iload_n 2, (sv_N, (63, (0, []))))), (63, (.invokevirtual 183, (sv_N, (66, (0, []))))), (66, (.pop, (sv_N, (67, (0, []))))), (67, (.aload_n 0, (sv_N, (68, (0, []))))), (68, (.aload_n 1, (sv_N, (69, (0, []))))), (69, (.invokevirtual 329, (sv_N, (72, (0, []))))), (72, (.istore 5, (sv_N, (74, (0, []))))), (74, (.iload_n 3, (sv_N, (75, (0, []))))), (75, (.ifCond .eq 14, (sv_N, (78, (89, []))))), (78, (.iload 5, (sv_N, (80, (0, []))))), (80, (.aload_n 0, (sv_N, (81, (0, []))))), (81, (.getfield 76, (sv_N, (84, (0, []))))), (84, (.iconst 1, (.inl (1 : Int32), (85, (0, []))))), (85, (.iaload, (sv_N, (86, (0, []))))), (86, (.if_icmp .ge 18, (sv_N, (89, (104, []))))), (89, (.aload_n 0, (sv_N, (90, (0, []))))), (90, (.getfield 76, (sv_N, (93, (0, []))))), (93, (.iconst 0, (.inl (0 : Int32), (94, (0, []))))), (94, (.iload_n 3, (sv_N, (95, (0, []))))), (95, (.iastore, (sv_N, (96, (0, []))))), (96, (.aload_n 0, (sv_N, (97, (0, []))))), (97, (.getfield 76, (sv_N, (100, (0, []))))), (100, (.iconst 1, (.inl (1 : Int32), (101, (0, []))))), (101, (.iload 5, (sv_N, (103, (0, []))))), (103, (.iastore, (sv_N, (104, (0, []))))), (104, (.iinc 3 1, (.inl (1 : Int32), (107, (0, []))))), (107, (.goto (-105), (sv_N, (110, (2, []))))), (110, (.aload_n 0, (sv_N, (111, (0, []))))), (111, (.getfield 30, (sv_N, (114, (0, []))))), (114, (.getfield 88, (sv_N, (117, (0, []))))), (117, (.ifCond .le 7, (sv_N, (120, (124, []))))), (120, (.iconst 1, (.inl (1 : Int32), (121, (0, []))))), (121, (.goto 4, (sv_N, (124, (125, []))))), (124, (.iconst 0, (.inl (0 : Int32), (125, (0, []))))), (125, (.ireturn, (sv_N, (126, (0, [])))))]
noncomputable def ev_On_findMiscounted : sv_E := (fun i => sv_lk i fl_11, (fun i => sv_lk i kc_11, (fun i => bif Nat.beq i 166 then 1 else 0, (true, (fun pc => sv_lk pc [(14, (1, .inr (.inl n_On_think))), (63, (2, .inl n_Li_pass)), (69, (2, .inl n_On_differences))], none)))))
noncomputable def kk_On_findMiscounted_89 (k2 : Nat → Int32 → Int32 → sv_S → Option (Int32 × sv_S)) : sv_K (Int32 × sv_S) := fun pc => sv_lk pc [(2, fun lo st σ => match lo, st with
    | [some (.inr (.inr (some (0, 0)))), some (.inr (.inr (some (12, x1)))), some (.inl x2), some (.inl x3), _, _], [] => k2 x1 x2 x3 σ
    | _, _ => none)]
set_option maxRecDepth 20000 in
theorem e_On_findMiscounted_89 (k2 : Nat → Int32 → Int32 → sv_S → Option (Int32 × sv_S)) (x1 : Nat) (x2 : Int32) (x3 : Int32) (x5 : Int32) (z4 : Option sv_V) (σ : sv_S) : sv_ex ev_On_findMiscounted sv_rZ (kk_On_findMiscounted_89 k2) cd_On_findMiscounted 69 89 [some (.inr (.inr (some (0, 0)))), some (.inr (.inr (some (12, x1)))), some (.inl x2), some (.inl x3), z4, some (.inl x5)] [] σ = f_On_findMiscounted_89 k2 x1 x2 x3 x5 σ := by
  unfold f_On_findMiscounted_89
  delta ev_On_findMiscounted kk_On_findMiscounted_89 n_On_think n_Li_pass n_On_differences
  generalize f_On_think = c0
  generalize f_Li_pass = c1
  generalize f_On_differences = c2
  generalize f_On_findMiscounted_2 = c3
  rfl
noncomputable def kk_On_findMiscounted_55 (k2 : Nat → Int32 → Int32 → sv_S → Option (Int32 × sv_S)) : sv_K (Int32 × sv_S) := fun pc => sv_lk pc [(2, fun lo st σ => match lo, st with
    | [some (.inr (.inr (some (0, 0)))), some (.inr (.inr (some (12, x1)))), some (.inl x2), some (.inl x3), _, _], [] => k2 x1 x2 x3 σ
    | _, _ => none),
  (89, fun lo st σ => match lo, st with
    | [some (.inr (.inr (some (0, 0)))), some (.inr (.inr (some (12, x1)))), some (.inl x2), some (.inl x3), _, some (.inl x5)], [] => f_On_findMiscounted_89 k2 x1 x2 x3 x5 σ
    | _, _ => none)]
set_option maxRecDepth 20000 in
theorem e_On_findMiscounted_55 (k2 : Nat → Int32 → Int32 → sv_S → Option (Int32 × sv_S)) (x1 : Nat) (x2 : Int32) (x3 : Int32) (y0 : Int32) (y1 : Nat) (z4 z5 : Option sv_V) (σ : sv_S) : sv_ex ev_On_findMiscounted sv_rZ (kk_On_findMiscounted_55 k2) cd_On_findMiscounted 69 55 [some (.inr (.inr (some (0, 0)))), some (.inr (.inr (some (12, x1)))), some (.inl x2), some (.inl x3), z4, z5] [.inl y0, .inr (.inr (some (2, y1)))] σ = f_On_findMiscounted_55 k2 x1 x2 x3 y0 y1 σ := by
  unfold f_On_findMiscounted_55
  delta ev_On_findMiscounted kk_On_findMiscounted_55 n_On_think n_Li_pass n_On_differences
  generalize f_On_think = c0
  generalize f_Li_pass = c1
  generalize f_On_differences = c2
  generalize f_On_findMiscounted_2 = c3
  generalize f_On_findMiscounted_89 = c4
  rfl
noncomputable def kk_On_findMiscounted_2 (n : Nat) : sv_K (Int32 × sv_S) := fun pc => sv_lk pc [(55, fun lo st σ => match lo, st with
    | [some (.inr (.inr (some (0, 0)))), some (.inr (.inr (some (12, x1)))), some (.inl x2), some (.inl x3), _, _], [.inl y0, .inr (.inr (some (2, y1)))] => f_On_findMiscounted_55 (f_On_findMiscounted_2 n) x1 x2 x3 y0 y1 σ
    | _, _ => none)]
set_option maxRecDepth 20000 in
theorem e_On_findMiscounted_2 (n : Nat) (x1 : Nat) (x2 : Int32) (x3 : Int32) (z4 z5 : Option sv_V) (σ : sv_S) : sv_ex ev_On_findMiscounted sv_rZ (kk_On_findMiscounted_2 n) cd_On_findMiscounted 69 2 [some (.inr (.inr (some (0, 0)))), some (.inr (.inr (some (12, x1)))), some (.inl x2), some (.inl x3), z4, z5] [] σ = f_On_findMiscounted_2 (n + 1) x1 x2 x3 σ := by
  rw [f_On_findMiscounted_2.eq_2]
  delta ev_On_findMiscounted kk_On_findMiscounted_2 n_On_think n_Li_pass n_On_differences
  generalize f_On_think = c0
  generalize f_Li_pass = c1
  generalize f_On_differences = c2
  generalize f_On_findMiscounted_55 = c3
  generalize f_On_findMiscounted_2 = c4
  rfl
noncomputable def kk_On_findMiscounted : sv_K (Int32 × sv_S) := fun pc => sv_lk pc [(2, fun lo st σ => match lo, st with
    | [some (.inr (.inr (some (0, 0)))), some (.inr (.inr (some (12, x1)))), some (.inl x2), some (.inl x3), _, _], [] => f_On_findMiscounted_2 sv_fu x1 x2 x3 σ
    | _, _ => none)]
set_option maxRecDepth 20000 in
theorem e_On_findMiscounted (a1 : Nat) (a2 : Int32) (σ : sv_S) : sv_ex ev_On_findMiscounted sv_rZ kk_On_findMiscounted cd_On_findMiscounted 69 0 [some (.inr (.inr (some (0, 0)))), some (.inr (.inr (some (12, a1)))), some (.inl a2), none, none, none] [] σ = f_On_findMiscounted a1 a2 σ := by
  unfold f_On_findMiscounted
  delta ev_On_findMiscounted kk_On_findMiscounted n_On_think n_Li_pass n_On_differences
  generalize f_On_think = c0
  generalize f_Li_pass = c1
  generalize f_On_differences = c2
  generalize f_On_findMiscounted_2 = c3
  rfl
theorem d_On_findMiscounted : cd_On_findMiscounted.all (sv_dk cX11_findMiscounted) = true := by decide +kernel
set_option maxRecDepth 20000 in
theorem w_On_findMiscounted_89 {Γ : sv_Ga} {res : Int32 × sv_S} (X : sv_Ok Γ ev_On_findMiscounted cX11_findMiscounted sv_rZ res) (k2 : Nat → Int32 → Int32 → sv_S → Option (Int32 × sv_S)) (h2 : ∀ (x1 : Nat) (x2 : Int32) (x3 : Int32) (z4 z5 : Option sv_V) (σ : sv_S), k2 x1 x2 x3 σ = some res → sv_T Γ 2 [some (.inr (.inr (some (0, 0)))), some (.inr (.inr (some (12, x1)))), some (.inl x2), some (.inl x3), z4, z5] [] σ) : ∀ (x1 : Nat) (x2 : Int32) (x3 : Int32) (x5 : Int32) (z4 : Option sv_V) (σ : sv_S), f_On_findMiscounted_89 k2 x1 x2 x3 x5 σ = some res → sv_T Γ 89 [some (.inr (.inr (some (0, 0)))), some (.inr (.inr (some (12, x1)))), some (.inl x2), some (.inl x3), z4, some (.inl x5)] [] σ := by
  intro x1 x2 x3 x5 z4 σ h
  refine sv_run X d_On_findMiscounted (K := kk_On_findMiscounted_89 k2) (sv_lk_all (P := fun pc (k : sv_Lo → List sv_V → sv_S → Option (Int32 × sv_S)) => ∀ lo st σ, k lo st σ = some res → sv_T Γ pc lo st σ) ?_) _ _ _ _ _ ((e_On_findMiscounted_89 k2 x1 x2 x3 x5 z4 σ).trans h)
  clear h
  refine List.forall_mem_cons.mpr ⟨fun lo st σ h => ?_, fun _ h => absurd h List.not_mem_nil⟩
  · dsimp only at h
    split at h
    · exact h2 _ _ _ _ _ _ h
    · cases h

set_option maxRecDepth 20000 in
theorem w_On_findMiscounted_55 {Γ : sv_Ga} {res : Int32 × sv_S} (X : sv_Ok Γ ev_On_findMiscounted cX11_findMiscounted sv_rZ res) (k2 : Nat → Int32 → Int32 → sv_S → Option (Int32 × sv_S)) (h2 : ∀ (x1 : Nat) (x2 : Int32) (x3 : Int32) (z4 z5 : Option sv_V) (σ : sv_S), k2 x1 x2 x3 σ = some res → sv_T Γ 2 [some (.inr (.inr (some (0, 0)))), some (.inr (.inr (some (12, x1)))), some (.inl x2), some (.inl x3), z4, z5] [] σ) : ∀ (x1 : Nat) (x2 : Int32) (x3 : Int32) (y0 : Int32) (y1 : Nat) (z4 z5 : Option sv_V) (σ : sv_S), f_On_findMiscounted_55 k2 x1 x2 x3 y0 y1 σ = some res → sv_T Γ 55 [some (.inr (.inr (some (0, 0)))), some (.inr (.inr (some (12, x1)))), some (.inl x2), some (.inl x3), z4, z5] [.inl y0, .inr (.inr (some (2, y1)))] σ := by
  intro x1 x2 x3 y0 y1 z4 z5 σ h
  refine sv_run X d_On_findMiscounted (K := kk_On_findMiscounted_55 k2) (sv_lk_all (P := fun pc (k : sv_Lo → List sv_V → sv_S → Option (Int32 × sv_S)) => ∀ lo st σ, k lo st σ = some res → sv_T Γ pc lo st σ) ?_) _ _ _ _ _ ((e_On_findMiscounted_55 k2 x1 x2 x3 y0 y1 z4 z5 σ).trans h)
  clear h
  refine List.forall_mem_cons.mpr ⟨fun lo st σ h => ?_, List.forall_mem_cons.mpr ⟨fun lo st σ h => ?_, fun _ h => absurd h List.not_mem_nil⟩⟩
  · dsimp only at h
    split at h
    · exact h2 _ _ _ _ _ _ h
    · cases h
  · dsimp only at h
    split at h
    · exact w_On_findMiscounted_89 X _ h2 _ _ _ _ _ _ h
    · cases h

set_option maxRecDepth 20000 in
theorem w_On_findMiscounted_2 {Γ : sv_Ga} {res : Int32 × sv_S} (X : sv_Ok Γ ev_On_findMiscounted cX11_findMiscounted sv_rZ res) : ∀ (n : Nat) (x1 : Nat) (x2 : Int32) (x3 : Int32) (z4 z5 : Option sv_V) (σ : sv_S), f_On_findMiscounted_2 n x1 x2 x3 σ = some res → sv_T Γ 2 [some (.inr (.inr (some (0, 0)))), some (.inr (.inr (some (12, x1)))), some (.inl x2), some (.inl x3), z4, z5] [] σ := by
  intro n
  induction n with
  | zero =>
    intro x1 x2 x3 z4 z5 σ h
    rw [f_On_findMiscounted_2.eq_1] at h
    cases h
  | succ n ih =>
    intro x1 x2 x3 z4 z5 σ h
    refine sv_run X d_On_findMiscounted (K := kk_On_findMiscounted_2 n) (sv_lk_all (P := fun pc (k : sv_Lo → List sv_V → sv_S → Option (Int32 × sv_S)) => ∀ lo st σ, k lo st σ = some res → sv_T Γ pc lo st σ) ?_) _ _ _ _ _ ((e_On_findMiscounted_2 n x1 x2 x3 z4 z5 σ).trans h)
    clear h
    refine List.forall_mem_cons.mpr ⟨fun lo st σ h => ?_, fun _ h => absurd h List.not_mem_nil⟩
    · dsimp only at h
      split at h
      · exact w_On_findMiscounted_55 X _ ih _ _ _ _ _ _ _ _ h
      · cases h

set_option maxRecDepth 20000 in
theorem b_On_findMiscounted (Γ : sv_Ga) (res : Int32 × sv_S) (X : sv_Ok Γ ev_On_findMiscounted cX11_findMiscounted sv_rZ res) (as : List sv_V) (σ : sv_S) (h : n_On_findMiscounted as σ = some res) : sv_T Γ 0 (sv_e0 6 as) [] σ := by
  unfold n_On_findMiscounted at h
  split at h
  · refine sv_run X d_On_findMiscounted (K := kk_On_findMiscounted) (sv_lk_all (P := fun pc (k : sv_Lo → List sv_V → sv_S → Option (Int32 × sv_S)) => ∀ lo st σ, k lo st σ = some res → sv_T Γ pc lo st σ) ?_) _ _ _ _ _ ((e_On_findMiscounted _ _ _).trans h)
    clear h
    refine List.forall_mem_cons.mpr ⟨fun lo st σ h => ?_, fun _ h => absurd h List.not_mem_nil⟩
    · dsimp only at h
      split at h
      · exact w_On_findMiscounted_2 X _ _ _ _ _ _ _ h
      · cases h
  · cases h
theorem a_On_findMiscounted (as : List sv_V) (σ : sv_S) (x : Int32 × sv_S) (h : n_On_findMiscounted as σ = some x) : sv_args 6 ev_On_findMiscounted.2.2.2.1 as := by
  unfold n_On_findMiscounted at h
  split at h
  · exact ⟨Nat.le_of_ble_eq_true rfl, fun _ v hv => by
      simp only [List.mem_cons, List.not_mem_nil, or_false] at hv
      rcases hv with rfl | rfl | rfl <;> trivial⟩
  · cases h
theorem g_On_findMiscounted (as : List sv_V) (σ : sv_S) (x : Option sv_V × sv_S) (h : sv_gI n_On_findMiscounted as σ = some x) : ∃ r i as', as = sv_R r i :: as' ∧ sv_kd r i = .inl 11 := by
  obtain ⟨_, _, h, -⟩ := sv_b_some h
  unfold n_On_findMiscounted at h
  split at h
  · exact ⟨_, _, _, rfl, rfl⟩
  · cases h
theorem tw_4 : Cond.selects RX11 yX11_differences yX11_differences ∈ gw_tbl := gw_at 4 (by decide +kernel) rfl
theorem tw_635 : Cond.methodLink RX11 329 yX11_differences ∈ gw_tbl := gw_at 635 (by decide +kernel) rfl
theorem tw_637 : Cond.instanceMethod yX11_differences ∈ gw_tbl := gw_at 637 (by decide +kernel) rfl
theorem tw_638 : Cond.code yX11_differences cX11_differences 6 (some .int) ∈ gw_tbl := gw_at 638 (by decide +kernel) rfl
set_option maxRecDepth 20000 in
theorem m_On_findMiscounted (l : Launch) : sv_M l yX11_findMiscounted cX11_findMiscounted 6 (some .boolean) (sv_gI n_On_findMiscounted) 6 := by
  refine sv_mZ (E := ev_On_findMiscounted) (by decide +kernel) (ln_gen fk_11 kk_11 gk_11) rfl ?_ a_On_findMiscounted b_On_findMiscounted
  intro p e R s m args below meth c cells slots Q base ad dC dI cA n0 S hkn hR hf pc n f hcs
  refine sv_lk_all (P := fun pc (x : Nat × sv_F) => sv_cok p l e R s m args below meth c cells slots Q base ad dC dI cA true 6 n0 pc x.1 x.2) ?_ pc (n, f) hcs
  exact List.forall_mem_cons.mpr ⟨(sv_cV S hkn (m_On_think l) ⟨Nat.le_trans (by decide) hR.1, Nat.le_trans (by decide) hR.2⟩ (by decide) hf rfl (g_On_think) (sv_w5 tw_548 tw_550 tw_1 tw_53 tw_551) (by decide +kernel) (sv_dc3 d_On_findMiscounted (pc := 14) rfl rfl)).V,
      List.forall_mem_cons.mpr ⟨(sv_cV S hkn (m_Li_pass l) ⟨Nat.le_trans (by decide) hR.1, Nat.le_trans (by decide) hR.2⟩ (by decide) hf rfl (g_Li_pass) (sv_w5 tw_525 tw_526 tw_527 tw_60 tw_528) (by decide +kernel) (sv_dc3 d_On_findMiscounted (pc := 63) rfl rfl)).I,
      List.forall_mem_cons.mpr ⟨(sv_cV S hkn (m_On_differences l) ⟨Nat.le_trans (by decide) hR.1, Nat.le_trans (by decide) hR.2⟩ (by decide) hf rfl (g_On_differences) (sv_w5 tw_635 tw_637 tw_4 tw_53 tw_638) (by decide +kernel) (sv_dc3 d_On_findMiscounted (pc := 69) rfl rfl)).I,
      fun _ h => absurd h List.not_mem_nil⟩⟩⟩
noncomputable def f_On_isSheet (a0 : Int32) (σ : sv_S) : Option (Int32 × sv_S) :=
  sv_if (a0 < 0)
    (sv_g ((0 : Int32) = 0 ∨ (0 : Int32) = 1) (some ((0 : Int32), σ)))
    (sv_if ((4 : Int32) ≤ a0)
      (sv_g ((0 : Int32) = 0 ∨ (0 : Int32) = 1) (some ((0 : Int32), σ)))
      (sv_g ((1 : Int32) = 0 ∨ (1 : Int32) = 1) (some ((1 : Int32), σ))))
noncomputable def n_On_isSheet : List sv_V → sv_S → Option (Int32 × sv_S)
  | [.inl a0], σ => f_On_isSheet a0 σ
  | _, _ => none
def cd_On_isSheet : sv_C := [(0, (.iload_n 0, (sv_N, (1, (0, []))))), (1, (.ifCond .lt 12, (sv_N, (4, (13, []))))), (4, (.iload_n 0, (sv_N, (5, (0, []))))), (5, (.iconst 4, (.inl (4 : Int32), (6, (0, []))))), (6, (.if_icmp .ge 7, (sv_N, (9, (13, []))))), (9, (.iconst 1, (.inl (1 : Int32), (10, (0, []))))), (10, (.goto 4, (sv_N, (13, (14, []))))), (13, (.iconst 0, (.inl (0 : Int32), (14, (0, []))))), (14, (.ireturn, (sv_N, (15, (0, [])))))]
noncomputable def ev_On_isSheet : sv_E := (fun i => sv_lk i fl_11, (fun i => sv_lk i kc_11, (fun i => bif Nat.beq i 166 then 1 else 0, (true, (fun pc => sv_lk pc [], none)))))
noncomputable def kk_On_isSheet : sv_K (Int32 × sv_S) := fun pc => sv_lk pc []
set_option maxRecDepth 20000 in
theorem e_On_isSheet (a0 : Int32) (σ : sv_S) : sv_ex ev_On_isSheet sv_rZ kk_On_isSheet cd_On_isSheet 11 0 [some (.inl a0)] [] σ = f_On_isSheet a0 σ := by
  unfold f_On_isSheet
  delta ev_On_isSheet kk_On_isSheet
  rfl
theorem d_On_isSheet : cd_On_isSheet.all (sv_dk cX11_isSheet) = true := by decide +kernel
set_option maxRecDepth 20000 in
theorem b_On_isSheet (Γ : sv_Ga) (res : Int32 × sv_S) (X : sv_Ok Γ ev_On_isSheet cX11_isSheet sv_rZ res) (as : List sv_V) (σ : sv_S) (h : n_On_isSheet as σ = some res) : sv_T Γ 0 (sv_e0 1 as) [] σ := by
  unfold n_On_isSheet at h
  split at h
  · refine sv_run X d_On_isSheet (K := kk_On_isSheet) (sv_lk_all (P := fun pc (k : sv_Lo → List sv_V → sv_S → Option (Int32 × sv_S)) => ∀ lo st σ, k lo st σ = some res → sv_T Γ pc lo st σ) ?_) _ _ _ _ _ ((e_On_isSheet _ _).trans h)
    clear h
    exact fun _ h => absurd h List.not_mem_nil
  · cases h
theorem a_On_isSheet (as : List sv_V) (σ : sv_S) (x : Int32 × sv_S) (h : n_On_isSheet as σ = some x) : sv_args 1 ev_On_isSheet.2.2.2.1 as := by
  unfold n_On_isSheet at h
  split at h
  · exact ⟨Nat.le_of_ble_eq_true rfl, fun _ v hv => by
      simp only [List.mem_cons, List.not_mem_nil, or_false] at hv
      rcases hv with rfl <;> trivial⟩
  · cases h

set_option maxRecDepth 20000 in
theorem m_On_isSheet (l : Launch) : sv_M l yX11_isSheet cX11_isSheet 1 (some .boolean) (sv_gI n_On_isSheet) 0 := by
  refine sv_mZ (E := ev_On_isSheet) (by decide +kernel) (ln_gen fk_11 kk_11 gk_11) rfl ?_ a_On_isSheet b_On_isSheet
  intro p e R s m args below meth c cells slots Q base ad dC dI cA n0 S hkn hR hf pc n f hcs
  refine sv_lk_all (P := fun pc (x : Nat × sv_F) => sv_cok p l e R s m args below meth c cells slots Q base ad dC dI cA true 1 n0 pc x.1 x.2) ?_ pc (n, f) hcs
  exact fun _ h => absurd h List.not_mem_nil
noncomputable def f_On_miscounted (a1 : Int32) (a2 : Int32) (a3 : Int32) (σ : sv_S) : Option (Int32 × sv_S) :=
  sv_b (f_On_isSheet a1 σ) (fun v1 σ2 =>
    sv_if (v1 = 0)
      (some ((-1000000001 : Int32), σ2))
      (sv_b (f_On_isWithin a2 (1 : Int32) (60 : Int32) σ2) (fun v3 σ4 =>
        sv_if (v3 = 0)
          (some ((-1000000001 : Int32), σ4))
          (sv_b (f_On_isWithin a3 (0 : Int32) (1 : Int32) σ4) (fun v5 σ6 =>
            sv_if (v5 = 0)
              (some ((-1000000001 : Int32), σ6))
              (sv_g (sv_in a1 4) (sv_b (f_Sh_isMissing (4 * 0 + (a1.toNatClampNeg)) σ6) (fun v7 σ8 =>
                sv_if (v7 = 0)
                  (sv_g (sv_in a1 4) (sv_b (f_On_findMiscounted (4 * 0 + (a1.toNatClampNeg)) a2 σ8) (fun v9 σ10 =>
                    sv_if (v9 = 0)
                      (some ((-1000000005 : Int32), σ10))
                      (sv_g (sv_in a3 3) (some (σ10 17 0 (a3.toNatClampNeg), σ10))))))
                  (some ((-1000000011 : Int32), σ8))))))))))
noncomputable def n_On_miscounted : List sv_V → sv_S → Option (Int32 × sv_S)
  | [.inr (.inr (some (0, 0))), .inl a1, .inl a2, .inl a3], σ => f_On_miscounted a1 a2 a3 σ
  | _, _ => none
def cd_On_miscounted : sv_C := [(0, (.iload_n 1, (sv_N, (1, (0, []))))), (1, (.invokestatic 207, (sv_N, (4, (0, []))))), (4, (.ifCond .eq 22, (sv_N, (7, (26, []))))), (7, (.iload_n 2, (sv_N, (8, (0, []))))), (8, (.iconst 1, (.inl (1 : Int32), (9, (0, []))))), (9, (.bipush 60, (.inl (60 : Int32), (11, (0, []))))), (11, (.invokestatic 83, (sv_N, (14, (0, []))))), (14, (.ifCond .eq 12, (sv_N, (17, (26, []))))), (17, (.iload_n 3, (sv_N, (18, (0, []))))), (18, (.iconst 0, (.inl (0 : Int32), (19, (0, []))))), (19, (.iconst 1, (.inl (1 : Int32), (20, (0, []))))), (20, (.invokestatic 83, (sv_N, (23, (0, []))))), (23, (.ifCond .ne 6, (sv_N, (26, (29, []))))), (26, (.ldc 87, (sv_N, (28, (0, []))))), (28, (.ireturn, (sv_N, (29, (0, []))))), (29, (.aload_n 0, (sv_N, (30, (0, []))))), (30, (.getfield 51, (sv_N, (33, (0, []))))), (33, (.iload_n 1, (sv_N, (34, (0, []))))), (34, (.aaload, (sv_N, (35, (0, []))))), (35, (.invokevirtual 210, (sv_N, (38, (0, []))))), (38, (.ifCond .eq 6, (sv_N, (41, (44, []))))), (41, (.ldc 214, (sv_N, (43, (0, []))))), (43, (.ireturn, (sv_N, (44, (0, []))))), (44, (.aload_n 0, (sv_N, (45, (0, []))))), (45, (.aload_n 0, (sv_N, (46, (0, []))))), (46, (.getfield 51, (sv_N, (49, (0, []))))), (49, (.iload_n 1, (sv_N, (50, (0, []))))), (50, (.aaload, (sv_N, (51, (0, []))))), (51, (.iload_n 2, (sv_N, (52, (0, []))))), (52, (.invokevirtual 215, (sv_N, (55, (0, []))))), (55, (.ifCond .eq 12, (sv_N, (58, (67, []))))), (58, (.aload_n 0, (sv_N, (59, (0, []))))), (59, (.getfield 76, (sv_N, (62, (0, []))))), (62, (.iload_n 3, (sv_N, (63, (0, []))))), (63, (.iaload, (sv_N, (64, (0, []))))), (64, (.goto 5, (sv_N, (67, (69, []))))), (67, (.ldc 124, (sv_N, (69, (0, []))))), (69, (.ireturn, (sv_N, (70, (0, [])))))]
noncomputable def ev_On_miscounted : sv_E := (fun i => sv_lk i fl_11, (fun i => sv_lk i kc_11, (fun i => bif Nat.beq i 166 then 1 else 0, (true, (fun pc => sv_lk pc [(1, (1, .inl n_On_isSheet)), (11, (3, .inl n_On_isWithin)), (20, (3, .inl n_On_isWithin)), (35, (1, .inl n_Sh_isMissing)), (52, (3, .inl n_On_findMiscounted))], none)))))
noncomputable def kk_On_miscounted : sv_K (Int32 × sv_S) := fun pc => sv_lk pc []
set_option maxRecDepth 20000 in
theorem e_On_miscounted (a1 : Int32) (a2 : Int32) (a3 : Int32) (σ : sv_S) : sv_ex ev_On_miscounted sv_rI kk_On_miscounted cd_On_miscounted 40 0 [some (.inr (.inr (some (0, 0)))), some (.inl a1), some (.inl a2), some (.inl a3)] [] σ = f_On_miscounted a1 a2 a3 σ := by
  unfold f_On_miscounted
  delta ev_On_miscounted kk_On_miscounted n_On_isSheet n_On_isWithin n_Sh_isMissing n_On_findMiscounted
  generalize f_On_isSheet = c0
  generalize f_On_isWithin = c1
  generalize f_Sh_isMissing = c2
  generalize f_On_findMiscounted = c3
  rfl
theorem d_On_miscounted : cd_On_miscounted.all (sv_dk cX11_miscounted) = true := by decide +kernel
set_option maxRecDepth 20000 in
theorem b_On_miscounted (Γ : sv_Ga) (res : Int32 × sv_S) (X : sv_Ok Γ ev_On_miscounted cX11_miscounted sv_rI res) (as : List sv_V) (σ : sv_S) (h : n_On_miscounted as σ = some res) : sv_T Γ 0 (sv_e0 4 as) [] σ := by
  unfold n_On_miscounted at h
  split at h
  · refine sv_run X d_On_miscounted (K := kk_On_miscounted) (sv_lk_all (P := fun pc (k : sv_Lo → List sv_V → sv_S → Option (Int32 × sv_S)) => ∀ lo st σ, k lo st σ = some res → sv_T Γ pc lo st σ) ?_) _ _ _ _ _ ((e_On_miscounted _ _ _ _).trans h)
    clear h
    exact fun _ h => absurd h List.not_mem_nil
  · cases h
theorem a_On_miscounted (as : List sv_V) (σ : sv_S) (x : Int32 × sv_S) (h : n_On_miscounted as σ = some x) : sv_args 4 ev_On_miscounted.2.2.2.1 as := by
  unfold n_On_miscounted at h
  split at h
  · exact ⟨Nat.le_of_ble_eq_true rfl, fun _ v hv => by
      simp only [List.mem_cons, List.not_mem_nil, or_false] at hv
      rcases hv with rfl | rfl | rfl | rfl <;> trivial⟩
  · cases h
theorem g_On_miscounted (as : List sv_V) (σ : sv_S) (x : Option sv_V × sv_S) (h : sv_gI n_On_miscounted as σ = some x) : ∃ r i as', as = sv_R r i :: as' ∧ sv_kd r i = .inl 11 := by
  obtain ⟨_, _, h, -⟩ := sv_b_some h
  unfold n_On_miscounted at h
  split at h
  · exact ⟨_, _, _, rfl, rfl⟩
  · cases h
theorem tw_3 : Cond.selects RX11 yX11_findMiscounted yX11_findMiscounted ∈ gw_tbl := gw_at 3 (by decide +kernel) rfl
theorem tw_623 : Cond.methodLink RX11 207 yX11_isSheet ∈ gw_tbl := gw_at 623 (by decide +kernel) rfl
theorem tw_624 : Cond.static yX11_isSheet ∈ gw_tbl := gw_at 624 (by decide +kernel) rfl
theorem tw_625 : Cond.code yX11_isSheet cX11_isSheet 1 (some .boolean) ∈ gw_tbl := gw_at 625 (by decide +kernel) rfl
theorem tw_626 : Cond.methodLink RX11 210 yX6_isMissing ∈ gw_tbl := gw_at 626 (by decide +kernel) rfl
theorem tw_627 : Cond.instanceMethod yX6_isMissing ∈ gw_tbl := gw_at 627 (by decide +kernel) rfl
theorem tw_628 : Cond.selects RX6 yX6_isMissing yX6_isMissing ∈ gw_tbl := gw_at 628 (by decide +kernel) rfl
theorem tw_629 : Cond.code yX6_isMissing cX6_isMissing 1 (some .boolean) ∈ gw_tbl := gw_at 629 (by decide +kernel) rfl
theorem tw_631 : Cond.methodLink RX11 215 yX11_findMiscounted ∈ gw_tbl := gw_at 631 (by decide +kernel) rfl
theorem tw_633 : Cond.instanceMethod yX11_findMiscounted ∈ gw_tbl := gw_at 633 (by decide +kernel) rfl
theorem tw_634 : Cond.code yX11_findMiscounted cX11_findMiscounted 6 (some .boolean) ∈ gw_tbl := gw_at 634 (by decide +kernel) rfl
set_option maxRecDepth 20000 in
theorem m_On_miscounted (l : Launch) : sv_M l yX11_miscounted cX11_miscounted 4 (some .int) (sv_gI n_On_miscounted) 7 := by
  refine sv_mI (E := ev_On_miscounted) (by decide +kernel) (ln_gen fk_11 kk_11 gk_11) rfl ?_ a_On_miscounted b_On_miscounted
  intro p e R s m args below meth c cells slots Q base ad dC dI cA n0 S hkn hR hf pc n f hcs
  refine sv_lk_all (P := fun pc (x : Nat × sv_F) => sv_cok p l e R s m args below meth c cells slots Q base ad dC dI cA true 4 n0 pc x.1 x.2) ?_ pc (n, f) hcs
  exact List.forall_mem_cons.mpr ⟨(sv_cS S hkn (m_On_isSheet l) ⟨Nat.le_trans (by decide) hR.1, Nat.le_trans (by decide) hR.2⟩ (by decide) hf (sv_w4 tw_623 tw_624 tw_53 tw_625) (by decide +kernel) (sv_dc3 d_On_miscounted (pc := 1) rfl rfl)).I,
      List.forall_mem_cons.mpr ⟨(sv_cS S hkn (m_On_isWithin l) ⟨Nat.le_trans (by decide) hR.1, Nat.le_trans (by decide) hR.2⟩ (by decide) hf (sv_w4 tw_327 tw_328 tw_53 tw_329) (by decide +kernel) (sv_dc3 d_On_miscounted (pc := 11) rfl rfl)).I,
      List.forall_mem_cons.mpr ⟨(sv_cS S hkn (m_On_isWithin l) ⟨Nat.le_trans (by decide) hR.1, Nat.le_trans (by decide) hR.2⟩ (by decide) hf (sv_w4 tw_327 tw_328 tw_53 tw_329) (by decide +kernel) (sv_dc3 d_On_miscounted (pc := 20) rfl rfl)).I,
      List.forall_mem_cons.mpr ⟨(sv_cV S hkn (m_Sh_isMissing l) ⟨Nat.le_trans (by decide) hR.1, Nat.le_trans (by decide) hR.2⟩ (by decide) hf rfl (g_Sh_isMissing) (sv_w5 tw_626 tw_627 tw_628 tw_64 tw_629) (by decide +kernel) (sv_dc3 d_On_miscounted (pc := 35) rfl rfl)).I,
      List.forall_mem_cons.mpr ⟨(sv_cV S hkn (m_On_findMiscounted l) ⟨Nat.le_trans (by decide) hR.1, Nat.le_trans (by decide) hR.2⟩ (by decide) hf rfl (g_On_findMiscounted) (sv_w5 tw_631 tw_633 tw_3 tw_53 tw_634) (by decide +kernel) (sv_dc3 d_On_miscounted (pc := 52) rfl rfl)).I,
      fun _ h => absurd h List.not_mem_nil⟩⟩⟩⟩⟩
noncomputable def f_On_fine (σ : sv_S) : Option (Int32 × sv_S) :=
  sv_bT (f_Li_lawOf 0 (2 : Int32) σ) (fun σ1 =>
    sv_b (f_Li_strokesOfAll 0 σ1) (fun v4 σ5 =>
      some (v4, σ5))) (fun t2 σ3 =>
    sv_b (f_Li_strokesOfAll 0 σ3) (fun v6 σ7 =>
      sv_b (f_Te_gives t2 v6 (σ7 1 0 5) (0 : Int32) σ7) (fun v8 σ9 =>
        some (v8, σ9))))
noncomputable def n_On_fine : List sv_V → sv_S → Option (Int32 × sv_S)
  | [.inr (.inr (some (0, 0)))], σ => f_On_fine σ
  | _, _ => none
def cd_On_fine : sv_C := [(0, (.aload_n 0, (sv_N, (1, (0, []))))), (1, (.getfield 30, (sv_N, (4, (0, []))))), (4, (.iconst 2, (.inl (2 : Int32), (5, (0, []))))), (5, (.invokevirtual 219, (sv_N, (8, (0, []))))), (8, (.astore_n 1, (sv_N, (9, (0, []))))), (9, (.aload_n 0, (sv_N, (10, (0, []))))), (10, (.getfield 30, (sv_N, (13, (0, []))))), (13, (.invokevirtual 223, (sv_N, (16, (0, []))))), (16, (.istore_n 2, (sv_N, (17, (0, []))))), (17, (.aload_n 1, (sv_N, (18, (0, []))))), (18, (.ifnonnull 7, (sv_N, (21, (25, []))))), (21, (.iload_n 2, (sv_N, (22, (0, []))))), (22, (.goto 16, (sv_N, (25, (38, []))))), (25, (.aload_n 1, (sv_N, (26, (0, []))))), (26, (.iload_n 2, (sv_N, (27, (0, []))))), (27, (.aload_n 0, (sv_N, (28, (0, []))))), (28, (.getfield 30, (sv_N, (31, (0, []))))), (31, (.getfield 140, (sv_N, (34, (0, []))))), (34, (.iconst 0, (.inl (0 : Int32), (35, (0, []))))), (35, (.invokevirtual 226, (sv_N, (38, (0, []))))), (38, (.ireturn, (sv_N, (39, (0, [])))))]
noncomputable def ev_On_fine : sv_E := (fun i => sv_lk i fl_11, (fun i => sv_lk i kc_11, (fun i => bif Nat.beq i 166 then 1 else 0, (true, (fun pc => sv_lk pc [(5, (2, .inr (.inr (.inr n_Li_lawOf)))), (13, (1, .inl n_Li_strokesOfAll)), (35, (4, .inl n_Te_gives))], none)))))
noncomputable def kk_On_fine : sv_K (Int32 × sv_S) := fun pc => sv_lk pc []
set_option maxRecDepth 20000 in
theorem e_On_fine (σ : sv_S) : sv_ex ev_On_fine sv_rI kk_On_fine cd_On_fine 23 0 [some (.inr (.inr (some (0, 0)))), none, none] [] σ = f_On_fine σ := by
  unfold f_On_fine
  delta ev_On_fine kk_On_fine n_Li_lawOf n_Li_strokesOfAll n_Te_gives
  generalize f_Li_lawOf = c0
  generalize f_Li_strokesOfAll = c1
  generalize f_Te_gives = c2
  rfl
theorem d_On_fine : cd_On_fine.all (sv_dk cX11_fine) = true := by decide +kernel
set_option maxRecDepth 20000 in
theorem b_On_fine (Γ : sv_Ga) (res : Int32 × sv_S) (X : sv_Ok Γ ev_On_fine cX11_fine sv_rI res) (as : List sv_V) (σ : sv_S) (h : n_On_fine as σ = some res) : sv_T Γ 0 (sv_e0 3 as) [] σ := by
  unfold n_On_fine at h
  split at h
  · refine sv_run X d_On_fine (K := kk_On_fine) (sv_lk_all (P := fun pc (k : sv_Lo → List sv_V → sv_S → Option (Int32 × sv_S)) => ∀ lo st σ, k lo st σ = some res → sv_T Γ pc lo st σ) ?_) _ _ _ _ _ ((e_On_fine _).trans h)
    clear h
    exact fun _ h => absurd h List.not_mem_nil
  · cases h
theorem a_On_fine (as : List sv_V) (σ : sv_S) (x : Int32 × sv_S) (h : n_On_fine as σ = some x) : sv_args 3 ev_On_fine.2.2.2.1 as := by
  unfold n_On_fine at h
  split at h
  · exact ⟨Nat.le_of_ble_eq_true rfl, fun _ v hv => by
      simp only [List.mem_cons, List.not_mem_nil, or_false] at hv
      rcases hv with rfl <;> trivial⟩
  · cases h
theorem g_On_fine (as : List sv_V) (σ : sv_S) (x : Option sv_V × sv_S) (h : sv_gI n_On_fine as σ = some x) : ∃ r i as', as = sv_R r i :: as' ∧ sv_kd r i = .inl 11 := by
  obtain ⟨_, _, h, -⟩ := sv_b_some h
  unfold n_On_fine at h
  split at h
  · exact ⟨_, _, _, rfl, rfl⟩
  · cases h
theorem tw_655 : Cond.methodLink RX11 219 yX5_lawOf ∈ gw_tbl := gw_at 655 (by decide +kernel) rfl
theorem tw_656 : Cond.methodLink RX11 223 yX5_strokesOfAll ∈ gw_tbl := gw_at 656 (by decide +kernel) rfl
theorem tw_657 : Cond.instanceMethod yX5_strokesOfAll ∈ gw_tbl := gw_at 657 (by decide +kernel) rfl
theorem tw_658 : Cond.selects RX5 yX5_strokesOfAll yX5_strokesOfAll ∈ gw_tbl := gw_at 658 (by decide +kernel) rfl
theorem tw_659 : Cond.code yX5_strokesOfAll cX5_strokesOfAll 3 (some .int) ∈ gw_tbl := gw_at 659 (by decide +kernel) rfl
theorem tw_660 : Cond.methodLink RX11 226 yX9_gives ∈ gw_tbl := gw_at 660 (by decide +kernel) rfl
set_option maxRecDepth 20000 in
theorem m_On_fine (l : Launch) : sv_M l yX11_fine cX11_fine 3 (some .int) (sv_gI n_On_fine) 2 := by
  refine sv_mI (E := ev_On_fine) (by decide +kernel) (ln_gen fk_11 kk_11 gk_11) rfl ?_ a_On_fine b_On_fine
  intro p e R s m args below meth c cells slots Q base ad dC dI cA n0 S hkn hR hf pc n f hcs
  refine sv_lk_all (P := fun pc (x : Nat × sv_F) => sv_cok p l e R s m args below meth c cells slots Q base ad dC dI cA true 3 n0 pc x.1 x.2) ?_ pc (n, f) hcs
  exact List.forall_mem_cons.mpr ⟨(sv_cV S hkn (m_Li_lawOf l) ⟨Nat.le_trans (by decide) hR.1, Nat.le_trans (by decide) hR.2⟩ (by decide) hf rfl (g_Li_lawOf) (sv_w5 tw_655 tw_386 tw_387 tw_60 tw_388) (by decide +kernel) (sv_dc3 d_On_fine (pc := 5) rfl rfl)).T,
      List.forall_mem_cons.mpr ⟨(sv_cV S hkn (m_Li_strokesOfAll l) ⟨Nat.le_trans (by decide) hR.1, Nat.le_trans (by decide) hR.2⟩ (by decide) hf rfl (g_Li_strokesOfAll) (sv_w5 tw_656 tw_657 tw_658 tw_60 tw_659) (by decide +kernel) (sv_dc3 d_On_fine (pc := 13) rfl rfl)).I,
      List.forall_mem_cons.mpr ⟨(sv_cV S hkn (m_Te_gives l) ⟨Nat.le_trans (by decide) hR.1, Nat.le_trans (by decide) hR.2⟩ (by decide) hf rfl (g_Te_gives) (sv_w5 tw_660 tw_390 tw_391 tw_67 tw_392) (by decide +kernel) (sv_dc3 d_On_fine (pc := 35) rfl rfl)).I,
      fun _ h => absurd h List.not_mem_nil⟩⟩⟩
noncomputable def f_On_feed (a1 : Int32) (a2 : Int32) (a3 : Int32) (σ : sv_S) : Option (Int32 × sv_S) :=
  sv_if (((σ 8 0 1) + (12 : Int32)) ≤ (96 : Int32))
    (sv_b0 (f_Ta_takeIn a1 σ) (fun σ1 =>
      sv_b0 (f_Ta_takeIn a2 σ1) (fun σ2 =>
        sv_b0 (f_Ta_takeIn a3 σ2) (fun σ3 =>
          some (σ3 8 0 1, σ3)))))
    (some ((-1000000003 : Int32), σ))
noncomputable def n_On_feed : List sv_V → sv_S → Option (Int32 × sv_S)
  | [.inr (.inr (some (0, 0))), .inl a1, .inl a2, .inl a3], σ => f_On_feed a1 a2 a3 σ
  | _, _ => none
def cd_On_feed : sv_C := [(0, (.aload_n 0, (sv_N, (1, (0, []))))), (1, (.getfield 45, (sv_N, (4, (0, []))))), (4, (.getfield 232, (sv_N, (7, (0, []))))), (7, (.bipush 12, (.inl (12 : Int32), (9, (0, []))))), (9, (.iadd, (sv_N, (10, (0, []))))), (10, (.bipush 96, (.inl (96 : Int32), (12, (0, []))))), (12, (.if_icmp .le 6, (sv_N, (15, (18, []))))), (15, (.ldc 92, (sv_N, (17, (0, []))))), (17, (.ireturn, (sv_N, (18, (0, []))))), (18, (.aload_n 0, (sv_N, (19, (0, []))))), (19, (.getfield 45, (sv_N, (22, (0, []))))), (22, (.iload_n 1, (sv_N, (23, (0, []))))), (23, (.invokevirtual 235, (sv_N, (26, (0, []))))), (26, (.aload_n 0, (sv_N, (27, (0, []))))), (27, (.getfield 45, (sv_N, (30, (0, []))))), (30, (.iload_n 2, (sv_N, (31, (0, []))))), (31, (.invokevirtual 235, (sv_N, (34, (0, []))))), (34, (.aload_n 0, (sv_N, (35, (0, []))))), (35, (.getfield 45, (sv_N, (38, (0, []))))), (38, (.iload_n 3, (sv_N, (39, (0, []))))), (39, (.invokevirtual 235, (sv_N, (42, (0, []))))), (42, (.aload_n 0, (sv_N, (43, (0, []))))), (43, (.getfield 45, (sv_N, (46, (0, []))))), (46, (.getfield 232, (sv_N, (49, (0, []))))), (49, (.ireturn, (sv_N, (50, (0, [])))))]
noncomputable def ev_On_feed : sv_E := (fun i => sv_lk i fl_11, (fun i => sv_lk i kc_11, (fun i => bif Nat.beq i 166 then 1 else 0, (true, (fun pc => sv_lk pc [(23, (2, .inr (.inl n_Ta_takeIn))), (31, (2, .inr (.inl n_Ta_takeIn))), (39, (2, .inr (.inl n_Ta_takeIn)))], none)))))
noncomputable def kk_On_feed : sv_K (Int32 × sv_S) := fun pc => sv_lk pc []
set_option maxRecDepth 20000 in
theorem e_On_feed (a1 : Int32) (a2 : Int32) (a3 : Int32) (σ : sv_S) : sv_ex ev_On_feed sv_rI kk_On_feed cd_On_feed 27 0 [some (.inr (.inr (some (0, 0)))), some (.inl a1), some (.inl a2), some (.inl a3)] [] σ = f_On_feed a1 a2 a3 σ := by
  unfold f_On_feed
  delta ev_On_feed kk_On_feed n_Ta_takeIn
  generalize f_Ta_takeIn = c0
  rfl
theorem d_On_feed : cd_On_feed.all (sv_dk cX11_feed) = true := by decide +kernel
set_option maxRecDepth 20000 in
theorem b_On_feed (Γ : sv_Ga) (res : Int32 × sv_S) (X : sv_Ok Γ ev_On_feed cX11_feed sv_rI res) (as : List sv_V) (σ : sv_S) (h : n_On_feed as σ = some res) : sv_T Γ 0 (sv_e0 4 as) [] σ := by
  unfold n_On_feed at h
  split at h
  · refine sv_run X d_On_feed (K := kk_On_feed) (sv_lk_all (P := fun pc (k : sv_Lo → List sv_V → sv_S → Option (Int32 × sv_S)) => ∀ lo st σ, k lo st σ = some res → sv_T Γ pc lo st σ) ?_) _ _ _ _ _ ((e_On_feed _ _ _ _).trans h)
    clear h
    exact fun _ h => absurd h List.not_mem_nil
  · cases h
theorem a_On_feed (as : List sv_V) (σ : sv_S) (x : Int32 × sv_S) (h : n_On_feed as σ = some x) : sv_args 4 ev_On_feed.2.2.2.1 as := by
  unfold n_On_feed at h
  split at h
  · exact ⟨Nat.le_of_ble_eq_true rfl, fun _ v hv => by
      simp only [List.mem_cons, List.not_mem_nil, or_false] at hv
      rcases hv with rfl | rfl | rfl | rfl <;> trivial⟩
  · cases h
theorem g_On_feed (as : List sv_V) (σ : sv_S) (x : Option sv_V × sv_S) (h : sv_gI n_On_feed as σ = some x) : ∃ r i as', as = sv_R r i :: as' ∧ sv_kd r i = .inl 11 := by
  obtain ⟨_, _, h, -⟩ := sv_b_some h
  unfold n_On_feed at h
  split at h
  · exact ⟨_, _, _, rfl, rfl⟩
  · cases h
theorem tw_665 : Cond.methodLink RX11 235 yX8_takeIn ∈ gw_tbl := gw_at 665 (by decide +kernel) rfl
theorem tw_666 : Cond.instanceMethod yX8_takeIn ∈ gw_tbl := gw_at 666 (by decide +kernel) rfl
theorem tw_667 : Cond.selects RX8 yX8_takeIn yX8_takeIn ∈ gw_tbl := gw_at 667 (by decide +kernel) rfl
theorem tw_668 : Cond.code yX8_takeIn cX8_takeIn 3 none ∈ gw_tbl := gw_at 668 (by decide +kernel) rfl
set_option maxRecDepth 20000 in
theorem m_On_feed (l : Launch) : sv_M l yX11_feed cX11_feed 4 (some .int) (sv_gI n_On_feed) 1 := by
  refine sv_mI (E := ev_On_feed) (by decide +kernel) (ln_gen fk_11 kk_11 gk_11) rfl ?_ a_On_feed b_On_feed
  intro p e R s m args below meth c cells slots Q base ad dC dI cA n0 S hkn hR hf pc n f hcs
  refine sv_lk_all (P := fun pc (x : Nat × sv_F) => sv_cok p l e R s m args below meth c cells slots Q base ad dC dI cA true 4 n0 pc x.1 x.2) ?_ pc (n, f) hcs
  exact List.forall_mem_cons.mpr ⟨(sv_cV S hkn (m_Ta_takeIn l) ⟨Nat.le_trans (by decide) hR.1, Nat.le_trans (by decide) hR.2⟩ (by decide) hf rfl (g_Ta_takeIn) (sv_w5 tw_665 tw_666 tw_667 tw_63 tw_668) (by decide +kernel) (sv_dc3 d_On_feed (pc := 23) rfl rfl)).V,
      List.forall_mem_cons.mpr ⟨(sv_cV S hkn (m_Ta_takeIn l) ⟨Nat.le_trans (by decide) hR.1, Nat.le_trans (by decide) hR.2⟩ (by decide) hf rfl (g_Ta_takeIn) (sv_w5 tw_665 tw_666 tw_667 tw_63 tw_668) (by decide +kernel) (sv_dc3 d_On_feed (pc := 31) rfl rfl)).V,
      List.forall_mem_cons.mpr ⟨(sv_cV S hkn (m_Ta_takeIn l) ⟨Nat.le_trans (by decide) hR.1, Nat.le_trans (by decide) hR.2⟩ (by decide) hf rfl (g_Ta_takeIn) (sv_w5 tw_665 tw_666 tw_667 tw_63 tw_668) (by decide +kernel) (sv_dc3 d_On_feed (pc := 39) rfl rfl)).V,
      fun _ h => absurd h List.not_mem_nil⟩⟩⟩
