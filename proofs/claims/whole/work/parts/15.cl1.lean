noncomputable def f_Dr_countAgo (a0 : Nat) (a1 : Int32) (σ : sv_S) : Option (Int32 × sv_S) :=
  sv_if (0 < a1)
    (sv_if (a1 = (1 : Int32))
      (some (σ 2 a0 3, σ))
      (some (σ 2 a0 4, σ)))
    (some (σ 2 a0 2, σ))
noncomputable def n_Dr_countAgo : List sv_V → sv_S → Option (Int32 × sv_S)
  | [.inr (.inr (some (2, a0))), .inl a1], σ => f_Dr_countAgo a0 a1 σ
  | _, _ => none
def cd_Dr_countAgo : sv_C := [(0, (.iload_n 1, (sv_N, (1, (0, []))))), (1, (.ifCond .gt 8, (sv_N, (4, (9, []))))), (4, (.aload_n 0, (sv_N, (5, (0, []))))), (5, (.getfield 30, (sv_N, (8, (0, []))))), (8, (.ireturn, (sv_N, (9, (0, []))))), (9, (.iload_n 1, (sv_N, (10, (0, []))))), (10, (.iconst 1, (.inl (1 : Int32), (11, (0, []))))), (11, (.if_icmp .ne 10, (sv_N, (14, (21, []))))), (14, (.aload_n 0, (sv_N, (15, (0, []))))), (15, (.getfield 33, (sv_N, (18, (0, []))))), (18, (.goto 7, (sv_N, (21, (25, []))))), (21, (.aload_n 0, (sv_N, (22, (0, []))))), (22, (.getfield 36, (sv_N, (25, (0, []))))), (25, (.ireturn, (sv_N, (26, (0, [])))))]
noncomputable def ev_Dr_countAgo : sv_E := (fun i => sv_lk i fl_1, (fun i => sv_lk i kc_1, (fun _ => 0, (true, (fun pc => sv_lk pc [], none)))))
noncomputable def kk_Dr_countAgo : sv_K (Int32 × sv_S) := fun pc => sv_lk pc []
set_option maxRecDepth 20000 in
theorem e_Dr_countAgo (a0 : Nat) (a1 : Int32) (σ : sv_S) : sv_ex ev_Dr_countAgo sv_rI kk_Dr_countAgo cd_Dr_countAgo 16 0 [some (.inr (.inr (some (2, a0)))), some (.inl a1)] [] σ = f_Dr_countAgo a0 a1 σ := by
  unfold f_Dr_countAgo
  delta ev_Dr_countAgo kk_Dr_countAgo
  rfl
theorem d_Dr_countAgo : cd_Dr_countAgo.all (sv_dk cX1_countAgo) = true := by decide +kernel
set_option maxRecDepth 20000 in
theorem b_Dr_countAgo (Γ : sv_Ga) (res : Int32 × sv_S) (X : sv_Ok Γ ev_Dr_countAgo cX1_countAgo sv_rI res) (as : List sv_V) (σ : sv_S) (h : n_Dr_countAgo as σ = some res) : sv_T Γ 0 (sv_e0 2 as) [] σ := by
  unfold n_Dr_countAgo at h
  split at h
  · refine sv_run X d_Dr_countAgo (K := kk_Dr_countAgo) (sv_lk_all (P := fun pc (k : sv_Lo → List sv_V → sv_S → Option (Int32 × sv_S)) => ∀ lo st σ, k lo st σ = some res → sv_T Γ pc lo st σ) ?_) _ _ _ _ _ ((e_Dr_countAgo _ _ _).trans h)
    clear h
    exact fun _ h => absurd h List.not_mem_nil
  · cases h
theorem a_Dr_countAgo (as : List sv_V) (σ : sv_S) (x : Int32 × sv_S) (h : n_Dr_countAgo as σ = some x) : sv_args 2 ev_Dr_countAgo.2.2.2.1 as := by
  unfold n_Dr_countAgo at h
  split at h
  · exact ⟨Nat.le_of_ble_eq_true rfl, fun _ v hv => by
      simp only [List.mem_cons, List.not_mem_nil, or_false] at hv
      rcases hv with rfl | rfl <;> trivial⟩
  · cases h
theorem g_Dr_countAgo (as : List sv_V) (σ : sv_S) (x : Option sv_V × sv_S) (h : sv_gI n_Dr_countAgo as σ = some x) : ∃ r i as', as = sv_R r i :: as' ∧ sv_kd r i = .inl 1 := by
  obtain ⟨_, _, h, -⟩ := sv_b_some h
  unfold n_Dr_countAgo at h
  split at h
  · exact ⟨_, _, _, rfl, rfl⟩
  · cases h

set_option maxRecDepth 20000 in
theorem m_Dr_countAgo (l : Launch) : sv_M l yX1_countAgo cX1_countAgo 2 (some .int) (sv_gI n_Dr_countAgo) 0 := by
  refine sv_mI (E := ev_Dr_countAgo) (by decide +kernel) (ln_gen fk_1 kk_1 (sv_ns _ (fun _ => rfl) _)) rfl ?_ a_Dr_countAgo b_Dr_countAgo
  intro p e R s m args below meth c cells slots Q base ad dC dI cA n0 S hkn hR hf pc n f hcs
  refine sv_lk_all (P := fun pc (x : Nat × sv_F) => sv_cok p l e R s m args below meth c cells slots Q base ad dC dI cA true 2 n0 pc x.1 x.2) ?_ pc (n, f) hcs
  exact fun _ h => absurd h List.not_mem_nil
noncomputable def f_Li_soundFrom (a0 : Nat) (a1 : Int32) (a2 : Int32) (σ : sv_S) : Option (Int32 × sv_S) :=
  sv_if (a1 < 0)
    (some ((0 : Int32), σ))
    (sv_if (a1 < (σ 1 a0 4))
      (sv_b (f_Jm_min a1 a2 σ) (fun v1 σ2 =>
        sv_g (sv_in v1 (sv_ln 3 a0 σ2)) (sv_g (sv_in a1 (sv_ln 3 a0 σ2)) (sv_b (f_Dr_countAgo (10 * a0 + (a1.toNatClampNeg)) ((σ2 2 (10 * a0 + (v1.toNatClampNeg)) 6) - (1 : Int32)) σ2) (fun v3 σ4 =>
          some (v3, σ4))))))
      (some ((0 : Int32), σ)))
noncomputable def n_Li_soundFrom : List sv_V → sv_S → Option (Int32 × sv_S)
  | [.inr (.inr (some (1, a0))), .inl a1, .inl a2], σ => f_Li_soundFrom a0 a1 a2 σ
  | _, _ => none
def cd_Li_soundFrom : sv_C := [(0, (.iload_n 1, (sv_N, (1, (0, []))))), (1, (.ifCond .lt 11, (sv_N, (4, (12, []))))), (4, (.iload_n 1, (sv_N, (5, (0, []))))), (5, (.aload_n 0, (sv_N, (6, (0, []))))), (6, (.getfield 42, (sv_N, (9, (0, []))))), (9, (.if_icmp .lt 5, (sv_N, (12, (14, []))))), (12, (.iconst 0, (.inl (0 : Int32), (13, (0, []))))), (13, (.ireturn, (sv_N, (14, (0, []))))), (14, (.aload_n 0, (sv_N, (15, (0, []))))), (15, (.getfield 17, (sv_N, (18, (0, []))))), (18, (.iload_n 1, (sv_N, (19, (0, []))))), (19, (.iload_n 2, (sv_N, (20, (0, []))))), (20, (.invokestatic 75, (sv_N, (23, (0, []))))), (23, (.aaload, (sv_N, (24, (0, []))))), (24, (.getfield 81, (sv_N, (27, (0, []))))), (27, (.istore_n 3, (sv_N, (28, (0, []))))), (28, (.aload_n 0, (sv_N, (29, (0, []))))), (29, (.getfield 17, (sv_N, (32, (0, []))))), (32, (.iload_n 1, (sv_N, (33, (0, []))))), (33, (.aaload, (sv_N, (34, (0, []))))), (34, (.iload_n 3, (sv_N, (35, (0, []))))), (35, (.iconst 1, (.inl (1 : Int32), (36, (0, []))))), (36, (.isub, (sv_N, (37, (0, []))))), (37, (.invokevirtual 84, (sv_N, (40, (0, []))))), (40, (.ireturn, (sv_N, (41, (0, [])))))]
noncomputable def ev_Li_soundFrom : sv_E := (fun i => sv_lk i fl_5, (fun i => sv_lk i kc_5, (fun _ => 0, (true, (fun pc => sv_lk pc [(20, (2, .inl n_Jm_min)), (37, (2, .inl n_Dr_countAgo))], none)))))
noncomputable def kk_Li_soundFrom : sv_K (Int32 × sv_S) := fun pc => sv_lk pc []
set_option maxRecDepth 20000 in
theorem e_Li_soundFrom (a0 : Nat) (a1 : Int32) (a2 : Int32) (σ : sv_S) : sv_ex ev_Li_soundFrom sv_rI kk_Li_soundFrom cd_Li_soundFrom 27 0 [some (.inr (.inr (some (1, a0)))), some (.inl a1), some (.inl a2), none] [] σ = f_Li_soundFrom a0 a1 a2 σ := by
  unfold f_Li_soundFrom
  delta ev_Li_soundFrom kk_Li_soundFrom n_Jm_min n_Dr_countAgo
  generalize f_Jm_min = c0
  generalize f_Dr_countAgo = c1
  rfl
theorem d_Li_soundFrom : cd_Li_soundFrom.all (sv_dk cX5_soundFrom) = true := by decide +kernel
set_option maxRecDepth 20000 in
theorem b_Li_soundFrom (Γ : sv_Ga) (res : Int32 × sv_S) (X : sv_Ok Γ ev_Li_soundFrom cX5_soundFrom sv_rI res) (as : List sv_V) (σ : sv_S) (h : n_Li_soundFrom as σ = some res) : sv_T Γ 0 (sv_e0 4 as) [] σ := by
  unfold n_Li_soundFrom at h
  split at h
  · refine sv_run X d_Li_soundFrom (K := kk_Li_soundFrom) (sv_lk_all (P := fun pc (k : sv_Lo → List sv_V → sv_S → Option (Int32 × sv_S)) => ∀ lo st σ, k lo st σ = some res → sv_T Γ pc lo st σ) ?_) _ _ _ _ _ ((e_Li_soundFrom _ _ _ _).trans h)
    clear h
    exact fun _ h => absurd h List.not_mem_nil
  · cases h
theorem a_Li_soundFrom (as : List sv_V) (σ : sv_S) (x : Int32 × sv_S) (h : n_Li_soundFrom as σ = some x) : sv_args 4 ev_Li_soundFrom.2.2.2.1 as := by
  unfold n_Li_soundFrom at h
  split at h
  · exact ⟨Nat.le_of_ble_eq_true rfl, fun _ v hv => by
      simp only [List.mem_cons, List.not_mem_nil, or_false] at hv
      rcases hv with rfl | rfl | rfl <;> trivial⟩
  · cases h
theorem g_Li_soundFrom (as : List sv_V) (σ : sv_S) (x : Option sv_V × sv_S) (h : sv_gI n_Li_soundFrom as σ = some x) : ∃ r i as', as = sv_R r i :: as' ∧ sv_kd r i = .inl 5 := by
  obtain ⟨_, _, h, -⟩ := sv_b_some h
  unfold n_Li_soundFrom at h
  split at h
  · exact ⟨_, _, _, rfl, rfl⟩
  · cases h
theorem tw_61 : Cond.initialized RX1 ∈ gw_tbl := gw_at 61 (by decide +kernel) rfl
theorem tw_368 : Cond.methodLink RX5 75 Lib.Math.min.name ∈ gw_tbl := gw_at 368 (by decide +kernel) rfl
theorem tw_371 : Cond.methodLink RX5 84 yX1_countAgo ∈ gw_tbl := gw_at 371 (by decide +kernel) rfl
theorem tw_372 : Cond.instanceMethod yX1_countAgo ∈ gw_tbl := gw_at 372 (by decide +kernel) rfl
theorem tw_373 : Cond.selects RX1 yX1_countAgo yX1_countAgo ∈ gw_tbl := gw_at 373 (by decide +kernel) rfl
theorem tw_374 : Cond.code yX1_countAgo cX1_countAgo 2 (some .int) ∈ gw_tbl := gw_at 374 (by decide +kernel) rfl
set_option maxRecDepth 20000 in
theorem m_Li_soundFrom (l : Launch) : sv_M l yX5_soundFrom cX5_soundFrom 4 (some .int) (sv_gI n_Li_soundFrom) 1 := by
  refine sv_mI (E := ev_Li_soundFrom) (by decide +kernel) (ln_gen fk_5 kk_5 (sv_ns _ (fun _ => rfl) _)) rfl ?_ a_Li_soundFrom b_Li_soundFrom
  intro p e R s m args below meth c cells slots Q base ad dC dI cA n0 S hkn hR hf pc n f hcs
  refine sv_lk_all (P := fun pc (x : Nat × sv_F) => sv_cok p l e R s m args below meth c cells slots Q base ad dC dI cA true 4 n0 pc x.1 x.2) ?_ pc (n, f) hcs
  exact List.forall_mem_cons.mpr ⟨(sv_cmin S ⟨Nat.le_trans (by decide) hR.1, Nat.le_trans (by decide) hR.2⟩ hf (sv_w4 tw_368 tw_369 tw_66 tw_370) (sv_dc3 d_Li_soundFrom (pc := 20) rfl rfl)).I,
      List.forall_mem_cons.mpr ⟨(sv_cV S hkn (m_Dr_countAgo l) ⟨Nat.le_trans (by decide) hR.1, Nat.le_trans (by decide) hR.2⟩ (by decide) hf rfl (g_Dr_countAgo) (sv_w5 tw_371 tw_372 tw_373 tw_61 tw_374) (by decide +kernel) (sv_dc3 d_Li_soundFrom (pc := 37) rfl rfl)).I,
      fun _ h => absurd h List.not_mem_nil⟩⟩
noncomputable def f_De_hears (a0 : Nat) (a1 : Nat) (a2 : Int32) (σ : sv_S) : Option (Int32 × sv_S) :=
  sv_b (f_Li_soundFrom a1 (a2 - (1 : Int32)) a2 σ) (fun v1 σ2 =>
    sv_if (v1 ≤ 0)
      (sv_g ((0 : Int32) = 0 ∨ (0 : Int32) = 1) (some ((0 : Int32), σ2)))
      (sv_g ((1 : Int32) = 0 ∨ (1 : Int32) = 1) (some ((1 : Int32), σ2))))
noncomputable def n_De_hears : List sv_V → sv_S → Option (Int32 × sv_S)
  | [.inr (.inr (some (7, a0))), .inr (.inr (some (1, a1))), .inl a2], σ => f_De_hears a0 a1 a2 σ
  | _, _ => none
def cd_De_hears : sv_C := [(0, (.aload_n 1, (sv_N, (1, (0, []))))), (1, (.iload_n 2, (sv_N, (2, (0, []))))), (2, (.iconst 1, (.inl (1 : Int32), (3, (0, []))))), (3, (.isub, (sv_N, (4, (0, []))))), (4, (.iload_n 2, (sv_N, (5, (0, []))))), (5, (.invokevirtual 7, (sv_N, (8, (0, []))))), (8, (.ifCond .le 7, (sv_N, (11, (15, []))))), (11, (.iconst 1, (.inl (1 : Int32), (12, (0, []))))), (12, (.goto 4, (sv_N, (15, (16, []))))), (15, (.iconst 0, (.inl (0 : Int32), (16, (0, []))))), (16, (.ireturn, (sv_N, (17, (0, [])))))]
noncomputable def ev_De_hears : sv_E := (fun i => sv_lk i fl_0, (fun i => sv_lk i kc_0, (fun _ => 0, (true, (fun pc => sv_lk pc [(5, (3, .inl n_Li_soundFrom))], none)))))
noncomputable def kk_De_hears : sv_K (Int32 × sv_S) := fun pc => sv_lk pc []
set_option maxRecDepth 20000 in
theorem e_De_hears (a0 : Nat) (a1 : Nat) (a2 : Int32) (σ : sv_S) : sv_ex ev_De_hears sv_rZ kk_De_hears cd_De_hears 13 0 [some (.inr (.inr (some (7, a0)))), some (.inr (.inr (some (1, a1)))), some (.inl a2)] [] σ = f_De_hears a0 a1 a2 σ := by
  unfold f_De_hears
  delta ev_De_hears kk_De_hears n_Li_soundFrom
  generalize f_Li_soundFrom = c0
  rfl
theorem d_De_hears : cd_De_hears.all (sv_dk cX0_hears) = true := by decide +kernel
set_option maxRecDepth 20000 in
theorem b_De_hears (Γ : sv_Ga) (res : Int32 × sv_S) (X : sv_Ok Γ ev_De_hears cX0_hears sv_rZ res) (as : List sv_V) (σ : sv_S) (h : n_De_hears as σ = some res) : sv_T Γ 0 (sv_e0 3 as) [] σ := by
  unfold n_De_hears at h
  split at h
  · refine sv_run X d_De_hears (K := kk_De_hears) (sv_lk_all (P := fun pc (k : sv_Lo → List sv_V → sv_S → Option (Int32 × sv_S)) => ∀ lo st σ, k lo st σ = some res → sv_T Γ pc lo st σ) ?_) _ _ _ _ _ ((e_De_hears _ _ _ _).trans h)
    clear h
    exact fun _ h => absurd h List.not_mem_nil
  · cases h
theorem a_De_hears (as : List sv_V) (σ : sv_S) (x : Int32 × sv_S) (h : n_De_hears as σ = some x) : sv_args 3 ev_De_hears.2.2.2.1 as := by
  unfold n_De_hears at h
  split at h
  · exact ⟨Nat.le_of_ble_eq_true rfl, fun _ v hv => by
      simp only [List.mem_cons, List.not_mem_nil, or_false] at hv
      rcases hv with rfl | rfl | rfl <;> trivial⟩
  · cases h
theorem gs_De_hears (as : List sv_V) (σ : sv_S) (x : Option sv_V × sv_S) (h : sv_gI n_De_hears as σ = some x) : ∃ r i as' ci q, as = sv_R r i :: as' ∧ sv_kd r i = .inl ci ∧ vwCl[ci]? = some q := by
  obtain ⟨_, _, h, -⟩ := sv_b_some h
  unfold n_De_hears at h
  split at h
  · obtain ⟨ci, q, h1, h2⟩ := sv_kd7 _
    exact ⟨_, _, _, ci, q, rfl, h1, h2⟩
  · cases h
theorem tw_60 : Cond.initialized RX5 ∈ gw_tbl := gw_at 60 (by decide +kernel) rfl
theorem tw_364 : Cond.methodLink RX0 7 yX5_soundFrom ∈ gw_tbl := gw_at 364 (by decide +kernel) rfl
theorem tw_365 : Cond.instanceMethod yX5_soundFrom ∈ gw_tbl := gw_at 365 (by decide +kernel) rfl
theorem tw_366 : Cond.selects RX5 yX5_soundFrom yX5_soundFrom ∈ gw_tbl := gw_at 366 (by decide +kernel) rfl
theorem tw_367 : Cond.code yX5_soundFrom cX5_soundFrom 4 (some .int) ∈ gw_tbl := gw_at 367 (by decide +kernel) rfl
set_option maxRecDepth 20000 in
theorem m_De_hears (l : Launch) : sv_M l yX0_hears cX0_hears 3 (some .boolean) (sv_gI n_De_hears) 2 := by
  refine sv_mZ (E := ev_De_hears) (by decide +kernel) (ln_gen fk_0 kk_0 (sv_ns _ (fun _ => rfl) _)) rfl ?_ a_De_hears b_De_hears
  intro p e R s m args below meth c cells slots Q base ad dC dI cA n0 S hkn hR hf pc n f hcs
  refine sv_lk_all (P := fun pc (x : Nat × sv_F) => sv_cok p l e R s m args below meth c cells slots Q base ad dC dI cA true 3 n0 pc x.1 x.2) ?_ pc (n, f) hcs
  exact List.forall_mem_cons.mpr ⟨(sv_cV S hkn (m_Li_soundFrom l) ⟨Nat.le_trans (by decide) hR.1, Nat.le_trans (by decide) hR.2⟩ (by decide) hf rfl (g_Li_soundFrom) (sv_w5 tw_364 tw_365 tw_366 tw_60 tw_367) (by decide +kernel) (sv_dc3 d_De_hears (pc := 5) rfl rfl)).I,
      fun _ h => absurd h List.not_mem_nil⟩
noncomputable def f_De_worth (a0 : Nat) (a1 : Int32) (σ : sv_S) : Option (Int32 × sv_S) :=
  some ((6 : Int32), σ)
noncomputable def n_De_worth : List sv_V → sv_S → Option (Int32 × sv_S)
  | [.inr (.inr (some (7, a0))), .inl a1], σ => f_De_worth a0 a1 σ
  | _, _ => none
def cd_De_worth : sv_C := [(0, (.bipush 6, (.inl (6 : Int32), (2, (0, []))))), (2, (.ireturn, (sv_N, (3, (0, [])))))]
noncomputable def ev_De_worth : sv_E := (fun i => sv_lk i fl_0, (fun i => sv_lk i kc_0, (fun _ => 0, (true, (fun pc => sv_lk pc [], none)))))
noncomputable def kk_De_worth : sv_K (Int32 × sv_S) := fun pc => sv_lk pc []
set_option maxRecDepth 20000 in
theorem e_De_worth (a0 : Nat) (a1 : Int32) (σ : sv_S) : sv_ex ev_De_worth sv_rI kk_De_worth cd_De_worth 4 0 [some (.inr (.inr (some (7, a0)))), some (.inl a1)] [] σ = f_De_worth a0 a1 σ := by
  unfold f_De_worth
  delta ev_De_worth kk_De_worth
  rfl
theorem d_De_worth : cd_De_worth.all (sv_dk cX0_worth) = true := by decide +kernel
set_option maxRecDepth 20000 in
theorem b_De_worth (Γ : sv_Ga) (res : Int32 × sv_S) (X : sv_Ok Γ ev_De_worth cX0_worth sv_rI res) (as : List sv_V) (σ : sv_S) (h : n_De_worth as σ = some res) : sv_T Γ 0 (sv_e0 2 as) [] σ := by
  unfold n_De_worth at h
  split at h
  · refine sv_run X d_De_worth (K := kk_De_worth) (sv_lk_all (P := fun pc (k : sv_Lo → List sv_V → sv_S → Option (Int32 × sv_S)) => ∀ lo st σ, k lo st σ = some res → sv_T Γ pc lo st σ) ?_) _ _ _ _ _ ((e_De_worth _ _ _).trans h)
    clear h
    exact fun _ h => absurd h List.not_mem_nil
  · cases h
theorem a_De_worth (as : List sv_V) (σ : sv_S) (x : Int32 × sv_S) (h : n_De_worth as σ = some x) : sv_args 2 ev_De_worth.2.2.2.1 as := by
  unfold n_De_worth at h
  split at h
  · exact ⟨Nat.le_of_ble_eq_true rfl, fun _ v hv => by
      simp only [List.mem_cons, List.not_mem_nil, or_false] at hv
      rcases hv with rfl | rfl <;> trivial⟩
  · cases h
theorem gs_De_worth (as : List sv_V) (σ : sv_S) (x : Option sv_V × sv_S) (h : sv_gI n_De_worth as σ = some x) : ∃ r i as' ci q, as = sv_R r i :: as' ∧ sv_kd r i = .inl ci ∧ vwCl[ci]? = some q := by
  obtain ⟨_, _, h, -⟩ := sv_b_some h
  unfold n_De_worth at h
  split at h
  · obtain ⟨ci, q, h1, h2⟩ := sv_kd7 _
    exact ⟨_, _, _, ci, q, rfl, h1, h2⟩
  · cases h

set_option maxRecDepth 20000 in
theorem m_De_worth (l : Launch) : sv_M l yX0_worth cX0_worth 2 (some .int) (sv_gI n_De_worth) 0 := by
  refine sv_mI (E := ev_De_worth) (by decide +kernel) (ln_gen fk_0 kk_0 (sv_ns _ (fun _ => rfl) _)) rfl ?_ a_De_worth b_De_worth
  intro p e R s m args below meth c cells slots Q base ad dC dI cA n0 S hkn hR hf pc n f hcs
  refine sv_lk_all (P := fun pc (x : Nat × sv_F) => sv_cok p l e R s m args below meth c cells slots Q base ad dC dI cA true 2 n0 pc x.1 x.2) ?_ pc (n, f) hcs
  exact fun _ h => absurd h List.not_mem_nil
noncomputable def f_Dr_fallStill (a0 : Nat) (σ : sv_S) : Option (sv_S) :=
  let σ1 := sv_up σ 2 a0 2 (0 : Int32)
  let σ2 := sv_up σ1 2 a0 3 (0 : Int32)
  let σ3 := sv_up σ2 2 a0 4 (0 : Int32)
  some σ3
noncomputable def n_Dr_fallStill : List sv_V → sv_S → Option (sv_S)
  | [.inr (.inr (some (2, a0)))], σ => f_Dr_fallStill a0 σ
  | _, _ => none
def cd_Dr_fallStill : sv_C := [(0, (.aload_n 0, (sv_N, (1, (0, []))))), (1, (.iconst 0, (.inl (0 : Int32), (2, (0, []))))), (2, (.putfield 30, (sv_N, (5, (0, []))))), (5, (.aload_n 0, (sv_N, (6, (0, []))))), (6, (.iconst 0, (.inl (0 : Int32), (7, (0, []))))), (7, (.putfield 33, (sv_N, (10, (0, []))))), (10, (.aload_n 0, (sv_N, (11, (0, []))))), (11, (.iconst 0, (.inl (0 : Int32), (12, (0, []))))), (12, (.putfield 36, (sv_N, (15, (0, []))))), (15, (.return_, (sv_N, (16, (0, [])))))]
noncomputable def ev_Dr_fallStill : sv_E := (fun i => sv_lk i fl_1, (fun i => sv_lk i kc_1, (fun _ => 0, (true, (fun pc => sv_lk pc [], none)))))
noncomputable def kk_Dr_fallStill : sv_K (sv_S) := fun pc => sv_lk pc []
set_option maxRecDepth 20000 in
theorem e_Dr_fallStill (a0 : Nat) (σ : sv_S) : sv_ex ev_Dr_fallStill sv_rV kk_Dr_fallStill cd_Dr_fallStill 12 0 [some (.inr (.inr (some (2, a0))))] [] σ = f_Dr_fallStill a0 σ := by
  unfold f_Dr_fallStill
  delta ev_Dr_fallStill kk_Dr_fallStill
  rfl
theorem d_Dr_fallStill : cd_Dr_fallStill.all (sv_dk cX1_fallStill) = true := by decide +kernel
set_option maxRecDepth 20000 in
theorem b_Dr_fallStill (Γ : sv_Ga) (res : sv_S) (X : sv_Ok Γ ev_Dr_fallStill cX1_fallStill sv_rV res) (as : List sv_V) (σ : sv_S) (h : n_Dr_fallStill as σ = some res) : sv_T Γ 0 (sv_e0 1 as) [] σ := by
  unfold n_Dr_fallStill at h
  split at h
  · refine sv_run X d_Dr_fallStill (K := kk_Dr_fallStill) (sv_lk_all (P := fun pc (k : sv_Lo → List sv_V → sv_S → Option (sv_S)) => ∀ lo st σ, k lo st σ = some res → sv_T Γ pc lo st σ) ?_) _ _ _ _ _ ((e_Dr_fallStill _ _).trans h)
    clear h
    exact fun _ h => absurd h List.not_mem_nil
  · cases h
theorem a_Dr_fallStill (as : List sv_V) (σ : sv_S) (x : sv_S) (h : n_Dr_fallStill as σ = some x) : sv_args 1 ev_Dr_fallStill.2.2.2.1 as := by
  unfold n_Dr_fallStill at h
  split at h
  · exact ⟨Nat.le_of_ble_eq_true rfl, fun _ v hv => by
      simp only [List.mem_cons, List.not_mem_nil, or_false] at hv
      rcases hv with rfl <;> trivial⟩
  · cases h
theorem g_Dr_fallStill (as : List sv_V) (σ : sv_S) (x : Option sv_V × sv_S) (h : sv_gV n_Dr_fallStill as σ = some x) : ∃ r i as', as = sv_R r i :: as' ∧ sv_kd r i = .inl 1 := by
  obtain ⟨_, h, -⟩ := sv_b0_some h
  unfold n_Dr_fallStill at h
  split at h
  · exact ⟨_, _, _, rfl, rfl⟩
  · cases h

set_option maxRecDepth 20000 in
theorem m_Dr_fallStill (l : Launch) : sv_M l yX1_fallStill cX1_fallStill 1 none (sv_gV n_Dr_fallStill) 0 := by
  refine sv_mV (E := ev_Dr_fallStill) (by decide +kernel) (ln_gen fk_1 kk_1 (sv_ns _ (fun _ => rfl) _)) rfl ?_ a_Dr_fallStill b_Dr_fallStill
  intro p e R s m args below meth c cells slots Q base ad dC dI cA n0 S hkn hR hf pc n f hcs
  refine sv_lk_all (P := fun pc (x : Nat × sv_F) => sv_cok p l e R s m args below meth c cells slots Q base ad dC dI cA true 1 n0 pc x.1 x.2) ?_ pc (n, f) hcs
  exact fun _ h => absurd h List.not_mem_nil
noncomputable def f_Dr_begin (a0 : Nat) (a1 : Int32) (a2 : Int32) (σ : sv_S) : Option (sv_S) :=
  let σ1 := sv_up σ 2 a0 0 a1
  let σ2 := sv_up σ1 2 a0 1 a2
  let σ3 := sv_up σ2 2 a0 5 (0 : Int32)
  let σ4 := sv_up σ3 2 a0 7 (0 : Int32)
  let σ5 := sv_up σ4 2 a0 6 (1 : Int32)
  sv_b0 (f_Dr_fallStill a0 σ5) (fun σ6 =>
    some σ6)
noncomputable def n_Dr_begin : List sv_V → sv_S → Option (sv_S)
  | [.inr (.inr (some (2, a0))), .inl a1, .inl a2], σ => f_Dr_begin a0 a1 a2 σ
  | _, _ => none
def cd_Dr_begin : sv_C := [(0, (.aload_n 0, (sv_N, (1, (0, []))))), (1, (.iload_n 1, (sv_N, (2, (0, []))))), (2, (.putfield 9, (sv_N, (5, (0, []))))), (5, (.aload_n 0, (sv_N, (6, (0, []))))), (6, (.iload_n 2, (sv_N, (7, (0, []))))), (7, (.putfield 15, (sv_N, (10, (0, []))))), (10, (.aload_n 0, (sv_N, (11, (0, []))))), (11, (.iconst 0, (.inl (0 : Int32), (12, (0, []))))), (12, (.putfield 18, (sv_N, (15, (0, []))))), (15, (.aload_n 0, (sv_N, (16, (0, []))))), (16, (.iconst 0, (.inl (0 : Int32), (17, (0, []))))), (17, (.putfield 21, (sv_N, (20, (0, []))))), (20, (.aload_n 0, (sv_N, (21, (0, []))))), (21, (.iconst 1, (.inl (1 : Int32), (22, (0, []))))), (22, (.putfield 24, (sv_N, (25, (0, []))))), (25, (.aload_n 0, (sv_N, (26, (0, []))))), (26, (.invokevirtual 27, (sv_N, (29, (0, []))))), (29, (.return_, (sv_N, (30, (0, [])))))]
noncomputable def ev_Dr_begin : sv_E := (fun i => sv_lk i fl_1, (fun i => sv_lk i kc_1, (fun _ => 0, (true, (fun pc => sv_lk pc [(26, (1, .inr (.inl n_Dr_fallStill)))], none)))))
noncomputable def kk_Dr_begin : sv_K (sv_S) := fun pc => sv_lk pc []
set_option maxRecDepth 20000 in
theorem e_Dr_begin (a0 : Nat) (a1 : Int32) (a2 : Int32) (σ : sv_S) : sv_ex ev_Dr_begin sv_rV kk_Dr_begin cd_Dr_begin 20 0 [some (.inr (.inr (some (2, a0)))), some (.inl a1), some (.inl a2)] [] σ = f_Dr_begin a0 a1 a2 σ := by
  unfold f_Dr_begin
  delta ev_Dr_begin kk_Dr_begin n_Dr_fallStill
  generalize f_Dr_fallStill = c0
  rfl
theorem d_Dr_begin : cd_Dr_begin.all (sv_dk cX1_begin) = true := by decide +kernel
set_option maxRecDepth 20000 in
theorem b_Dr_begin (Γ : sv_Ga) (res : sv_S) (X : sv_Ok Γ ev_Dr_begin cX1_begin sv_rV res) (as : List sv_V) (σ : sv_S) (h : n_Dr_begin as σ = some res) : sv_T Γ 0 (sv_e0 3 as) [] σ := by
  unfold n_Dr_begin at h
  split at h
  · refine sv_run X d_Dr_begin (K := kk_Dr_begin) (sv_lk_all (P := fun pc (k : sv_Lo → List sv_V → sv_S → Option (sv_S)) => ∀ lo st σ, k lo st σ = some res → sv_T Γ pc lo st σ) ?_) _ _ _ _ _ ((e_Dr_begin _ _ _ _).trans h)
    clear h
    exact fun _ h => absurd h List.not_mem_nil
  · cases h
theorem a_Dr_begin (as : List sv_V) (σ : sv_S) (x : sv_S) (h : n_Dr_begin as σ = some x) : sv_args 3 ev_Dr_begin.2.2.2.1 as := by
  unfold n_Dr_begin at h
  split at h
  · exact ⟨Nat.le_of_ble_eq_true rfl, fun _ v hv => by
      simp only [List.mem_cons, List.not_mem_nil, or_false] at hv
      rcases hv with rfl | rfl | rfl <;> trivial⟩
  · cases h
theorem g_Dr_begin (as : List sv_V) (σ : sv_S) (x : Option sv_V × sv_S) (h : sv_gV n_Dr_begin as σ = some x) : ∃ r i as', as = sv_R r i :: as' ∧ sv_kd r i = .inl 1 := by
  obtain ⟨_, h, -⟩ := sv_b0_some h
  unfold n_Dr_begin at h
  split at h
  · exact ⟨_, _, _, rfl, rfl⟩
  · cases h
theorem tw_340 : Cond.methodLink RX1 27 yX1_fallStill ∈ gw_tbl := gw_at 340 (by decide +kernel) rfl
theorem tw_341 : Cond.instanceMethod yX1_fallStill ∈ gw_tbl := gw_at 341 (by decide +kernel) rfl
theorem tw_342 : Cond.selects RX1 yX1_fallStill yX1_fallStill ∈ gw_tbl := gw_at 342 (by decide +kernel) rfl
theorem tw_343 : Cond.code yX1_fallStill cX1_fallStill 1 none ∈ gw_tbl := gw_at 343 (by decide +kernel) rfl
set_option maxRecDepth 20000 in
theorem m_Dr_begin (l : Launch) : sv_M l yX1_begin cX1_begin 3 none (sv_gV n_Dr_begin) 1 := by
  refine sv_mV (E := ev_Dr_begin) (by decide +kernel) (ln_gen fk_1 kk_1 (sv_ns _ (fun _ => rfl) _)) rfl ?_ a_Dr_begin b_Dr_begin
  intro p e R s m args below meth c cells slots Q base ad dC dI cA n0 S hkn hR hf pc n f hcs
  refine sv_lk_all (P := fun pc (x : Nat × sv_F) => sv_cok p l e R s m args below meth c cells slots Q base ad dC dI cA true 3 n0 pc x.1 x.2) ?_ pc (n, f) hcs
  exact List.forall_mem_cons.mpr ⟨(sv_cV S hkn (m_Dr_fallStill l) ⟨Nat.le_trans (by decide) hR.1, Nat.le_trans (by decide) hR.2⟩ (by decide) hf rfl (g_Dr_fallStill) (sv_w5 tw_340 tw_341 tw_342 tw_61 tw_343) (by decide +kernel) (sv_dc3 d_Dr_begin (pc := 26) rfl rfl)).V,
      fun _ h => absurd h List.not_mem_nil⟩
noncomputable def f_Dr_setAs (a0 : Nat) (a1 : Nat) (σ : sv_S) : Option (sv_S) :=
  let σ1 := sv_up σ 2 a0 0 (σ 2 a1 0)
  let σ2 := sv_up σ1 2 a0 1 (σ1 2 a1 1)
  let σ3 := sv_up σ2 2 a0 2 (σ2 2 a1 2)
  let σ4 := sv_up σ3 2 a0 3 (σ3 2 a1 3)
  let σ5 := sv_up σ4 2 a0 4 (σ4 2 a1 4)
  let σ6 := sv_up σ5 2 a0 5 (σ5 2 a1 5)
  let σ7 := sv_up σ6 2 a0 6 (σ6 2 a1 6)
  let σ8 := sv_up σ7 2 a0 7 (σ7 2 a1 7)
  some σ8
noncomputable def n_Dr_setAs : List sv_V → sv_S → Option (sv_S)
  | [.inr (.inr (some (2, a0))), .inr (.inr (some (2, a1)))], σ => f_Dr_setAs a0 a1 σ
  | _, _ => none
def cd_Dr_setAs : sv_C := [(0, (.aload_n 0, (sv_N, (1, (0, []))))), (1, (.aload_n 1, (sv_N, (2, (0, []))))), (2, (.getfield 9, (sv_N, (5, (0, []))))), (5, (.putfield 9, (sv_N, (8, (0, []))))), (8, (.aload_n 0, (sv_N, (9, (0, []))))), (9, (.aload_n 1, (sv_N, (10, (0, []))))), (10, (.getfield 15, (sv_N, (13, (0, []))))), (13, (.putfield 15, (sv_N, (16, (0, []))))), (16, (.aload_n 0, (sv_N, (17, (0, []))))), (17, (.aload_n 1, (sv_N, (18, (0, []))))), (18, (.getfield 30, (sv_N, (21, (0, []))))), (21, (.putfield 30, (sv_N, (24, (0, []))))), (24, (.aload_n 0, (sv_N, (25, (0, []))))), (25, (.aload_n 1, (sv_N, (26, (0, []))))), (26, (.getfield 33, (sv_N, (29, (0, []))))), (29, (.putfield 33, (sv_N, (32, (0, []))))), (32, (.aload_n 0, (sv_N, (33, (0, []))))), (33, (.aload_n 1, (sv_N, (34, (0, []))))), (34, (.getfield 36, (sv_N, (37, (0, []))))), (37, (.putfield 36, (sv_N, (40, (0, []))))), (40, (.aload_n 0, (sv_N, (41, (0, []))))), (41, (.aload_n 1, (sv_N, (42, (0, []))))), (42, (.getfield 18, (sv_N, (45, (0, []))))), (45, (.putfield 18, (sv_N, (48, (0, []))))), (48, (.aload_n 0, (sv_N, (49, (0, []))))), (49, (.aload_n 1, (sv_N, (50, (0, []))))), (50, (.getfield 24, (sv_N, (53, (0, []))))), (53, (.putfield 24, (sv_N, (56, (0, []))))), (56, (.aload_n 0, (sv_N, (57, (0, []))))), (57, (.aload_n 1, (sv_N, (58, (0, []))))), (58, (.getfield 21, (sv_N, (61, (0, []))))), (61, (.putfield 21, (sv_N, (64, (0, []))))), (64, (.return_, (sv_N, (65, (0, [])))))]
noncomputable def ev_Dr_setAs : sv_E := (fun i => sv_lk i fl_1, (fun i => sv_lk i kc_1, (fun _ => 0, (true, (fun pc => sv_lk pc [], none)))))
noncomputable def kk_Dr_setAs : sv_K (sv_S) := fun pc => sv_lk pc []
set_option maxRecDepth 20000 in
theorem e_Dr_setAs (a0 : Nat) (a1 : Nat) (σ : sv_S) : sv_ex ev_Dr_setAs sv_rV kk_Dr_setAs cd_Dr_setAs 35 0 [some (.inr (.inr (some (2, a0)))), some (.inr (.inr (some (2, a1))))] [] σ = f_Dr_setAs a0 a1 σ := by
  unfold f_Dr_setAs
  delta ev_Dr_setAs kk_Dr_setAs
  rfl
theorem d_Dr_setAs : cd_Dr_setAs.all (sv_dk cX1_setAs) = true := by decide +kernel
set_option maxRecDepth 20000 in
theorem b_Dr_setAs (Γ : sv_Ga) (res : sv_S) (X : sv_Ok Γ ev_Dr_setAs cX1_setAs sv_rV res) (as : List sv_V) (σ : sv_S) (h : n_Dr_setAs as σ = some res) : sv_T Γ 0 (sv_e0 2 as) [] σ := by
  unfold n_Dr_setAs at h
  split at h
  · refine sv_run X d_Dr_setAs (K := kk_Dr_setAs) (sv_lk_all (P := fun pc (k : sv_Lo → List sv_V → sv_S → Option (sv_S)) => ∀ lo st σ, k lo st σ = some res → sv_T Γ pc lo st σ) ?_) _ _ _ _ _ ((e_Dr_setAs _ _ _).trans h)
    clear h
    exact fun _ h => absurd h List.not_mem_nil
  · cases h
theorem a_Dr_setAs (as : List sv_V) (σ : sv_S) (x : sv_S) (h : n_Dr_setAs as σ = some x) : sv_args 2 ev_Dr_setAs.2.2.2.1 as := by
  unfold n_Dr_setAs at h
  split at h
  · exact ⟨Nat.le_of_ble_eq_true rfl, fun _ v hv => by
      simp only [List.mem_cons, List.not_mem_nil, or_false] at hv
      rcases hv with rfl | rfl <;> trivial⟩
  · cases h
theorem g_Dr_setAs (as : List sv_V) (σ : sv_S) (x : Option sv_V × sv_S) (h : sv_gV n_Dr_setAs as σ = some x) : ∃ r i as', as = sv_R r i :: as' ∧ sv_kd r i = .inl 1 := by
  obtain ⟨_, h, -⟩ := sv_b0_some h
  unfold n_Dr_setAs at h
  split at h
  · exact ⟨_, _, _, rfl, rfl⟩
  · cases h

set_option maxRecDepth 20000 in
theorem m_Dr_setAs (l : Launch) : sv_M l yX1_setAs cX1_setAs 2 none (sv_gV n_Dr_setAs) 0 := by
  refine sv_mV (E := ev_Dr_setAs) (by decide +kernel) (ln_gen fk_1 kk_1 (sv_ns _ (fun _ => rfl) _)) rfl ?_ a_Dr_setAs b_Dr_setAs
  intro p e R s m args below meth c cells slots Q base ad dC dI cA n0 S hkn hR hf pc n f hcs
  refine sv_lk_all (P := fun pc (x : Nat × sv_F) => sv_cok p l e R s m args below meth c cells slots Q base ad dC dI cA true 2 n0 pc x.1 x.2) ?_ pc (n, f) hcs
  exact fun _ h => absurd h List.not_mem_nil
noncomputable def f_Dr_moves (a0 : Nat) (a1 : Int32) (a2 : Int32) (σ : sv_S) : Option (Int32 × sv_S) :=
  let σ1 := sv_up σ 2 a0 4 (σ 2 a0 3)
  let σ2 := sv_up σ1 2 a0 3 (σ1 2 a0 2)
  let σ3 := sv_up σ2 2 a0 2 a1
  sv_if ((σ3 2 a0 2) = (9 : Int32))
    (sv_if ((σ3 2 a0 3) = (9 : Int32))
      (sv_g ((0 : Int32) = 0 ∨ (0 : Int32) = 1) (some ((0 : Int32), σ3)))
      (let σ4 := sv_up σ3 2 a0 5 ((σ3 2 a0 5) + (1 : Int32))
      sv_if ((σ4 2 a0 7) = 0)
        (let σ5 := sv_up σ4 2 a0 7 a2
        sv_g ((1 : Int32) = 0 ∨ (1 : Int32) = 1) (some ((1 : Int32), σ5)))
        (sv_g ((1 : Int32) = 0 ∨ (1 : Int32) = 1) (some ((1 : Int32), σ4)))))
    (sv_g ((0 : Int32) = 0 ∨ (0 : Int32) = 1) (some ((0 : Int32), σ3)))
noncomputable def n_Dr_moves : List sv_V → sv_S → Option (Int32 × sv_S)
  | [.inr (.inr (some (2, a0))), .inl a1, .inl a2], σ => f_Dr_moves a0 a1 a2 σ
  | _, _ => none
def cd_Dr_moves : sv_C := [(0, (.aload_n 0, (sv_N, (1, (0, []))))), (1, (.aload_n 0, (sv_N, (2, (0, []))))), (2, (.getfield 33, (sv_N, (5, (0, []))))), (5, (.putfield 36, (sv_N, (8, (0, []))))), (8, (.aload_n 0, (sv_N, (9, (0, []))))), (9, (.aload_n 0, (sv_N, (10, (0, []))))), (10, (.getfield 30, (sv_N, (13, (0, []))))), (13, (.putfield 33, (sv_N, (16, (0, []))))), (16, (.aload_n 0, (sv_N, (17, (0, []))))), (17, (.iload_n 1, (sv_N, (18, (0, []))))), (18, (.putfield 30, (sv_N, (21, (0, []))))), (21, (.aload_n 0, (sv_N, (22, (0, []))))), (22, (.getfield 30, (sv_N, (25, (0, []))))), (25, (.bipush 9, (.inl (9 : Int32), (27, (0, []))))), (27, (.if_icmp .ne 12, (sv_N, (30, (39, []))))), (30, (.aload_n 0, (sv_N, (31, (0, []))))), (31, (.getfield 33, (sv_N, (34, (0, []))))), (34, (.bipush 9, (.inl (9 : Int32), (36, (0, []))))), (36, (.if_icmp .ne 5, (sv_N, (39, (41, []))))), (39, (.iconst 0, (.inl (0 : Int32), (40, (0, []))))), (40, (.ireturn, (sv_N, (41, (0, []))))), (41, (.aload_n 0, (sv_N, (42, (0, []))))), (42, (.dup, (sv_N, (43, (0, []))))), (43, (.getfield 18, (sv_N, (46, (0, []))))), (46, (.iconst 1, (.inl (1 : Int32), (47, (0, []))))), (47, (.iadd, (sv_N, (48, (0, []))))), (48, (.putfield 18, (sv_N, (51, (0, []))))), (51, (.aload_n 0, (sv_N, (52, (0, []))))), (52, (.getfield 21, (sv_N, (55, (0, []))))), (55, (.ifCond .ne 8, (sv_N, (58, (63, []))))), (58, (.aload_n 0, (sv_N, (59, (0, []))))), (59, (.iload_n 2, (sv_N, (60, (0, []))))), (60, (.putfield 21, (sv_N, (63, (0, []))))), (63, (.iconst 1, (.inl (1 : Int32), (64, (0, []))))), (64, (.ireturn, (sv_N, (65, (0, [])))))]
noncomputable def ev_Dr_moves : sv_E := (fun i => sv_lk i fl_1, (fun i => sv_lk i kc_1, (fun _ => 0, (true, (fun pc => sv_lk pc [], none)))))
noncomputable def kk_Dr_moves : sv_K (Int32 × sv_S) := fun pc => sv_lk pc []
set_option maxRecDepth 20000 in
theorem e_Dr_moves (a0 : Nat) (a1 : Int32) (a2 : Int32) (σ : sv_S) : sv_ex ev_Dr_moves sv_rZ kk_Dr_moves cd_Dr_moves 37 0 [some (.inr (.inr (some (2, a0)))), some (.inl a1), some (.inl a2)] [] σ = f_Dr_moves a0 a1 a2 σ := by
  unfold f_Dr_moves
  delta ev_Dr_moves kk_Dr_moves
  rfl
theorem d_Dr_moves : cd_Dr_moves.all (sv_dk cX1_moves) = true := by decide +kernel
set_option maxRecDepth 20000 in
theorem b_Dr_moves (Γ : sv_Ga) (res : Int32 × sv_S) (X : sv_Ok Γ ev_Dr_moves cX1_moves sv_rZ res) (as : List sv_V) (σ : sv_S) (h : n_Dr_moves as σ = some res) : sv_T Γ 0 (sv_e0 3 as) [] σ := by
  unfold n_Dr_moves at h
  split at h
  · refine sv_run X d_Dr_moves (K := kk_Dr_moves) (sv_lk_all (P := fun pc (k : sv_Lo → List sv_V → sv_S → Option (Int32 × sv_S)) => ∀ lo st σ, k lo st σ = some res → sv_T Γ pc lo st σ) ?_) _ _ _ _ _ ((e_Dr_moves _ _ _ _).trans h)
    clear h
    exact fun _ h => absurd h List.not_mem_nil
  · cases h
theorem a_Dr_moves (as : List sv_V) (σ : sv_S) (x : Int32 × sv_S) (h : n_Dr_moves as σ = some x) : sv_args 3 ev_Dr_moves.2.2.2.1 as := by
  unfold n_Dr_moves at h
  split at h
  · exact ⟨Nat.le_of_ble_eq_true rfl, fun _ v hv => by
      simp only [List.mem_cons, List.not_mem_nil, or_false] at hv
      rcases hv with rfl | rfl | rfl <;> trivial⟩
  · cases h
theorem g_Dr_moves (as : List sv_V) (σ : sv_S) (x : Option sv_V × sv_S) (h : sv_gI n_Dr_moves as σ = some x) : ∃ r i as', as = sv_R r i :: as' ∧ sv_kd r i = .inl 1 := by
  obtain ⟨_, _, h, -⟩ := sv_b_some h
  unfold n_Dr_moves at h
  split at h
  · exact ⟨_, _, _, rfl, rfl⟩
  · cases h

set_option maxRecDepth 20000 in
theorem m_Dr_moves (l : Launch) : sv_M l yX1_moves cX1_moves 3 (some .boolean) (sv_gI n_Dr_moves) 0 := by
  refine sv_mZ (E := ev_Dr_moves) (by decide +kernel) (ln_gen fk_1 kk_1 (sv_ns _ (fun _ => rfl) _)) rfl ?_ a_Dr_moves b_Dr_moves
  intro p e R s m args below meth c cells slots Q base ad dC dI cA n0 S hkn hR hf pc n f hcs
  refine sv_lk_all (P := fun pc (x : Nat × sv_F) => sv_cok p l e R s m args below meth c cells slots Q base ad dC dI cA true 3 n0 pc x.1 x.2) ?_ pc (n, f) hcs
  exact fun _ h => absurd h List.not_mem_nil
noncomputable def f_Ki_wakesFrom (a0 : Nat) (a1 : Int32) (σ : sv_S) : Option (Int32 × sv_S) :=
  some (a1, σ)
noncomputable def n_Ki_wakesFrom : List sv_V → sv_S → Option (Int32 × sv_S)
  | [.inr (.inr (some (7, a0))), .inl a1], σ => f_Ki_wakesFrom a0 a1 σ
  | _, _ => none
def cd_Ki_wakesFrom : sv_C := [(0, (.iload_n 1, (sv_N, (1, (0, []))))), (1, (.ireturn, (sv_N, (2, (0, [])))))]
noncomputable def ev_Ki_wakesFrom : sv_E := (fun i => sv_lk i fl_3, (fun i => sv_lk i kc_3, (fun _ => 0, (true, (fun pc => sv_lk pc [], none)))))
noncomputable def kk_Ki_wakesFrom : sv_K (Int32 × sv_S) := fun pc => sv_lk pc []
set_option maxRecDepth 20000 in
theorem e_Ki_wakesFrom (a0 : Nat) (a1 : Int32) (σ : sv_S) : sv_ex ev_Ki_wakesFrom sv_rI kk_Ki_wakesFrom cd_Ki_wakesFrom 4 0 [some (.inr (.inr (some (7, a0)))), some (.inl a1)] [] σ = f_Ki_wakesFrom a0 a1 σ := by
  unfold f_Ki_wakesFrom
  delta ev_Ki_wakesFrom kk_Ki_wakesFrom
  rfl
theorem d_Ki_wakesFrom : cd_Ki_wakesFrom.all (sv_dk cX3_wakesFrom) = true := by decide +kernel
set_option maxRecDepth 20000 in
theorem b_Ki_wakesFrom (Γ : sv_Ga) (res : Int32 × sv_S) (X : sv_Ok Γ ev_Ki_wakesFrom cX3_wakesFrom sv_rI res) (as : List sv_V) (σ : sv_S) (h : n_Ki_wakesFrom as σ = some res) : sv_T Γ 0 (sv_e0 2 as) [] σ := by
  unfold n_Ki_wakesFrom at h
  split at h
  · refine sv_run X d_Ki_wakesFrom (K := kk_Ki_wakesFrom) (sv_lk_all (P := fun pc (k : sv_Lo → List sv_V → sv_S → Option (Int32 × sv_S)) => ∀ lo st σ, k lo st σ = some res → sv_T Γ pc lo st σ) ?_) _ _ _ _ _ ((e_Ki_wakesFrom _ _ _).trans h)
    clear h
    exact fun _ h => absurd h List.not_mem_nil
  · cases h
theorem a_Ki_wakesFrom (as : List sv_V) (σ : sv_S) (x : Int32 × sv_S) (h : n_Ki_wakesFrom as σ = some x) : sv_args 2 ev_Ki_wakesFrom.2.2.2.1 as := by
  unfold n_Ki_wakesFrom at h
  split at h
  · exact ⟨Nat.le_of_ble_eq_true rfl, fun _ v hv => by
      simp only [List.mem_cons, List.not_mem_nil, or_false] at hv
      rcases hv with rfl | rfl <;> trivial⟩
  · cases h
theorem gs_Ki_wakesFrom (as : List sv_V) (σ : sv_S) (x : Option sv_V × sv_S) (h : sv_gI n_Ki_wakesFrom as σ = some x) : ∃ r i as' ci q, as = sv_R r i :: as' ∧ sv_kd r i = .inl ci ∧ vwCl[ci]? = some q := by
  obtain ⟨_, _, h, -⟩ := sv_b_some h
  unfold n_Ki_wakesFrom at h
  split at h
  · obtain ⟨ci, q, h1, h2⟩ := sv_kd7 _
    exact ⟨_, _, _, ci, q, rfl, h1, h2⟩
  · cases h

set_option maxRecDepth 20000 in
theorem m_Ki_wakesFrom (l : Launch) : sv_M l yX3_wakesFrom cX3_wakesFrom 2 (some .int) (sv_gI n_Ki_wakesFrom) 0 := by
  refine sv_mI (E := ev_Ki_wakesFrom) (by decide +kernel) (ln_gen fk_3 kk_3 (sv_ns _ (fun _ => rfl) _)) rfl ?_ a_Ki_wakesFrom b_Ki_wakesFrom
  intro p e R s m args below meth c cells slots Q base ad dC dI cA n0 S hkn hR hf pc n f hcs
  refine sv_lk_all (P := fun pc (x : Nat × sv_F) => sv_cok p l e R s m args below meth c cells slots Q base ad dC dI cA true 2 n0 pc x.1 x.2) ?_ pc (n, f) hcs
  exact fun _ h => absurd h List.not_mem_nil
noncomputable def f_Ea_wakesFrom (a0 : Nat) (a1 : Int32) (σ : sv_S) : Option (Int32 × sv_S) :=
  sv_b (f_Ki_wakesFrom a0 a1 σ) (fun v1 σ2 =>
    sv_b (f_Jm_min (9 : Int32) (v1 + (1 : Int32)) σ2) (fun v3 σ4 =>
      some (v3, σ4)))
noncomputable def n_Ea_wakesFrom : List sv_V → sv_S → Option (Int32 × sv_S)
  | [.inr (.inr (some (7, a0))), .inl a1], σ => f_Ea_wakesFrom a0 a1 σ
  | _, _ => none
def cd_Ea_wakesFrom : sv_C := [(0, (.bipush 9, (.inl (9 : Int32), (2, (0, []))))), (2, (.aload_n 0, (sv_N, (3, (0, []))))), (3, (.iload_n 1, (sv_N, (4, (0, []))))), (4, (.invokespecial 9, (sv_N, (7, (0, []))))), (7, (.iconst 1, (.inl (1 : Int32), (8, (0, []))))), (8, (.iadd, (sv_N, (9, (0, []))))), (9, (.invokestatic 13, (sv_N, (12, (0, []))))), (12, (.ireturn, (sv_N, (13, (0, [])))))]
noncomputable def ev_Ea_wakesFrom : sv_E := (fun i => sv_lk i fl_2, (fun i => sv_lk i kc_2, (fun _ => 0, (true, (fun pc => sv_lk pc [(4, (2, .inl n_Ki_wakesFrom)), (9, (2, .inl n_Jm_min))], none)))))
noncomputable def kk_Ea_wakesFrom : sv_K (Int32 × sv_S) := fun pc => sv_lk pc []
set_option maxRecDepth 20000 in
theorem e_Ea_wakesFrom (a0 : Nat) (a1 : Int32) (σ : sv_S) : sv_ex ev_Ea_wakesFrom sv_rI kk_Ea_wakesFrom cd_Ea_wakesFrom 10 0 [some (.inr (.inr (some (7, a0)))), some (.inl a1)] [] σ = f_Ea_wakesFrom a0 a1 σ := by
  unfold f_Ea_wakesFrom
  delta ev_Ea_wakesFrom kk_Ea_wakesFrom n_Ki_wakesFrom n_Jm_min
  generalize f_Ki_wakesFrom = c0
  generalize f_Jm_min = c1
  rfl
theorem d_Ea_wakesFrom : cd_Ea_wakesFrom.all (sv_dk cX2_wakesFrom) = true := by decide +kernel
set_option maxRecDepth 20000 in
theorem b_Ea_wakesFrom (Γ : sv_Ga) (res : Int32 × sv_S) (X : sv_Ok Γ ev_Ea_wakesFrom cX2_wakesFrom sv_rI res) (as : List sv_V) (σ : sv_S) (h : n_Ea_wakesFrom as σ = some res) : sv_T Γ 0 (sv_e0 2 as) [] σ := by
  unfold n_Ea_wakesFrom at h
  split at h
  · refine sv_run X d_Ea_wakesFrom (K := kk_Ea_wakesFrom) (sv_lk_all (P := fun pc (k : sv_Lo → List sv_V → sv_S → Option (Int32 × sv_S)) => ∀ lo st σ, k lo st σ = some res → sv_T Γ pc lo st σ) ?_) _ _ _ _ _ ((e_Ea_wakesFrom _ _ _).trans h)
    clear h
    exact fun _ h => absurd h List.not_mem_nil
  · cases h
theorem a_Ea_wakesFrom (as : List sv_V) (σ : sv_S) (x : Int32 × sv_S) (h : n_Ea_wakesFrom as σ = some x) : sv_args 2 ev_Ea_wakesFrom.2.2.2.1 as := by
  unfold n_Ea_wakesFrom at h
  split at h
  · exact ⟨Nat.le_of_ble_eq_true rfl, fun _ v hv => by
      simp only [List.mem_cons, List.not_mem_nil, or_false] at hv
      rcases hv with rfl | rfl <;> trivial⟩
  · cases h
theorem gs_Ea_wakesFrom (as : List sv_V) (σ : sv_S) (x : Option sv_V × sv_S) (h : sv_gI n_Ea_wakesFrom as σ = some x) : ∃ r i as' ci q, as = sv_R r i :: as' ∧ sv_kd r i = .inl ci ∧ vwCl[ci]? = some q := by
  obtain ⟨_, _, h, -⟩ := sv_b_some h
  unfold n_Ea_wakesFrom at h
  split at h
  · obtain ⟨ci, q, h1, h2⟩ := sv_kd7 _
    exact ⟨_, _, _, ci, q, rfl, h1, h2⟩
  · cases h
theorem tw_54 : Cond.initialized RX3 ∈ gw_tbl := gw_at 54 (by decide +kernel) rfl
theorem tw_103 : Cond.superclass RX2 RX3 ∈ gw_tbl := gw_at 103 (by decide +kernel) rfl
theorem tw_409 : Cond.instanceMethod yX3_wakesFrom ∈ gw_tbl := gw_at 409 (by decide +kernel) rfl
theorem tw_411 : Cond.sameMethod RX3 RX3 "wakesFrom" "(I)I" ∈ gw_tbl := gw_at 411 (by decide +kernel) rfl
theorem tw_416 : Cond.methodLink RX2 9 yX3_wakesFrom ∈ gw_tbl := gw_at 416 (by decide +kernel) rfl
theorem tw_417 : Cond.methodLink RX2 13 Lib.Math.min.name ∈ gw_tbl := gw_at 417 (by decide +kernel) rfl
theorem tw_427 : Cond.code yX3_wakesFrom cX3_wakesFrom 2 (some .int) ∈ gw_tbl := gw_at 427 (by decide +kernel) rfl
set_option maxRecDepth 20000 in
theorem m_Ea_wakesFrom (l : Launch) : sv_M l yX2_wakesFrom cX2_wakesFrom 2 (some .int) (sv_gI n_Ea_wakesFrom) 1 := by
  refine sv_mI (E := ev_Ea_wakesFrom) (by decide +kernel) (ln_gen fk_2 kk_2 (sv_ns _ (fun _ => rfl) _)) rfl ?_ a_Ea_wakesFrom b_Ea_wakesFrom
  intro p e R s m args below meth c cells slots Q base ad dC dI cA n0 S hkn hR hf pc n f hcs
  refine sv_lk_all (P := fun pc (x : Nat × sv_F) => sv_cok p l e R s m args below meth c cells slots Q base ad dC dI cA true 2 n0 pc x.1 x.2) ?_ pc (n, f) hcs
  exact List.forall_mem_cons.mpr ⟨(sv_cU S hkn (m_Ki_wakesFrom l) ⟨Nat.le_trans (by decide) hR.1, Nat.le_trans (by decide) hR.2⟩ (by decide) hf gs_Ki_wakesFrom (sv_w6 tw_416 tw_411 tw_103 tw_409 tw_54 tw_427) (by decide +kernel) (sv_dc3 d_Ea_wakesFrom (pc := 4) rfl rfl)).I,
      List.forall_mem_cons.mpr ⟨(sv_cmin S ⟨Nat.le_trans (by decide) hR.1, Nat.le_trans (by decide) hR.2⟩ hf (sv_w4 tw_417 tw_369 tw_66 tw_370) (sv_dc3 d_Ea_wakesFrom (pc := 9) rfl rfl)).I,
      fun _ h => absurd h List.not_mem_nil⟩⟩
noncomputable def f_Ea_worth (a0 : Nat) (a1 : Int32) (σ : sv_S) : Option (Int32 × sv_S) :=
  some ((20 : Int32) - a1, σ)
noncomputable def n_Ea_worth : List sv_V → sv_S → Option (Int32 × sv_S)
  | [.inr (.inr (some (7, a0))), .inl a1], σ => f_Ea_worth a0 a1 σ
  | _, _ => none
def cd_Ea_worth : sv_C := [(0, (.bipush 20, (.inl (20 : Int32), (2, (0, []))))), (2, (.iload_n 1, (sv_N, (3, (0, []))))), (3, (.isub, (sv_N, (4, (0, []))))), (4, (.ireturn, (sv_N, (5, (0, [])))))]
noncomputable def ev_Ea_worth : sv_E := (fun i => sv_lk i fl_2, (fun i => sv_lk i kc_2, (fun _ => 0, (true, (fun pc => sv_lk pc [], none)))))
noncomputable def kk_Ea_worth : sv_K (Int32 × sv_S) := fun pc => sv_lk pc []
set_option maxRecDepth 20000 in
theorem e_Ea_worth (a0 : Nat) (a1 : Int32) (σ : sv_S) : sv_ex ev_Ea_worth sv_rI kk_Ea_worth cd_Ea_worth 6 0 [some (.inr (.inr (some (7, a0)))), some (.inl a1)] [] σ = f_Ea_worth a0 a1 σ := by
  unfold f_Ea_worth
  delta ev_Ea_worth kk_Ea_worth
  rfl
theorem d_Ea_worth : cd_Ea_worth.all (sv_dk cX2_worth) = true := by decide +kernel
set_option maxRecDepth 20000 in
theorem b_Ea_worth (Γ : sv_Ga) (res : Int32 × sv_S) (X : sv_Ok Γ ev_Ea_worth cX2_worth sv_rI res) (as : List sv_V) (σ : sv_S) (h : n_Ea_worth as σ = some res) : sv_T Γ 0 (sv_e0 2 as) [] σ := by
  unfold n_Ea_worth at h
  split at h
  · refine sv_run X d_Ea_worth (K := kk_Ea_worth) (sv_lk_all (P := fun pc (k : sv_Lo → List sv_V → sv_S → Option (Int32 × sv_S)) => ∀ lo st σ, k lo st σ = some res → sv_T Γ pc lo st σ) ?_) _ _ _ _ _ ((e_Ea_worth _ _ _).trans h)
    clear h
    exact fun _ h => absurd h List.not_mem_nil
  · cases h
theorem a_Ea_worth (as : List sv_V) (σ : sv_S) (x : Int32 × sv_S) (h : n_Ea_worth as σ = some x) : sv_args 2 ev_Ea_worth.2.2.2.1 as := by
  unfold n_Ea_worth at h
  split at h
  · exact ⟨Nat.le_of_ble_eq_true rfl, fun _ v hv => by
      simp only [List.mem_cons, List.not_mem_nil, or_false] at hv
      rcases hv with rfl | rfl <;> trivial⟩
  · cases h
theorem gs_Ea_worth (as : List sv_V) (σ : sv_S) (x : Option sv_V × sv_S) (h : sv_gI n_Ea_worth as σ = some x) : ∃ r i as' ci q, as = sv_R r i :: as' ∧ sv_kd r i = .inl ci ∧ vwCl[ci]? = some q := by
  obtain ⟨_, _, h, -⟩ := sv_b_some h
  unfold n_Ea_worth at h
  split at h
  · obtain ⟨ci, q, h1, h2⟩ := sv_kd7 _
    exact ⟨_, _, _, ci, q, rfl, h1, h2⟩
  · cases h

set_option maxRecDepth 20000 in
theorem m_Ea_worth (l : Launch) : sv_M l yX2_worth cX2_worth 2 (some .int) (sv_gI n_Ea_worth) 0 := by
  refine sv_mI (E := ev_Ea_worth) (by decide +kernel) (ln_gen fk_2 kk_2 (sv_ns _ (fun _ => rfl) _)) rfl ?_ a_Ea_worth b_Ea_worth
  intro p e R s m args below meth c cells slots Q base ad dC dI cA n0 S hkn hR hf pc n f hcs
  refine sv_lk_all (P := fun pc (x : Nat × sv_F) => sv_cok p l e R s m args below meth c cells slots Q base ad dC dI cA true 2 n0 pc x.1 x.2) ?_ pc (n, f) hcs
  exact fun _ h => absurd h List.not_mem_nil
noncomputable def f_Li_lawOf (a0 : Nat) (a1 : Int32) (σ : sv_S) : Option (Option Nat × sv_S) :=
  sv_g (sv_in a1 3) (sv_if ((σ 5 a0 (a1.toNatClampNeg)) < 0)
    (some (none, σ))
    (sv_if ((σ 5 a0 (a1.toNatClampNeg)) < (σ 1 a0 8))
      (sv_g (sv_in (σ 5 a0 (a1.toNatClampNeg)) 14) (sv_tx (σ 4 a0 ((σ 5 a0 (a1.toNatClampNeg)).toNatClampNeg)) (some (none, σ)) (fun t1 => sv_g (t1 < sv_ct σ) (some (some t1, σ)))))
      (some (none, σ))))
noncomputable def n_Li_lawOf : List sv_V → sv_S → Option (Option Nat × sv_S)
  | [.inr (.inr (some (1, a0))), .inl a1], σ => f_Li_lawOf a0 a1 σ
  | _, _ => none
def cd_Li_lawOf : sv_C := [(0, (.aload_n 0, (sv_N, (1, (0, []))))), (1, (.getfield 28, (sv_N, (4, (0, []))))), (4, (.iload_n 1, (sv_N, (5, (0, []))))), (5, (.iaload, (sv_N, (6, (0, []))))), (6, (.istore_n 2, (sv_N, (7, (0, []))))), (7, (.iload_n 2, (sv_N, (8, (0, []))))), (8, (.ifCond .lt 11, (sv_N, (11, (19, []))))), (11, (.iload_n 2, (sv_N, (12, (0, []))))), (12, (.aload_n 0, (sv_N, (13, (0, []))))), (13, (.getfield 51, (sv_N, (16, (0, []))))), (16, (.if_icmp .lt 7, (sv_N, (19, (23, []))))), (19, (.aconst_null, (sv_N, (20, (0, []))))), (20, (.goto 9, (sv_N, (23, (29, []))))), (23, (.aload_n 0, (sv_N, (24, (0, []))))), (24, (.getfield 24, (sv_N, (27, (0, []))))), (27, (.iload_n 2, (sv_N, (28, (0, []))))), (28, (.aaload, (sv_N, (29, (0, []))))), (29, (.areturn, (sv_N, (30, (0, [])))))]
noncomputable def ev_Li_lawOf : sv_E := (fun i => sv_lk i fl_5, (fun i => sv_lk i kc_5, (fun _ => 0, (true, (fun pc => sv_lk pc [], none)))))
noncomputable def kk_Li_lawOf : sv_K (Option Nat × sv_S) := fun pc => sv_lk pc []
set_option maxRecDepth 20000 in
theorem e_Li_lawOf (a0 : Nat) (a1 : Int32) (σ : sv_S) : sv_ex ev_Li_lawOf sv_rT kk_Li_lawOf cd_Li_lawOf 20 0 [some (.inr (.inr (some (1, a0)))), some (.inl a1), none] [] σ = f_Li_lawOf a0 a1 σ := by
  unfold f_Li_lawOf
  delta ev_Li_lawOf kk_Li_lawOf
  rfl
theorem d_Li_lawOf : cd_Li_lawOf.all (sv_dk cX5_lawOf) = true := by decide +kernel
set_option maxRecDepth 20000 in
theorem b_Li_lawOf (Γ : sv_Ga) (res : Option Nat × sv_S) (X : sv_Ok Γ ev_Li_lawOf cX5_lawOf sv_rT res) (as : List sv_V) (σ : sv_S) (h : n_Li_lawOf as σ = some res) : sv_T Γ 0 (sv_e0 3 as) [] σ := by
  unfold n_Li_lawOf at h
  split at h
  · refine sv_run X d_Li_lawOf (K := kk_Li_lawOf) (sv_lk_all (P := fun pc (k : sv_Lo → List sv_V → sv_S → Option (Option Nat × sv_S)) => ∀ lo st σ, k lo st σ = some res → sv_T Γ pc lo st σ) ?_) _ _ _ _ _ ((e_Li_lawOf _ _ _).trans h)
    clear h
    exact fun _ h => absurd h List.not_mem_nil
  · cases h
theorem a_Li_lawOf (as : List sv_V) (σ : sv_S) (x : Option Nat × sv_S) (h : n_Li_lawOf as σ = some x) : sv_args 3 ev_Li_lawOf.2.2.2.1 as := by
  unfold n_Li_lawOf at h
  split at h
  · exact ⟨Nat.le_of_ble_eq_true rfl, fun _ v hv => by
      simp only [List.mem_cons, List.not_mem_nil, or_false] at hv
      rcases hv with rfl | rfl <;> trivial⟩
  · cases h
theorem g_Li_lawOf (as : List sv_V) (σ : sv_S) (x : Option sv_V × sv_S) (h : sv_gT n_Li_lawOf as σ = some x) : ∃ r i as', as = sv_R r i :: as' ∧ sv_kd r i = .inl 5 := by
  obtain ⟨z, h⟩ : ∃ z, n_Li_lawOf as σ = some z := by rcases sv_bT_some h with ⟨_, h, -⟩ | ⟨_, _, h, -⟩ <;> exact ⟨_, h⟩
  unfold n_Li_lawOf at h
  split at h
  · exact ⟨_, _, _, rfl, rfl⟩
  · cases h

set_option maxRecDepth 20000 in
theorem m_Li_lawOf (l : Launch) : sv_M l yX5_lawOf cX5_lawOf 3 (some (.object "OneStroke$Text")) (sv_gT n_Li_lawOf) 0 := by
  refine sv_mT (E := ev_Li_lawOf) (by decide +kernel) (ln_gen fk_5 kk_5 (sv_ns _ (fun _ => rfl) _)) rfl ?_ a_Li_lawOf b_Li_lawOf
  intro p e R s m args below meth c cells slots Q base ad dC dI cA n0 S hkn hR hf pc n f hcs
  refine sv_lk_all (P := fun pc (x : Nat × sv_F) => sv_cok p l e R s m args below meth c cells slots Q base ad dC dI cA true 3 n0 pc x.1 x.2) ?_ pc (n, f) hcs
  exact fun _ h => absurd h List.not_mem_nil
noncomputable def f_Te_joined (a0 : Int32) (a1 : Int32) (a2 : Int32) (σ : sv_S) : Option (Int32 × sv_S) :=
  sv_if (a0.toInt = 38)
    (sv_if (a1 = 0)
      (some ((0 : Int32), σ))
      (sv_if (a2 = 0)
        (some ((0 : Int32), σ))
        (some ((1 : Int32), σ))))
    (sv_if (a0.toInt = 42)
    (some (a1 * a2, σ))
    (sv_if (a0.toInt = 43)
    (some (a1 + a2, σ))
    (sv_if (a0.toInt = 45)
    (some (a1 - a2, σ))
    (sv_if (a0.toInt = 60)
    (sv_if (a2 ≤ a1)
      (some ((0 : Int32), σ))
      (some ((1 : Int32), σ)))
    (sv_if (a0.toInt = 61)
    (sv_if (a1 = a2)
      (some ((1 : Int32), σ))
      (some ((0 : Int32), σ)))
    (sv_if (a0.toInt = 62)
    (sv_if (a1 ≤ a2)
      (some ((0 : Int32), σ))
      (some ((1 : Int32), σ)))
    (sv_if (a0.toInt = 124)
    (sv_if (a1 = 0)
      (sv_if (a2 = 0)
        (some ((0 : Int32), σ))
        (some ((1 : Int32), σ)))
      (some ((1 : Int32), σ)))
    (sv_if (a2 = 0)
      (some ((0 : Int32), σ))
      (sv_g (¬ a2 = 0) (some (a1 / a2, σ)))))))))))
noncomputable def n_Te_joined : List sv_V → sv_S → Option (Int32 × sv_S)
  | [.inl a0, .inl a1, .inl a2], σ => f_Te_joined a0 a1 a2 σ
  | _, _ => none
def cd_Te_joined : sv_C := [(0, (.iload_n 0, (sv_N, (1, (0, []))))), (1, (.lookupswitch 148 #[(38, 89), (42, 144), (43, 136), (45, 140), (60, 103), (61, 114), (62, 125), (124, 75)], (sv_N, (1, (149, [(38, 90), (42, 145), (43, 137), (45, 141), (60, 104), (61, 115), (62, 126), (124, 76)]))))), (76, (.iload_n 1, (sv_N, (77, (0, []))))), (77, (.ifCond .ne 7, (sv_N, (80, (84, []))))), (80, (.iload_n 2, (sv_N, (81, (0, []))))), (81, (.ifCond .eq 7, (sv_N, (84, (88, []))))), (84, (.iconst 1, (.inl (1 : Int32), (85, (0, []))))), (85, (.goto 4, (sv_N, (88, (89, []))))), (88, (.iconst 0, (.inl (0 : Int32), (89, (0, []))))), (89, (.ireturn, (sv_N, (90, (0, []))))), (90, (.iload_n 1, (sv_N, (91, (0, []))))), (91, (.ifCond .eq 11, (sv_N, (94, (102, []))))), (94, (.iload_n 2, (sv_N, (95, (0, []))))), (95, (.ifCond .eq 7, (sv_N, (98, (102, []))))), (98, (.iconst 1, (.inl (1 : Int32), (99, (0, []))))), (99, (.goto 4, (sv_N, (102, (103, []))))), (102, (.iconst 0, (.inl (0 : Int32), (103, (0, []))))), (103, (.ireturn, (sv_N, (104, (0, []))))), (104, (.iload_n 1, (sv_N, (105, (0, []))))), (105, (.iload_n 2, (sv_N, (106, (0, []))))), (106, (.if_icmp .ge 7, (sv_N, (109, (113, []))))), (109, (.iconst 1, (.inl (1 : Int32), (110, (0, []))))), (110, (.goto 4, (sv_N, (113, (114, []))))), (113, (.iconst 0, (.inl (0 : Int32), (114, (0, []))))), (114, (.ireturn, (sv_N, (115, (0, []))))), (115, (.iload_n 1, (sv_N, (116, (0, []))))), (116, (.iload_n 2, (sv_N, (117, (0, []))))), (117, (.if_icmp .ne 7, (sv_N, (120, (124, []))))), (120, (.iconst 1, (.inl (1 : Int32), (121, (0, []))))), (121, (.goto 4, (sv_N, (124, (125, []))))), (124, (.iconst 0, (.inl (0 : Int32), (125, (0, []))))), (125, (.ireturn, (sv_N, (126, (0, []))))), (126, (.iload_n 1, (sv_N, (127, (0, []))))), (127, (.iload_n 2, (sv_N, (128, (0, []))))), (128, (.if_icmp .le 7, (sv_N, (131, (135, []))))), (131, (.iconst 1, (.inl (1 : Int32), (132, (0, []))))), (132, (.goto 4, (sv_N, (135, (136, []))))), (135, (.iconst 0, (.inl (0 : Int32), (136, (0, []))))), (136, (.ireturn, (sv_N, (137, (0, []))))), (137, (.iload_n 1, (sv_N, (138, (0, []))))), (138, (.iload_n 2, (sv_N, (139, (0, []))))), (139, (.iadd, (sv_N, (140, (0, []))))), (140, (.ireturn, (sv_N, (141, (0, []))))), (141, (.iload_n 1, (sv_N, (142, (0, []))))), (142, (.iload_n 2, (sv_N, (143, (0, []))))), (143, (.isub, (sv_N, (144, (0, []))))), (144, (.ireturn, (sv_N, (145, (0, []))))), (145, (.iload_n 1, (sv_N, (146, (0, []))))), (146, (.iload_n 2, (sv_N, (147, (0, []))))), (147, (.imul, (sv_N, (148, (0, []))))), (148, (.ireturn, (sv_N, (149, (0, []))))), (149, (.iload_n 2, (sv_N, (150, (0, []))))), (150, (.ifCond .ne 7, (sv_N, (153, (157, []))))), (153, (.iconst 0, (.inl (0 : Int32), (154, (0, []))))), (154, (.goto 6, (sv_N, (157, (160, []))))), (157, (.iload_n 1, (sv_N, (158, (0, []))))), (158, (.iload_n 2, (sv_N, (159, (0, []))))), (159, (.idiv, (sv_N, (160, (0, []))))), (160, (.ireturn, (sv_N, (161, (0, [])))))]
noncomputable def ev_Te_joined : sv_E := (fun i => sv_lk i fl_9, (fun i => sv_lk i kc_9, (fun _ => 0, (true, (fun pc => sv_lk pc [], none)))))
noncomputable def kk_Te_joined : sv_K (Int32 × sv_S) := fun pc => sv_lk pc []
set_option maxRecDepth 20000 in
theorem e_Te_joined (a0 : Int32) (a1 : Int32) (a2 : Int32) (σ : sv_S) : sv_ex ev_Te_joined sv_rI kk_Te_joined cd_Te_joined 61 0 [some (.inl a0), some (.inl a1), some (.inl a2)] [] σ = f_Te_joined a0 a1 a2 σ := by
  unfold f_Te_joined
  delta ev_Te_joined kk_Te_joined
  rfl
theorem d_Te_joined : cd_Te_joined.all (sv_dk cX9_joined) = true := by decide +kernel
set_option maxRecDepth 20000 in
theorem b_Te_joined (Γ : sv_Ga) (res : Int32 × sv_S) (X : sv_Ok Γ ev_Te_joined cX9_joined sv_rI res) (as : List sv_V) (σ : sv_S) (h : n_Te_joined as σ = some res) : sv_T Γ 0 (sv_e0 3 as) [] σ := by
  unfold n_Te_joined at h
  split at h
  · refine sv_run X d_Te_joined (K := kk_Te_joined) (sv_lk_all (P := fun pc (k : sv_Lo → List sv_V → sv_S → Option (Int32 × sv_S)) => ∀ lo st σ, k lo st σ = some res → sv_T Γ pc lo st σ) ?_) _ _ _ _ _ ((e_Te_joined _ _ _ _).trans h)
    clear h
    exact fun _ h => absurd h List.not_mem_nil
  · cases h
theorem a_Te_joined (as : List sv_V) (σ : sv_S) (x : Int32 × sv_S) (h : n_Te_joined as σ = some x) : sv_args 3 ev_Te_joined.2.2.2.1 as := by
  unfold n_Te_joined at h
  split at h
  · exact ⟨Nat.le_of_ble_eq_true rfl, fun _ v hv => by
      simp only [List.mem_cons, List.not_mem_nil, or_false] at hv
      rcases hv with rfl | rfl | rfl <;> trivial⟩
  · cases h

set_option maxRecDepth 20000 in
theorem m_Te_joined (l : Launch) : sv_M l yX9_joined cX9_joined 3 (some .int) (sv_gI n_Te_joined) 0 := by
  refine sv_mI (E := ev_Te_joined) (by decide +kernel) (ln_gen fk_9 kk_9 (sv_ns _ (fun _ => rfl) _)) rfl ?_ a_Te_joined b_Te_joined
  intro p e R s m args below meth c cells slots Q base ad dC dI cA n0 S hkn hR hf pc n f hcs
  refine sv_lk_all (P := fun pc (x : Nat × sv_F) => sv_cok p l e R s m args below meth c cells slots Q base ad dC dI cA true 3 n0 pc x.1 x.2) ?_ pc (n, f) hcs
  exact fun _ h => absurd h List.not_mem_nil
noncomputable def f_Te_gives_87 (k6 : Nat → Int32 → Int32 → Int32 → Int32 → Int32 → sv_S → Option (Int32 × sv_S)) (x0 : Nat) (x1 : Int32) (x2 : Int32) (x3 : Int32) (x4 : Int32) (x5 : Int32) (y0 : Int32) (y1 : Int32) (y2 : Nat) (σ : sv_S) : Option (Int32 × sv_S) :=
    sv_g (sv_in y1 ((σ 18 y2 1).toNatClampNeg)) (k6 x0 x1 x2 x3 (x4 + (1 : Int32)) (x5 + (1 : Int32)) (sv_up σ 20 y2 (y1.toNatClampNeg) y0))
noncomputable def f_Te_gives_6 : Nat → Nat → Int32 → Int32 → Int32 → Int32 → Int32 → sv_S → Option (Int32 × sv_S)
  | 0, _, _, _, _, _, _, _ => none
  | n + 1, x0, x1, x2, x3, x4, x5, σ =>
    sv_if ((nI ((σ 18 x0 9).toNatClampNeg)) ≤ x5)
      (sv_if (x4 ≤ 0)
        (some ((0 : Int32), σ))
        (sv_g (sv_in (0 : Int32) ((σ 18 x0 1).toNatClampNeg)) (some (σ 20 x0 ((0 : Int32).toNatClampNeg), σ))))
      (sv_g (sv_in x5 ((σ 18 x0 9).toNatClampNeg)) (sv_if ((20000 : Int32) ≤ (σ 19 x0 (x5.toNatClampNeg)))
        (sv_if ((σ 19 x0 (x5.toNatClampNeg)) = (20033 : Int32))
          (sv_if (x4 < (1 : Int32))
            (f_Te_gives_6 n x0 x1 x2 x3 x4 (x5 + (1 : Int32)) σ)
            (sv_g (sv_in (x4 - (1 : Int32)) ((σ 18 x0 1).toNatClampNeg)) (sv_if ((σ 20 x0 ((x4 - (1 : Int32)).toNatClampNeg)) = 0)
              (sv_g (sv_in (x4 - (1 : Int32)) ((σ 18 x0 1).toNatClampNeg)) (f_Te_gives_6 n x0 x1 x2 x3 x4 (x5 + (1 : Int32)) (sv_up σ 20 x0 ((x4 - (1 : Int32)).toNatClampNeg) (1 : Int32))))
              (sv_g (sv_in (x4 - (1 : Int32)) ((σ 18 x0 1).toNatClampNeg)) (f_Te_gives_6 n x0 x1 x2 x3 x4 (x5 + (1 : Int32)) (sv_up σ 20 x0 ((x4 - (1 : Int32)).toNatClampNeg) (0 : Int32)))))))
          (sv_if (x4 < (2 : Int32))
            (f_Te_gives_6 n x0 x1 x2 x3 x4 (x5 + (1 : Int32)) σ)
            (sv_g (sv_in ((x4 + (-1 : Int32)) - (1 : Int32)) ((σ 18 x0 1).toNatClampNeg)) (sv_g (sv_in (x4 + (-1 : Int32)) ((σ 18 x0 1).toNatClampNeg)) (sv_b (f_Te_joined ((σ 19 x0 (x5.toNatClampNeg)) - (20000 : Int32)) (σ 20 x0 (((x4 + (-1 : Int32)) - (1 : Int32)).toNatClampNeg)) (σ 20 x0 ((x4 + (-1 : Int32)).toNatClampNeg)) σ) (fun v1 σ2 =>
              sv_g (sv_in ((x4 + (-1 : Int32)) - (1 : Int32)) ((σ2 18 x0 1).toNatClampNeg)) (f_Te_gives_6 n x0 x1 x2 x3 (x4 + (-1 : Int32)) (x5 + (1 : Int32)) (sv_up σ2 20 x0 (((x4 + (-1 : Int32)) - (1 : Int32)).toNatClampNeg) v1))))))))
        (sv_if ((nI ((σ 18 x0 1).toNatClampNeg)) ≤ x4)
          (f_Te_gives_6 n x0 x1 x2 x3 x4 (x5 + (1 : Int32)) σ)
          (sv_if ((10000 : Int32) ≤ (σ 19 x0 (x5.toNatClampNeg)))
            (sv_if ((σ 19 x0 (x5.toNatClampNeg)) = (10000 : Int32))
              (f_Te_gives_87 (f_Te_gives_6 n) x0 x1 x2 x3 x4 x5 x1 x4 x0 σ)
              (sv_if ((σ 19 x0 (x5.toNatClampNeg)) = (10001 : Int32))
                (f_Te_gives_87 (f_Te_gives_6 n) x0 x1 x2 x3 x4 x5 x2 x4 x0 σ)
                (f_Te_gives_87 (f_Te_gives_6 n) x0 x1 x2 x3 x4 x5 x3 x4 x0 σ)))
            (f_Te_gives_87 (f_Te_gives_6 n) x0 x1 x2 x3 x4 x5 (σ 19 x0 (x5.toNatClampNeg)) x4 x0 σ)))))
noncomputable def f_Te_gives (a0 : Nat) (a1 : Int32) (a2 : Int32) (a3 : Int32) (σ : sv_S) : Option (Int32 × sv_S) :=
  f_Te_gives_6 sv_fu a0 a1 a2 a3 (0 : Int32) (0 : Int32) σ
noncomputable def n_Te_gives : List sv_V → sv_S → Option (Int32 × sv_S)
  | [.inr (.inr (some (18, a0))), .inl a1, .inl a2, .inl a3], σ => f_Te_gives a0 a1 a2 a3 σ
  | _, _ => none
def cd_Te_gives : sv_C := [(0, (.iconst 0, (.inl (0 : Int32), (1, (0, []))))), (1, (.istore 4, (sv_N, (3, (0, []))))), (3, (.iconst 0, (.inl (0 : Int32), (4, (0, []))))), (4, (.istore 5, (sv_N, (6, (0, []))))), (6, (.iload 5, (sv_N, (8, (0, []))))), (8, (.aload_n 0, (sv_N, (9, (0, []))))), (9, (.getfield 18, (sv_N, (12, (0, []))))), (12, (.arraylength, (sv_N, (13, (0, []))))), (13, (.if_icmp .ge 173, (sv_N, (16, (186, []))))), (16, (.aload_n 0, (sv_N, (17, (0, []))))), (17, (.getfield 18, (sv_N, (20, (0, []))))), (20, (.iload 5, (sv_N, (22, (0, []))))), (22, (.iaload, (sv_N, (23, (0, []))))), (23, (.istore 6, (sv_N, (25, (0, []))))), (25, (.iload 6, (sv_N, (27, (0, []))))), (27, (.sipush 20000, (.inl (20000 : Int32), (30, (0, []))))), (30, (.if_icmp .ge 64, (sv_N, (33, (94, []))))), (33, (.iload 4, (sv_N, (35, (0, []))))), (35, (.aload_n 0, (sv_N, (36, (0, []))))), (36, (.getfield 22, (sv_N, (39, (0, []))))), (39, (.arraylength, (sv_N, (40, (0, []))))), (40, (.if_icmp .ge 140, (sv_N, (43, (180, []))))), (43, (.aload_n 0, (sv_N, (44, (0, []))))), (44, (.getfield 22, (sv_N, (47, (0, []))))), (47, (.iload 4, (sv_N, (49, (0, []))))), (49, (.iload 6, (sv_N, (51, (0, []))))), (51, (.sipush 10000, (.inl (10000 : Int32), (54, (0, []))))), (54, (.if_icmp .ge 8, (sv_N, (57, (62, []))))), (57, (.iload 6, (sv_N, (59, (0, []))))), (59, (.goto 28, (sv_N, (62, (87, []))))), (62, (.iload 6, (sv_N, (64, (0, []))))), (64, (.sipush 10000, (.inl (10000 : Int32), (67, (0, []))))), (67, (.if_icmp .ne 7, (sv_N, (70, (74, []))))), (70, (.iload_n 1, (sv_N, (71, (0, []))))), (71, (.goto 16, (sv_N, (74, (87, []))))), (74, (.iload 6, (sv_N, (76, (0, []))))), (76, (.sipush 10001, (.inl (10001 : Int32), (79, (0, []))))), (79, (.if_icmp .ne 7, (sv_N, (82, (86, []))))), (82, (.iload_n 2, (sv_N, (83, (0, []))))), (83, (.goto 4, (sv_N, (86, (87, []))))), (86, (.iload_n 3, (sv_N, (87, (0, []))))), (87, (.iastore, (sv_N, (88, (0, []))))), (88, (.iinc 4 1, (.inl (1 : Int32), (91, (0, []))))), (91, (.goto 89, (sv_N, (94, (180, []))))), (94, (.iload 6, (sv_N, (96, (0, []))))), (96, (.sipush 20033, (.inl (20033 : Int32), (99, (0, []))))), (99, (.if_icmp .ne 38, (sv_N, (102, (137, []))))), (102, (.iload 4, (sv_N, (104, (0, []))))), (104, (.iconst 1, (.inl (1 : Int32), (105, (0, []))))), (105, (.if_icmp .lt 75, (sv_N, (108, (180, []))))), (108, (.aload_n 0, (sv_N, (109, (0, []))))), (109, (.getfield 22, (sv_N, (112, (0, []))))), (112, (.iload 4, (sv_N, (114, (0, []))))), (114, (.iconst 1, (.inl (1 : Int32), (115, (0, []))))), (115, (.isub, (sv_N, (116, (0, []))))), (116, (.aload_n 0, (sv_N, (117, (0, []))))), (117, (.getfield 22, (sv_N, (120, (0, []))))), (120, (.iload 4, (sv_N, (122, (0, []))))), (122, (.iconst 1, (.inl (1 : Int32), (123, (0, []))))), (123, (.isub, (sv_N, (124, (0, []))))), (124, (.iaload, (sv_N, (125, (0, []))))), (125, (.ifCond .ne 7, (sv_N, (128, (132, []))))), (128, (.iconst 1, (.inl (1 : Int32), (129, (0, []))))), (129, (.goto 4, (sv_N, (132, (133, []))))), (132, (.iconst 0, (.inl (0 : Int32), (133, (0, []))))), (133, (.iastore, (sv_N, (134, (0, []))))), (134, (.goto 46, (sv_N, (137, (180, []))))), (137, (.iload 4, (sv_N, (139, (0, []))))), (139, (.iconst 2, (.inl (2 : Int32), (140, (0, []))))), (140, (.if_icmp .lt 40, (sv_N, (143, (180, []))))), (143, (.iinc 4 (-1), (.inl (-1 : Int32), (146, (0, []))))), (146, (.aload_n 0, (sv_N, (147, (0, []))))), (147, (.getfield 22, (sv_N, (150, (0, []))))), (150, (.iload 4, (sv_N, (152, (0, []))))), (152, (.iconst 1, (.inl (1 : Int32), (153, (0, []))))), (153, (.isub, (sv_N, (154, (0, []))))), (154, (.iload 6, (sv_N, (156, (0, []))))), (156, (.sipush 20000, (.inl (20000 : Int32), (159, (0, []))))), (159, (.isub, (sv_N, (160, (0, []))))), (160, (.aload_n 0, (sv_N, (161, (0, []))))), (161, (.getfield 22, (sv_N, (164, (0, []))))), (164, (.iload 4, (sv_N, (166, (0, []))))), (166, (.iconst 1, (.inl (1 : Int32), (167, (0, []))))), (167, (.isub, (sv_N, (168, (0, []))))), (168, (.iaload, (sv_N, (169, (0, []))))), (169, (.aload_n 0, (sv_N, (170, (0, []))))), (170, (.getfield 22, (sv_N, (173, (0, []))))), (173, (.iload 4, (sv_N, (175, (0, []))))), (175, (.iaload, (sv_N, (176, (0, []))))), (176, (.invokestatic 37, (sv_N, (179, (0, []))))), (179, (.iastore, (sv_N, (180, (0, []))))), (180, (.iinc 5 1, (.inl (1 : Int32), (183, (0, []))))), (183, (.goto (-177), (sv_N, (186, (6, []))))), (186, (.iload 4, (sv_N, (188, (0, []))))), (188, (.ifCond .le 12, (sv_N, (191, (200, []))))), (191, (.aload_n 0, (sv_N, (192, (0, []))))), (192, (.getfield 22, (sv_N, (195, (0, []))))), (195, (.iconst 0, (.inl (0 : Int32), (196, (0, []))))), (196, (.iaload, (sv_N, (197, (0, []))))), (197, (.goto 4, (sv_N, (200, (201, []))))), (200, (.iconst 0, (.inl (0 : Int32), (201, (0, []))))), (201, (.ireturn, (sv_N, (202, (0, [])))))]
noncomputable def ev_Te_gives : sv_E := (fun i => sv_lk i fl_9, (fun i => sv_lk i kc_9, (fun _ => 0, (true, (fun pc => sv_lk pc [(176, (3, .inl n_Te_joined))], none)))))
noncomputable def kk_Te_gives_87 (k6 : Nat → Int32 → Int32 → Int32 → Int32 → Int32 → sv_S → Option (Int32 × sv_S)) : sv_K (Int32 × sv_S) := fun pc => sv_lk pc [(6, fun lo st σ => match lo, st with
    | [some (.inr (.inr (some (18, x0)))), some (.inl x1), some (.inl x2), some (.inl x3), some (.inl x4), some (.inl x5), _], [] => k6 x0 x1 x2 x3 x4 x5 σ
    | _, _ => none)]
set_option maxRecDepth 20000 in
theorem e_Te_gives_87 (k6 : Nat → Int32 → Int32 → Int32 → Int32 → Int32 → sv_S → Option (Int32 × sv_S)) (x0 : Nat) (x1 : Int32) (x2 : Int32) (x3 : Int32) (x4 : Int32) (x5 : Int32) (y0 : Int32) (y1 : Int32) (y2 : Nat) (z6 : Option sv_V) (σ : sv_S) : sv_ex ev_Te_gives sv_rI (kk_Te_gives_87 k6) cd_Te_gives 104 87 [some (.inr (.inr (some (18, x0)))), some (.inl x1), some (.inl x2), some (.inl x3), some (.inl x4), some (.inl x5), z6] [.inl y0, .inl y1, .inr (.inr (some (20, y2)))] σ = f_Te_gives_87 k6 x0 x1 x2 x3 x4 x5 y0 y1 y2 σ := by
  unfold f_Te_gives_87
  delta ev_Te_gives kk_Te_gives_87 n_Te_joined
  generalize f_Te_joined = c0
  generalize f_Te_gives_6 = c1
  rfl
noncomputable def kk_Te_gives_6 (n : Nat) : sv_K (Int32 × sv_S) := fun pc => sv_lk pc [(6, fun lo st σ => match lo, st with
    | [some (.inr (.inr (some (18, x0)))), some (.inl x1), some (.inl x2), some (.inl x3), some (.inl x4), some (.inl x5), _], [] => f_Te_gives_6 n x0 x1 x2 x3 x4 x5 σ
    | _, _ => none),
  (87, fun lo st σ => match lo, st with
    | [some (.inr (.inr (some (18, x0)))), some (.inl x1), some (.inl x2), some (.inl x3), some (.inl x4), some (.inl x5), _], [.inl y0, .inl y1, .inr (.inr (some (20, y2)))] => f_Te_gives_87 (f_Te_gives_6 n) x0 x1 x2 x3 x4 x5 y0 y1 y2 σ
    | _, _ => none)]
set_option maxRecDepth 20000 in
theorem e_Te_gives_6 (n : Nat) (x0 : Nat) (x1 : Int32) (x2 : Int32) (x3 : Int32) (x4 : Int32) (x5 : Int32) (z6 : Option sv_V) (σ : sv_S) : sv_ex ev_Te_gives sv_rI (kk_Te_gives_6 n) cd_Te_gives 104 6 [some (.inr (.inr (some (18, x0)))), some (.inl x1), some (.inl x2), some (.inl x3), some (.inl x4), some (.inl x5), z6] [] σ = f_Te_gives_6 (n + 1) x0 x1 x2 x3 x4 x5 σ := by
  rw [f_Te_gives_6.eq_2]
  delta ev_Te_gives kk_Te_gives_6 n_Te_joined
  generalize f_Te_joined = c0
  generalize f_Te_gives_6 = c1
  generalize f_Te_gives_87 = c2
  rfl
noncomputable def kk_Te_gives : sv_K (Int32 × sv_S) := fun pc => sv_lk pc [(6, fun lo st σ => match lo, st with
    | [some (.inr (.inr (some (18, x0)))), some (.inl x1), some (.inl x2), some (.inl x3), some (.inl x4), some (.inl x5), _], [] => f_Te_gives_6 sv_fu x0 x1 x2 x3 x4 x5 σ
    | _, _ => none)]
set_option maxRecDepth 20000 in
theorem e_Te_gives (a0 : Nat) (a1 : Int32) (a2 : Int32) (a3 : Int32) (σ : sv_S) : sv_ex ev_Te_gives sv_rI kk_Te_gives cd_Te_gives 104 0 [some (.inr (.inr (some (18, a0)))), some (.inl a1), some (.inl a2), some (.inl a3), none, none, none] [] σ = f_Te_gives a0 a1 a2 a3 σ := by
  unfold f_Te_gives
  delta ev_Te_gives kk_Te_gives n_Te_joined
  generalize f_Te_joined = c0
  generalize f_Te_gives_6 = c1
  rfl
theorem d_Te_gives : cd_Te_gives.all (sv_dk cX9_gives) = true := by decide +kernel
set_option maxRecDepth 20000 in
theorem w_Te_gives_87 {Γ : sv_Ga} {res : Int32 × sv_S} (X : sv_Ok Γ ev_Te_gives cX9_gives sv_rI res) (k6 : Nat → Int32 → Int32 → Int32 → Int32 → Int32 → sv_S → Option (Int32 × sv_S)) (h6 : ∀ (x0 : Nat) (x1 : Int32) (x2 : Int32) (x3 : Int32) (x4 : Int32) (x5 : Int32) (z6 : Option sv_V) (σ : sv_S), k6 x0 x1 x2 x3 x4 x5 σ = some res → sv_T Γ 6 [some (.inr (.inr (some (18, x0)))), some (.inl x1), some (.inl x2), some (.inl x3), some (.inl x4), some (.inl x5), z6] [] σ) : ∀ (x0 : Nat) (x1 : Int32) (x2 : Int32) (x3 : Int32) (x4 : Int32) (x5 : Int32) (y0 : Int32) (y1 : Int32) (y2 : Nat) (z6 : Option sv_V) (σ : sv_S), f_Te_gives_87 k6 x0 x1 x2 x3 x4 x5 y0 y1 y2 σ = some res → sv_T Γ 87 [some (.inr (.inr (some (18, x0)))), some (.inl x1), some (.inl x2), some (.inl x3), some (.inl x4), some (.inl x5), z6] [.inl y0, .inl y1, .inr (.inr (some (20, y2)))] σ := by
  intro x0 x1 x2 x3 x4 x5 y0 y1 y2 z6 σ h
  refine sv_run X d_Te_gives (K := kk_Te_gives_87 k6) (sv_lk_all (P := fun pc (k : sv_Lo → List sv_V → sv_S → Option (Int32 × sv_S)) => ∀ lo st σ, k lo st σ = some res → sv_T Γ pc lo st σ) ?_) _ _ _ _ _ ((e_Te_gives_87 k6 x0 x1 x2 x3 x4 x5 y0 y1 y2 z6 σ).trans h)
  clear h
  refine List.forall_mem_cons.mpr ⟨fun lo st σ h => ?_, fun _ h => absurd h List.not_mem_nil⟩
  · dsimp only at h
    split at h
    · exact h6 _ _ _ _ _ _ _ _ h
    · cases h

set_option maxRecDepth 20000 in
theorem w_Te_gives_6 {Γ : sv_Ga} {res : Int32 × sv_S} (X : sv_Ok Γ ev_Te_gives cX9_gives sv_rI res) : ∀ (n : Nat) (x0 : Nat) (x1 : Int32) (x2 : Int32) (x3 : Int32) (x4 : Int32) (x5 : Int32) (z6 : Option sv_V) (σ : sv_S), f_Te_gives_6 n x0 x1 x2 x3 x4 x5 σ = some res → sv_T Γ 6 [some (.inr (.inr (some (18, x0)))), some (.inl x1), some (.inl x2), some (.inl x3), some (.inl x4), some (.inl x5), z6] [] σ := by
  intro n
  induction n with
  | zero =>
    intro x0 x1 x2 x3 x4 x5 z6 σ h
    rw [f_Te_gives_6.eq_1] at h
    cases h
  | succ n ih =>
    intro x0 x1 x2 x3 x4 x5 z6 σ h
    refine sv_run X d_Te_gives (K := kk_Te_gives_6 n) (sv_lk_all (P := fun pc (k : sv_Lo → List sv_V → sv_S → Option (Int32 × sv_S)) => ∀ lo st σ, k lo st σ = some res → sv_T Γ pc lo st σ) ?_) _ _ _ _ _ ((e_Te_gives_6 n x0 x1 x2 x3 x4 x5 z6 σ).trans h)
    clear h
    refine List.forall_mem_cons.mpr ⟨fun lo st σ h => ?_, List.forall_mem_cons.mpr ⟨fun lo st σ h => ?_, fun _ h => absurd h List.not_mem_nil⟩⟩
    · dsimp only at h
      split at h
      · exact ih _ _ _ _ _ _ _ _ h
      · cases h
    · dsimp only at h
      split at h
      · exact w_Te_gives_87 X _ ih _ _ _ _ _ _ _ _ _ _ _ h
      · cases h

set_option maxRecDepth 20000 in
theorem b_Te_gives (Γ : sv_Ga) (res : Int32 × sv_S) (X : sv_Ok Γ ev_Te_gives cX9_gives sv_rI res) (as : List sv_V) (σ : sv_S) (h : n_Te_gives as σ = some res) : sv_T Γ 0 (sv_e0 7 as) [] σ := by
  unfold n_Te_gives at h
  split at h
  · refine sv_run X d_Te_gives (K := kk_Te_gives) (sv_lk_all (P := fun pc (k : sv_Lo → List sv_V → sv_S → Option (Int32 × sv_S)) => ∀ lo st σ, k lo st σ = some res → sv_T Γ pc lo st σ) ?_) _ _ _ _ _ ((e_Te_gives _ _ _ _ _).trans h)
    clear h
    refine List.forall_mem_cons.mpr ⟨fun lo st σ h => ?_, fun _ h => absurd h List.not_mem_nil⟩
    · dsimp only at h
      split at h
      · exact w_Te_gives_6 X _ _ _ _ _ _ _ _ _ h
      · cases h
  · cases h
theorem a_Te_gives (as : List sv_V) (σ : sv_S) (x : Int32 × sv_S) (h : n_Te_gives as σ = some x) : sv_args 7 ev_Te_gives.2.2.2.1 as := by
  unfold n_Te_gives at h
  split at h
  · exact ⟨Nat.le_of_ble_eq_true rfl, fun _ v hv => by
      simp only [List.mem_cons, List.not_mem_nil, or_false] at hv
      rcases hv with rfl | rfl | rfl | rfl <;> trivial⟩
  · cases h
theorem g_Te_gives (as : List sv_V) (σ : sv_S) (x : Option sv_V × sv_S) (h : sv_gI n_Te_gives as σ = some x) : ∃ r i as', as = sv_R r i :: as' ∧ sv_kd r i = .inl 9 := by
  obtain ⟨_, _, h, -⟩ := sv_b_some h
  unfold n_Te_gives at h
  split at h
  · exact ⟨_, _, _, rfl, rfl⟩
  · cases h
theorem tw_67 : Cond.initialized RX9 ∈ gw_tbl := gw_at 67 (by decide +kernel) rfl
theorem tw_393 : Cond.methodLink RX9 37 yX9_joined ∈ gw_tbl := gw_at 393 (by decide +kernel) rfl
theorem tw_394 : Cond.static yX9_joined ∈ gw_tbl := gw_at 394 (by decide +kernel) rfl
theorem tw_395 : Cond.code yX9_joined cX9_joined 3 (some .int) ∈ gw_tbl := gw_at 395 (by decide +kernel) rfl
set_option maxRecDepth 20000 in
theorem m_Te_gives (l : Launch) : sv_M l yX9_gives cX9_gives 7 (some .int) (sv_gI n_Te_gives) 1 := by
  refine sv_mI (E := ev_Te_gives) (by decide +kernel) (ln_gen fk_9 kk_9 (sv_ns _ (fun _ => rfl) _)) rfl ?_ a_Te_gives b_Te_gives
  intro p e R s m args below meth c cells slots Q base ad dC dI cA n0 S hkn hR hf pc n f hcs
  refine sv_lk_all (P := fun pc (x : Nat × sv_F) => sv_cok p l e R s m args below meth c cells slots Q base ad dC dI cA true 7 n0 pc x.1 x.2) ?_ pc (n, f) hcs
  exact List.forall_mem_cons.mpr ⟨(sv_cS S hkn (m_Te_joined l) ⟨Nat.le_trans (by decide) hR.1, Nat.le_trans (by decide) hR.2⟩ (by decide) hf (sv_w4 tw_393 tw_394 tw_67 tw_395) (by decide +kernel) (sv_dc3 d_Te_gives (pc := 176) rfl rfl)).I,
      fun _ h => absurd h List.not_mem_nil⟩
noncomputable def f_Li_hearGives (a0 : Nat) (a1 : Int32) (σ : sv_S) : Option (Int32 × sv_S) :=
  sv_b (f_Li_soundFrom a0 (a1 - (1 : Int32)) a1 σ) (fun v1 σ2 =>
    sv_b (f_Li_soundFrom a0 (a1 + (1 : Int32)) a1 σ2) (fun v3 σ4 =>
      sv_bT (f_Li_lawOf a0 (0 : Int32) σ4) (fun σ5 =>
        sv_if (0 < v1)
          (some ((1 : Int32), σ5))
          (sv_if (v3 ≤ 0)
            (some ((0 : Int32), σ5))
            (some ((1 : Int32), σ5)))) (fun t6 σ7 =>
        sv_b (f_Te_gives t6 v1 v3 a1 σ7) (fun v8 σ9 =>
          some (v8, σ9)))))
noncomputable def n_Li_hearGives : List sv_V → sv_S → Option (Int32 × sv_S)
  | [.inr (.inr (some (1, a0))), .inl a1], σ => f_Li_hearGives a0 a1 σ
  | _, _ => none
def cd_Li_hearGives : sv_C := [(0, (.aload_n 0, (sv_N, (1, (0, []))))), (1, (.iload_n 1, (sv_N, (2, (0, []))))), (2, (.iconst 1, (.inl (1 : Int32), (3, (0, []))))), (3, (.isub, (sv_N, (4, (0, []))))), (4, (.iload_n 1, (sv_N, (5, (0, []))))), (5, (.invokevirtual 88, (sv_N, (8, (0, []))))), (8, (.istore_n 2, (sv_N, (9, (0, []))))), (9, (.aload_n 0, (sv_N, (10, (0, []))))), (10, (.iload_n 1, (sv_N, (11, (0, []))))), (11, (.iconst 1, (.inl (1 : Int32), (12, (0, []))))), (12, (.iadd, (sv_N, (13, (0, []))))), (13, (.iload_n 1, (sv_N, (14, (0, []))))), (14, (.invokevirtual 88, (sv_N, (17, (0, []))))), (17, (.istore_n 3, (sv_N, (18, (0, []))))), (18, (.aload_n 0, (sv_N, (19, (0, []))))), (19, (.iconst 0, (.inl (0 : Int32), (20, (0, []))))), (20, (.invokevirtual 91, (sv_N, (23, (0, []))))), (23, (.astore 4, (sv_N, (25, (0, []))))), (25, (.aload 4, (sv_N, (27, (0, []))))), (27, (.ifnull 12, (sv_N, (30, (39, []))))), (30, (.aload 4, (sv_N, (32, (0, []))))), (32, (.iload_n 2, (sv_N, (33, (0, []))))), (33, (.iload_n 3, (sv_N, (34, (0, []))))), (34, (.iload_n 1, (sv_N, (35, (0, []))))), (35, (.invokevirtual 95, (sv_N, (38, (0, []))))), (38, (.ireturn, (sv_N, (39, (0, []))))), (39, (.iload_n 2, (sv_N, (40, (0, []))))), (40, (.ifCond .gt 7, (sv_N, (43, (47, []))))), (43, (.iload_n 3, (sv_N, (44, (0, []))))), (44, (.ifCond .le 7, (sv_N, (47, (51, []))))), (47, (.iconst 1, (.inl (1 : Int32), (48, (0, []))))), (48, (.goto 4, (sv_N, (51, (52, []))))), (51, (.iconst 0, (.inl (0 : Int32), (52, (0, []))))), (52, (.ireturn, (sv_N, (53, (0, [])))))]
noncomputable def ev_Li_hearGives : sv_E := (fun i => sv_lk i fl_5, (fun i => sv_lk i kc_5, (fun _ => 0, (true, (fun pc => sv_lk pc [(5, (3, .inl n_Li_soundFrom)), (14, (3, .inl n_Li_soundFrom)), (20, (2, .inr (.inr (.inr n_Li_lawOf)))), (35, (4, .inl n_Te_gives))], none)))))
noncomputable def kk_Li_hearGives : sv_K (Int32 × sv_S) := fun pc => sv_lk pc []
set_option maxRecDepth 20000 in
theorem e_Li_hearGives (a0 : Nat) (a1 : Int32) (σ : sv_S) : sv_ex ev_Li_hearGives sv_rI kk_Li_hearGives cd_Li_hearGives 36 0 [some (.inr (.inr (some (1, a0)))), some (.inl a1), none, none, none] [] σ = f_Li_hearGives a0 a1 σ := by
  unfold f_Li_hearGives
  delta ev_Li_hearGives kk_Li_hearGives n_Li_soundFrom n_Li_lawOf n_Te_gives
  generalize f_Li_soundFrom = c0
  generalize f_Li_lawOf = c1
  generalize f_Te_gives = c2
  rfl
theorem d_Li_hearGives : cd_Li_hearGives.all (sv_dk cX5_hearGives) = true := by decide +kernel
set_option maxRecDepth 20000 in
theorem b_Li_hearGives (Γ : sv_Ga) (res : Int32 × sv_S) (X : sv_Ok Γ ev_Li_hearGives cX5_hearGives sv_rI res) (as : List sv_V) (σ : sv_S) (h : n_Li_hearGives as σ = some res) : sv_T Γ 0 (sv_e0 5 as) [] σ := by
  unfold n_Li_hearGives at h
  split at h
  · refine sv_run X d_Li_hearGives (K := kk_Li_hearGives) (sv_lk_all (P := fun pc (k : sv_Lo → List sv_V → sv_S → Option (Int32 × sv_S)) => ∀ lo st σ, k lo st σ = some res → sv_T Γ pc lo st σ) ?_) _ _ _ _ _ ((e_Li_hearGives _ _ _).trans h)
    clear h
    exact fun _ h => absurd h List.not_mem_nil
  · cases h
theorem a_Li_hearGives (as : List sv_V) (σ : sv_S) (x : Int32 × sv_S) (h : n_Li_hearGives as σ = some x) : sv_args 5 ev_Li_hearGives.2.2.2.1 as := by
  unfold n_Li_hearGives at h
  split at h
  · exact ⟨Nat.le_of_ble_eq_true rfl, fun _ v hv => by
      simp only [List.mem_cons, List.not_mem_nil, or_false] at hv
      rcases hv with rfl | rfl <;> trivial⟩
  · cases h
theorem g_Li_hearGives (as : List sv_V) (σ : sv_S) (x : Option sv_V × sv_S) (h : sv_gI n_Li_hearGives as σ = some x) : ∃ r i as', as = sv_R r i :: as' ∧ sv_kd r i = .inl 5 := by
  obtain ⟨_, _, h, -⟩ := sv_b_some h
  unfold n_Li_hearGives at h
  split at h
  · exact ⟨_, _, _, rfl, rfl⟩
  · cases h
theorem tw_384 : Cond.methodLink RX5 88 yX5_soundFrom ∈ gw_tbl := gw_at 384 (by decide +kernel) rfl
theorem tw_385 : Cond.methodLink RX5 91 yX5_lawOf ∈ gw_tbl := gw_at 385 (by decide +kernel) rfl
theorem tw_386 : Cond.instanceMethod yX5_lawOf ∈ gw_tbl := gw_at 386 (by decide +kernel) rfl
theorem tw_387 : Cond.selects RX5 yX5_lawOf yX5_lawOf ∈ gw_tbl := gw_at 387 (by decide +kernel) rfl
theorem tw_388 : Cond.code yX5_lawOf cX5_lawOf 3 (some (.object "OneStroke$Text")) ∈ gw_tbl := gw_at 388 (by decide +kernel) rfl
theorem tw_389 : Cond.methodLink RX5 95 yX9_gives ∈ gw_tbl := gw_at 389 (by decide +kernel) rfl
theorem tw_390 : Cond.instanceMethod yX9_gives ∈ gw_tbl := gw_at 390 (by decide +kernel) rfl
theorem tw_391 : Cond.selects RX9 yX9_gives yX9_gives ∈ gw_tbl := gw_at 391 (by decide +kernel) rfl
theorem tw_392 : Cond.code yX9_gives cX9_gives 7 (some .int) ∈ gw_tbl := gw_at 392 (by decide +kernel) rfl
set_option maxRecDepth 20000 in
theorem m_Li_hearGives (l : Launch) : sv_M l yX5_hearGives cX5_hearGives 5 (some .int) (sv_gI n_Li_hearGives) 2 := by
  refine sv_mI (E := ev_Li_hearGives) (by decide +kernel) (ln_gen fk_5 kk_5 (sv_ns _ (fun _ => rfl) _)) rfl ?_ a_Li_hearGives b_Li_hearGives
  intro p e R s m args below meth c cells slots Q base ad dC dI cA n0 S hkn hR hf pc n f hcs
  refine sv_lk_all (P := fun pc (x : Nat × sv_F) => sv_cok p l e R s m args below meth c cells slots Q base ad dC dI cA true 5 n0 pc x.1 x.2) ?_ pc (n, f) hcs
  exact List.forall_mem_cons.mpr ⟨(sv_cV S hkn (m_Li_soundFrom l) ⟨Nat.le_trans (by decide) hR.1, Nat.le_trans (by decide) hR.2⟩ (by decide) hf rfl (g_Li_soundFrom) (sv_w5 tw_384 tw_365 tw_366 tw_60 tw_367) (by decide +kernel) (sv_dc3 d_Li_hearGives (pc := 5) rfl rfl)).I,
      List.forall_mem_cons.mpr ⟨(sv_cV S hkn (m_Li_soundFrom l) ⟨Nat.le_trans (by decide) hR.1, Nat.le_trans (by decide) hR.2⟩ (by decide) hf rfl (g_Li_soundFrom) (sv_w5 tw_384 tw_365 tw_366 tw_60 tw_367) (by decide +kernel) (sv_dc3 d_Li_hearGives (pc := 14) rfl rfl)).I,
      List.forall_mem_cons.mpr ⟨(sv_cV S hkn (m_Li_lawOf l) ⟨Nat.le_trans (by decide) hR.1, Nat.le_trans (by decide) hR.2⟩ (by decide) hf rfl (g_Li_lawOf) (sv_w5 tw_385 tw_386 tw_387 tw_60 tw_388) (by decide +kernel) (sv_dc3 d_Li_hearGives (pc := 20) rfl rfl)).T,
      List.forall_mem_cons.mpr ⟨(sv_cV S hkn (m_Te_gives l) ⟨Nat.le_trans (by decide) hR.1, Nat.le_trans (by decide) hR.2⟩ (by decide) hf rfl (g_Te_gives) (sv_w5 tw_389 tw_390 tw_391 tw_67 tw_392) (by decide +kernel) (sv_dc3 d_Li_hearGives (pc := 35) rfl rfl)).I,
      fun _ h => absurd h List.not_mem_nil⟩⟩⟩⟩
noncomputable def f_Ki_hears (a0 : Nat) (a1 : Nat) (a2 : Int32) (σ : sv_S) : Option (Int32 × sv_S) :=
  sv_b (f_Li_hearGives a1 a2 σ) (fun v1 σ2 =>
    sv_if (v1 = 0)
      (sv_g ((0 : Int32) = 0 ∨ (0 : Int32) = 1) (some ((0 : Int32), σ2)))
      (sv_g ((1 : Int32) = 0 ∨ (1 : Int32) = 1) (some ((1 : Int32), σ2))))
noncomputable def n_Ki_hears : List sv_V → sv_S → Option (Int32 × sv_S)
  | [.inr (.inr (some (7, a0))), .inr (.inr (some (1, a1))), .inl a2], σ => f_Ki_hears a0 a1 a2 σ
  | _, _ => none
def cd_Ki_hears : sv_C := [(0, (.aload_n 1, (sv_N, (1, (0, []))))), (1, (.iload_n 2, (sv_N, (2, (0, []))))), (2, (.invokevirtual 9, (sv_N, (5, (0, []))))), (5, (.ifCond .eq 7, (sv_N, (8, (12, []))))), (8, (.iconst 1, (.inl (1 : Int32), (9, (0, []))))), (9, (.goto 4, (sv_N, (12, (13, []))))), (12, (.iconst 0, (.inl (0 : Int32), (13, (0, []))))), (13, (.ireturn, (sv_N, (14, (0, [])))))]
noncomputable def ev_Ki_hears : sv_E := (fun i => sv_lk i fl_3, (fun i => sv_lk i kc_3, (fun _ => 0, (true, (fun pc => sv_lk pc [(2, (2, .inl n_Li_hearGives))], none)))))
noncomputable def kk_Ki_hears : sv_K (Int32 × sv_S) := fun pc => sv_lk pc []
set_option maxRecDepth 20000 in
theorem e_Ki_hears (a0 : Nat) (a1 : Nat) (a2 : Int32) (σ : sv_S) : sv_ex ev_Ki_hears sv_rZ kk_Ki_hears cd_Ki_hears 10 0 [some (.inr (.inr (some (7, a0)))), some (.inr (.inr (some (1, a1)))), some (.inl a2)] [] σ = f_Ki_hears a0 a1 a2 σ := by
  unfold f_Ki_hears
  delta ev_Ki_hears kk_Ki_hears n_Li_hearGives
  generalize f_Li_hearGives = c0
  rfl
theorem d_Ki_hears : cd_Ki_hears.all (sv_dk cX3_hears) = true := by decide +kernel
set_option maxRecDepth 20000 in
theorem b_Ki_hears (Γ : sv_Ga) (res : Int32 × sv_S) (X : sv_Ok Γ ev_Ki_hears cX3_hears sv_rZ res) (as : List sv_V) (σ : sv_S) (h : n_Ki_hears as σ = some res) : sv_T Γ 0 (sv_e0 3 as) [] σ := by
  unfold n_Ki_hears at h
  split at h
  · refine sv_run X d_Ki_hears (K := kk_Ki_hears) (sv_lk_all (P := fun pc (k : sv_Lo → List sv_V → sv_S → Option (Int32 × sv_S)) => ∀ lo st σ, k lo st σ = some res → sv_T Γ pc lo st σ) ?_) _ _ _ _ _ ((e_Ki_hears _ _ _ _).trans h)
    clear h
    exact fun _ h => absurd h List.not_mem_nil
  · cases h
theorem a_Ki_hears (as : List sv_V) (σ : sv_S) (x : Int32 × sv_S) (h : n_Ki_hears as σ = some x) : sv_args 3 ev_Ki_hears.2.2.2.1 as := by
  unfold n_Ki_hears at h
  split at h
  · exact ⟨Nat.le_of_ble_eq_true rfl, fun _ v hv => by
      simp only [List.mem_cons, List.not_mem_nil, or_false] at hv
      rcases hv with rfl | rfl | rfl <;> trivial⟩
  · cases h
theorem gs_Ki_hears (as : List sv_V) (σ : sv_S) (x : Option sv_V × sv_S) (h : sv_gI n_Ki_hears as σ = some x) : ∃ r i as' ci q, as = sv_R r i :: as' ∧ sv_kd r i = .inl ci ∧ vwCl[ci]? = some q := by
  obtain ⟨_, _, h, -⟩ := sv_b_some h
  unfold n_Ki_hears at h
  split at h
  · obtain ⟨ci, q, h1, h2⟩ := sv_kd7 _
    exact ⟨_, _, _, ci, q, rfl, h1, h2⟩
  · cases h
theorem tw_380 : Cond.methodLink RX3 9 yX5_hearGives ∈ gw_tbl := gw_at 380 (by decide +kernel) rfl
theorem tw_381 : Cond.instanceMethod yX5_hearGives ∈ gw_tbl := gw_at 381 (by decide +kernel) rfl
theorem tw_382 : Cond.selects RX5 yX5_hearGives yX5_hearGives ∈ gw_tbl := gw_at 382 (by decide +kernel) rfl
theorem tw_383 : Cond.code yX5_hearGives cX5_hearGives 5 (some .int) ∈ gw_tbl := gw_at 383 (by decide +kernel) rfl
set_option maxRecDepth 20000 in
theorem m_Ki_hears (l : Launch) : sv_M l yX3_hears cX3_hears 3 (some .boolean) (sv_gI n_Ki_hears) 3 := by
  refine sv_mZ (E := ev_Ki_hears) (by decide +kernel) (ln_gen fk_3 kk_3 (sv_ns _ (fun _ => rfl) _)) rfl ?_ a_Ki_hears b_Ki_hears
  intro p e R s m args below meth c cells slots Q base ad dC dI cA n0 S hkn hR hf pc n f hcs
  refine sv_lk_all (P := fun pc (x : Nat × sv_F) => sv_cok p l e R s m args below meth c cells slots Q base ad dC dI cA true 3 n0 pc x.1 x.2) ?_ pc (n, f) hcs
  exact List.forall_mem_cons.mpr ⟨(sv_cV S hkn (m_Li_hearGives l) ⟨Nat.le_trans (by decide) hR.1, Nat.le_trans (by decide) hR.2⟩ (by decide) hf rfl (g_Li_hearGives) (sv_w5 tw_380 tw_381 tw_382 tw_60 tw_383) (by decide +kernel) (sv_dc3 d_Ki_hears (pc := 2) rfl rfl)).I,
      fun _ h => absurd h List.not_mem_nil⟩
noncomputable def f_Ki_stepFrom (a0 : Nat) (a1 : Int32) (a2 : Int32) (σ : sv_S) : Option (Int32 × sv_S) :=
  sv_if (a1 < (9 : Int32))
    (some (a1 + (1 : Int32), σ))
    (some ((0 : Int32), σ))
noncomputable def n_Ki_stepFrom : List sv_V → sv_S → Option (Int32 × sv_S)
  | [.inr (.inr (some (7, a0))), .inl a1, .inl a2], σ => f_Ki_stepFrom a0 a1 a2 σ
  | _, _ => none
def cd_Ki_stepFrom : sv_C := [(0, (.iload_n 1, (sv_N, (1, (0, []))))), (1, (.bipush 9, (.inl (9 : Int32), (3, (0, []))))), (3, (.if_icmp .lt 7, (sv_N, (6, (10, []))))), (6, (.iconst 0, (.inl (0 : Int32), (7, (0, []))))), (7, (.goto 6, (sv_N, (10, (13, []))))), (10, (.iload_n 1, (sv_N, (11, (0, []))))), (11, (.iconst 1, (.inl (1 : Int32), (12, (0, []))))), (12, (.iadd, (sv_N, (13, (0, []))))), (13, (.ireturn, (sv_N, (14, (0, [])))))]
noncomputable def ev_Ki_stepFrom : sv_E := (fun i => sv_lk i fl_3, (fun i => sv_lk i kc_3, (fun _ => 0, (true, (fun pc => sv_lk pc [], none)))))
noncomputable def kk_Ki_stepFrom : sv_K (Int32 × sv_S) := fun pc => sv_lk pc []
set_option maxRecDepth 20000 in
theorem e_Ki_stepFrom (a0 : Nat) (a1 : Int32) (a2 : Int32) (σ : sv_S) : sv_ex ev_Ki_stepFrom sv_rI kk_Ki_stepFrom cd_Ki_stepFrom 11 0 [some (.inr (.inr (some (7, a0)))), some (.inl a1), some (.inl a2)] [] σ = f_Ki_stepFrom a0 a1 a2 σ := by
  unfold f_Ki_stepFrom
  delta ev_Ki_stepFrom kk_Ki_stepFrom
  rfl
theorem d_Ki_stepFrom : cd_Ki_stepFrom.all (sv_dk cX3_stepFrom) = true := by decide +kernel
set_option maxRecDepth 20000 in
theorem b_Ki_stepFrom (Γ : sv_Ga) (res : Int32 × sv_S) (X : sv_Ok Γ ev_Ki_stepFrom cX3_stepFrom sv_rI res) (as : List sv_V) (σ : sv_S) (h : n_Ki_stepFrom as σ = some res) : sv_T Γ 0 (sv_e0 3 as) [] σ := by
  unfold n_Ki_stepFrom at h
  split at h
  · refine sv_run X d_Ki_stepFrom (K := kk_Ki_stepFrom) (sv_lk_all (P := fun pc (k : sv_Lo → List sv_V → sv_S → Option (Int32 × sv_S)) => ∀ lo st σ, k lo st σ = some res → sv_T Γ pc lo st σ) ?_) _ _ _ _ _ ((e_Ki_stepFrom _ _ _ _).trans h)
    clear h
    exact fun _ h => absurd h List.not_mem_nil
  · cases h
theorem a_Ki_stepFrom (as : List sv_V) (σ : sv_S) (x : Int32 × sv_S) (h : n_Ki_stepFrom as σ = some x) : sv_args 3 ev_Ki_stepFrom.2.2.2.1 as := by
  unfold n_Ki_stepFrom at h
  split at h
  · exact ⟨Nat.le_of_ble_eq_true rfl, fun _ v hv => by
      simp only [List.mem_cons, List.not_mem_nil, or_false] at hv
      rcases hv with rfl | rfl | rfl <;> trivial⟩
  · cases h
theorem gs_Ki_stepFrom (as : List sv_V) (σ : sv_S) (x : Option sv_V × sv_S) (h : sv_gI n_Ki_stepFrom as σ = some x) : ∃ r i as' ci q, as = sv_R r i :: as' ∧ sv_kd r i = .inl ci ∧ vwCl[ci]? = some q := by
  obtain ⟨_, _, h, -⟩ := sv_b_some h
  unfold n_Ki_stepFrom at h
  split at h
  · obtain ⟨ci, q, h1, h2⟩ := sv_kd7 _
    exact ⟨_, _, _, ci, q, rfl, h1, h2⟩
  · cases h

set_option maxRecDepth 20000 in
theorem m_Ki_stepFrom (l : Launch) : sv_M l yX3_stepFrom cX3_stepFrom 3 (some .int) (sv_gI n_Ki_stepFrom) 0 := by
  refine sv_mI (E := ev_Ki_stepFrom) (by decide +kernel) (ln_gen fk_3 kk_3 (sv_ns _ (fun _ => rfl) _)) rfl ?_ a_Ki_stepFrom b_Ki_stepFrom
  intro p e R s m args below meth c cells slots Q base ad dC dI cA n0 S hkn hR hf pc n f hcs
  refine sv_lk_all (P := fun pc (x : Nat × sv_F) => sv_cok p l e R s m args below meth c cells slots Q base ad dC dI cA true 3 n0 pc x.1 x.2) ?_ pc (n, f) hcs
  exact fun _ h => absurd h List.not_mem_nil
noncomputable def f_Ki_worth (a0 : Nat) (a1 : Int32) (σ : sv_S) : Option (Int32 × sv_S) :=
  some (a1, σ)
noncomputable def n_Ki_worth : List sv_V → sv_S → Option (Int32 × sv_S)
  | [.inr (.inr (some (7, a0))), .inl a1], σ => f_Ki_worth a0 a1 σ
  | _, _ => none
def cd_Ki_worth : sv_C := [(0, (.iload_n 1, (sv_N, (1, (0, []))))), (1, (.ireturn, (sv_N, (2, (0, [])))))]
noncomputable def ev_Ki_worth : sv_E := (fun i => sv_lk i fl_3, (fun i => sv_lk i kc_3, (fun _ => 0, (true, (fun pc => sv_lk pc [], none)))))
noncomputable def kk_Ki_worth : sv_K (Int32 × sv_S) := fun pc => sv_lk pc []
set_option maxRecDepth 20000 in
theorem e_Ki_worth (a0 : Nat) (a1 : Int32) (σ : sv_S) : sv_ex ev_Ki_worth sv_rI kk_Ki_worth cd_Ki_worth 4 0 [some (.inr (.inr (some (7, a0)))), some (.inl a1)] [] σ = f_Ki_worth a0 a1 σ := by
  unfold f_Ki_worth
  delta ev_Ki_worth kk_Ki_worth
  rfl
theorem d_Ki_worth : cd_Ki_worth.all (sv_dk cX3_worth) = true := by decide +kernel
set_option maxRecDepth 20000 in
theorem b_Ki_worth (Γ : sv_Ga) (res : Int32 × sv_S) (X : sv_Ok Γ ev_Ki_worth cX3_worth sv_rI res) (as : List sv_V) (σ : sv_S) (h : n_Ki_worth as σ = some res) : sv_T Γ 0 (sv_e0 2 as) [] σ := by
  unfold n_Ki_worth at h
  split at h
  · refine sv_run X d_Ki_worth (K := kk_Ki_worth) (sv_lk_all (P := fun pc (k : sv_Lo → List sv_V → sv_S → Option (Int32 × sv_S)) => ∀ lo st σ, k lo st σ = some res → sv_T Γ pc lo st σ) ?_) _ _ _ _ _ ((e_Ki_worth _ _ _).trans h)
    clear h
    exact fun _ h => absurd h List.not_mem_nil
  · cases h
theorem a_Ki_worth (as : List sv_V) (σ : sv_S) (x : Int32 × sv_S) (h : n_Ki_worth as σ = some x) : sv_args 2 ev_Ki_worth.2.2.2.1 as := by
  unfold n_Ki_worth at h
  split at h
  · exact ⟨Nat.le_of_ble_eq_true rfl, fun _ v hv => by
      simp only [List.mem_cons, List.not_mem_nil, or_false] at hv
      rcases hv with rfl | rfl <;> trivial⟩
  · cases h
theorem gs_Ki_worth (as : List sv_V) (σ : sv_S) (x : Option sv_V × sv_S) (h : sv_gI n_Ki_worth as σ = some x) : ∃ r i as' ci q, as = sv_R r i :: as' ∧ sv_kd r i = .inl ci ∧ vwCl[ci]? = some q := by
  obtain ⟨_, _, h, -⟩ := sv_b_some h
  unfold n_Ki_worth at h
  split at h
  · obtain ⟨ci, q, h1, h2⟩ := sv_kd7 _
    exact ⟨_, _, _, ci, q, rfl, h1, h2⟩
  · cases h

set_option maxRecDepth 20000 in
theorem m_Ki_worth (l : Launch) : sv_M l yX3_worth cX3_worth 2 (some .int) (sv_gI n_Ki_worth) 0 := by
  refine sv_mI (E := ev_Ki_worth) (by decide +kernel) (ln_gen fk_3 kk_3 (sv_ns _ (fun _ => rfl) _)) rfl ?_ a_Ki_worth b_Ki_worth
  intro p e R s m args below meth c cells slots Q base ad dC dI cA n0 S hkn hR hf pc n f hcs
  refine sv_lk_all (P := fun pc (x : Nat × sv_F) => sv_cok p l e R s m args below meth c cells slots Q base ad dC dI cA true 2 n0 pc x.1 x.2) ?_ pc (n, f) hcs
  exact fun _ h => absurd h List.not_mem_nil
noncomputable def f_La_wakesFrom (a0 : Nat) (a1 : Int32) (σ : sv_S) : Option (Int32 × sv_S) :=
  sv_b (f_Ki_wakesFrom a0 a1 σ) (fun v1 σ2 =>
    sv_b (f_Jm_max (1 : Int32) (v1 - (1 : Int32)) σ2) (fun v3 σ4 =>
      some (v3, σ4)))
noncomputable def n_La_wakesFrom : List sv_V → sv_S → Option (Int32 × sv_S)
  | [.inr (.inr (some (7, a0))), .inl a1], σ => f_La_wakesFrom a0 a1 σ
  | _, _ => none
def cd_La_wakesFrom : sv_C := [(0, (.iconst 1, (.inl (1 : Int32), (1, (0, []))))), (1, (.aload_n 0, (sv_N, (2, (0, []))))), (2, (.iload_n 1, (sv_N, (3, (0, []))))), (3, (.invokespecial 7, (sv_N, (6, (0, []))))), (6, (.iconst 1, (.inl (1 : Int32), (7, (0, []))))), (7, (.isub, (sv_N, (8, (0, []))))), (8, (.invokestatic 11, (sv_N, (11, (0, []))))), (11, (.ireturn, (sv_N, (12, (0, [])))))]
noncomputable def ev_La_wakesFrom : sv_E := (fun i => sv_lk i fl_4, (fun i => sv_lk i kc_4, (fun _ => 0, (true, (fun pc => sv_lk pc [(3, (2, .inl n_Ki_wakesFrom)), (8, (2, .inl n_Jm_max))], none)))))
noncomputable def kk_La_wakesFrom : sv_K (Int32 × sv_S) := fun pc => sv_lk pc []
set_option maxRecDepth 20000 in
theorem e_La_wakesFrom (a0 : Nat) (a1 : Int32) (σ : sv_S) : sv_ex ev_La_wakesFrom sv_rI kk_La_wakesFrom cd_La_wakesFrom 10 0 [some (.inr (.inr (some (7, a0)))), some (.inl a1)] [] σ = f_La_wakesFrom a0 a1 σ := by
  unfold f_La_wakesFrom
  delta ev_La_wakesFrom kk_La_wakesFrom n_Ki_wakesFrom n_Jm_max
  generalize f_Ki_wakesFrom = c0
  generalize f_Jm_max = c1
  rfl
theorem d_La_wakesFrom : cd_La_wakesFrom.all (sv_dk cX4_wakesFrom) = true := by decide +kernel
set_option maxRecDepth 20000 in
theorem b_La_wakesFrom (Γ : sv_Ga) (res : Int32 × sv_S) (X : sv_Ok Γ ev_La_wakesFrom cX4_wakesFrom sv_rI res) (as : List sv_V) (σ : sv_S) (h : n_La_wakesFrom as σ = some res) : sv_T Γ 0 (sv_e0 2 as) [] σ := by
  unfold n_La_wakesFrom at h
  split at h
  · refine sv_run X d_La_wakesFrom (K := kk_La_wakesFrom) (sv_lk_all (P := fun pc (k : sv_Lo → List sv_V → sv_S → Option (Int32 × sv_S)) => ∀ lo st σ, k lo st σ = some res → sv_T Γ pc lo st σ) ?_) _ _ _ _ _ ((e_La_wakesFrom _ _ _).trans h)
    clear h
    exact fun _ h => absurd h List.not_mem_nil
  · cases h
theorem a_La_wakesFrom (as : List sv_V) (σ : sv_S) (x : Int32 × sv_S) (h : n_La_wakesFrom as σ = some x) : sv_args 2 ev_La_wakesFrom.2.2.2.1 as := by
  unfold n_La_wakesFrom at h
  split at h
  · exact ⟨Nat.le_of_ble_eq_true rfl, fun _ v hv => by
      simp only [List.mem_cons, List.not_mem_nil, or_false] at hv
      rcases hv with rfl | rfl <;> trivial⟩
  · cases h
theorem gs_La_wakesFrom (as : List sv_V) (σ : sv_S) (x : Option sv_V × sv_S) (h : sv_gI n_La_wakesFrom as σ = some x) : ∃ r i as' ci q, as = sv_R r i :: as' ∧ sv_kd r i = .inl ci ∧ vwCl[ci]? = some q := by
  obtain ⟨_, _, h, -⟩ := sv_b_some h
  unfold n_La_wakesFrom at h
  split at h
  · obtain ⟨ci, q, h1, h2⟩ := sv_kd7 _
    exact ⟨_, _, _, ci, q, rfl, h1, h2⟩
  · cases h
theorem tw_96 : Cond.superclass RX7 RX3 ∈ gw_tbl := gw_at 96 (by decide +kernel) rfl
theorem tw_110 : Cond.superclass RX4 RX7 ∈ gw_tbl := gw_at 110 (by decide +kernel) rfl
theorem tw_421 : Cond.methodLink RX4 7 ⟨RX7, "wakesFrom", "(I)I"⟩ ∈ gw_tbl := gw_at 421 (by decide +kernel) rfl
theorem tw_422 : Cond.sameMethod RX7 RX3 "wakesFrom" "(I)I" ∈ gw_tbl := gw_at 422 (by decide +kernel) rfl
theorem tw_424 : Cond.methodLink RX4 11 Lib.Math.max.name ∈ gw_tbl := gw_at 424 (by decide +kernel) rfl
set_option maxRecDepth 20000 in
theorem m_La_wakesFrom (l : Launch) : sv_M l yX4_wakesFrom cX4_wakesFrom 2 (some .int) (sv_gI n_La_wakesFrom) 1 := by
  refine sv_mI (E := ev_La_wakesFrom) (by decide +kernel) (ln_gen fk_4 kk_4 (sv_ns _ (fun _ => rfl) _)) rfl ?_ a_La_wakesFrom b_La_wakesFrom
  intro p e R s m args below meth c cells slots Q base ad dC dI cA n0 S hkn hR hf pc n f hcs
  refine sv_lk_all (P := fun pc (x : Nat × sv_F) => sv_cok p l e R s m args below meth c cells slots Q base ad dC dI cA true 2 n0 pc x.1 x.2) ?_ pc (n, f) hcs
  exact List.forall_mem_cons.mpr ⟨(sv_cU2 S hkn (x := ⟨RX7, "wakesFrom", "(I)I"⟩) (m_Ki_wakesFrom l) ⟨Nat.le_trans (by decide) hR.1, Nat.le_trans (by decide) hR.2⟩ (by decide) hf gs_Ki_wakesFrom (sv_w7 tw_421 tw_422 tw_110 tw_96 tw_409 tw_54 tw_427) (by decide +kernel) (sv_dc3 d_La_wakesFrom (pc := 3) rfl rfl)).I,
      List.forall_mem_cons.mpr ⟨(sv_cmax S ⟨Nat.le_trans (by decide) hR.1, Nat.le_trans (by decide) hR.2⟩ hf (sv_w4 tw_424 tw_405 tw_66 tw_406) (sv_dc3 d_La_wakesFrom (pc := 8) rfl rfl)).I,
      fun _ h => absurd h List.not_mem_nil⟩⟩
noncomputable def f_Sl_worth (a0 : Nat) (a1 : Int32) (σ : sv_S) : Option (Int32 × sv_S) :=
  sv_b (f_Ki_worth a0 a1 σ) (fun v1 σ2 =>
    some (v1 + (4 : Int32), σ2))
noncomputable def n_Sl_worth : List sv_V → sv_S → Option (Int32 × sv_S)
  | [.inr (.inr (some (7, a0))), .inl a1], σ => f_Sl_worth a0 a1 σ
  | _, _ => none
def cd_Sl_worth : sv_C := [(0, (.aload_n 0, (sv_N, (1, (0, []))))), (1, (.iload_n 1, (sv_N, (2, (0, []))))), (2, (.invokespecial 11, (sv_N, (5, (0, []))))), (5, (.iconst 4, (.inl (4 : Int32), (6, (0, []))))), (6, (.iadd, (sv_N, (7, (0, []))))), (7, (.ireturn, (sv_N, (8, (0, [])))))]
noncomputable def ev_Sl_worth : sv_E := (fun i => sv_lk i fl_7, (fun i => sv_lk i kc_7, (fun _ => 0, (true, (fun pc => sv_lk pc [(2, (2, .inl n_Ki_worth))], none)))))
noncomputable def kk_Sl_worth : sv_K (Int32 × sv_S) := fun pc => sv_lk pc []
set_option maxRecDepth 20000 in
theorem e_Sl_worth (a0 : Nat) (a1 : Int32) (σ : sv_S) : sv_ex ev_Sl_worth sv_rI kk_Sl_worth cd_Sl_worth 8 0 [some (.inr (.inr (some (7, a0)))), some (.inl a1)] [] σ = f_Sl_worth a0 a1 σ := by
  unfold f_Sl_worth
  delta ev_Sl_worth kk_Sl_worth n_Ki_worth
  generalize f_Ki_worth = c0
  rfl
theorem d_Sl_worth : cd_Sl_worth.all (sv_dk cX7_worth) = true := by decide +kernel
set_option maxRecDepth 20000 in
theorem b_Sl_worth (Γ : sv_Ga) (res : Int32 × sv_S) (X : sv_Ok Γ ev_Sl_worth cX7_worth sv_rI res) (as : List sv_V) (σ : sv_S) (h : n_Sl_worth as σ = some res) : sv_T Γ 0 (sv_e0 2 as) [] σ := by
  unfold n_Sl_worth at h
  split at h
  · refine sv_run X d_Sl_worth (K := kk_Sl_worth) (sv_lk_all (P := fun pc (k : sv_Lo → List sv_V → sv_S → Option (Int32 × sv_S)) => ∀ lo st σ, k lo st σ = some res → sv_T Γ pc lo st σ) ?_) _ _ _ _ _ ((e_Sl_worth _ _ _).trans h)
    clear h
    exact fun _ h => absurd h List.not_mem_nil
  · cases h
theorem a_Sl_worth (as : List sv_V) (σ : sv_S) (x : Int32 × sv_S) (h : n_Sl_worth as σ = some x) : sv_args 2 ev_Sl_worth.2.2.2.1 as := by
  unfold n_Sl_worth at h
  split at h
  · exact ⟨Nat.le_of_ble_eq_true rfl, fun _ v hv => by
      simp only [List.mem_cons, List.not_mem_nil, or_false] at hv
      rcases hv with rfl | rfl <;> trivial⟩
  · cases h
theorem gs_Sl_worth (as : List sv_V) (σ : sv_S) (x : Option sv_V × sv_S) (h : sv_gI n_Sl_worth as σ = some x) : ∃ r i as' ci q, as = sv_R r i :: as' ∧ sv_kd r i = .inl ci ∧ vwCl[ci]? = some q := by
  obtain ⟨_, _, h, -⟩ := sv_b_some h
  unfold n_Sl_worth at h
  split at h
  · obtain ⟨ci, q, h1, h2⟩ := sv_kd7 _
    exact ⟨_, _, _, ci, q, rfl, h1, h2⟩
  · cases h
theorem tw_447 : Cond.instanceMethod yX3_worth ∈ gw_tbl := gw_at 447 (by decide +kernel) rfl
theorem tw_449 : Cond.sameMethod RX3 RX3 "worth" "(I)I" ∈ gw_tbl := gw_at 449 (by decide +kernel) rfl
theorem tw_462 : Cond.methodLink RX7 11 yX3_worth ∈ gw_tbl := gw_at 462 (by decide +kernel) rfl
theorem tw_468 : Cond.code yX3_worth cX3_worth 2 (some .int) ∈ gw_tbl := gw_at 468 (by decide +kernel) rfl
set_option maxRecDepth 20000 in
theorem m_Sl_worth (l : Launch) : sv_M l yX7_worth cX7_worth 2 (some .int) (sv_gI n_Sl_worth) 1 := by
  refine sv_mI (E := ev_Sl_worth) (by decide +kernel) (ln_gen fk_7 kk_7 (sv_ns _ (fun _ => rfl) _)) rfl ?_ a_Sl_worth b_Sl_worth
  intro p e R s m args below meth c cells slots Q base ad dC dI cA n0 S hkn hR hf pc n f hcs
  refine sv_lk_all (P := fun pc (x : Nat × sv_F) => sv_cok p l e R s m args below meth c cells slots Q base ad dC dI cA true 2 n0 pc x.1 x.2) ?_ pc (n, f) hcs
  exact List.forall_mem_cons.mpr ⟨(sv_cU S hkn (m_Ki_worth l) ⟨Nat.le_trans (by decide) hR.1, Nat.le_trans (by decide) hR.2⟩ (by decide) hf gs_Ki_worth (sv_w6 tw_462 tw_449 tw_96 tw_447 tw_54 tw_468) (by decide +kernel) (sv_dc3 d_Sl_worth (pc := 2) rfl rfl)).I,
      fun _ h => absurd h List.not_mem_nil⟩
noncomputable def f_La_worth (a0 : Nat) (a1 : Int32) (σ : sv_S) : Option (Int32 × sv_S) :=
  sv_b (f_Sl_worth a0 a1 σ) (fun v1 σ2 =>
    some ((2 : Int32) * v1, σ2))
noncomputable def n_La_worth : List sv_V → sv_S → Option (Int32 × sv_S)
  | [.inr (.inr (some (7, a0))), .inl a1], σ => f_La_worth a0 a1 σ
  | _, _ => none
def cd_La_worth : sv_C := [(0, (.iconst 2, (.inl (2 : Int32), (1, (0, []))))), (1, (.aload_n 0, (sv_N, (2, (0, []))))), (2, (.iload_n 1, (sv_N, (3, (0, []))))), (3, (.invokespecial 17, (sv_N, (6, (0, []))))), (6, (.imul, (sv_N, (7, (0, []))))), (7, (.ireturn, (sv_N, (8, (0, [])))))]
noncomputable def ev_La_worth : sv_E := (fun i => sv_lk i fl_4, (fun i => sv_lk i kc_4, (fun _ => 0, (true, (fun pc => sv_lk pc [(3, (2, .inl n_Sl_worth))], none)))))
noncomputable def kk_La_worth : sv_K (Int32 × sv_S) := fun pc => sv_lk pc []
set_option maxRecDepth 20000 in
theorem e_La_worth (a0 : Nat) (a1 : Int32) (σ : sv_S) : sv_ex ev_La_worth sv_rI kk_La_worth cd_La_worth 8 0 [some (.inr (.inr (some (7, a0)))), some (.inl a1)] [] σ = f_La_worth a0 a1 σ := by
  unfold f_La_worth
  delta ev_La_worth kk_La_worth n_Sl_worth
  generalize f_Sl_worth = c0
  rfl
theorem d_La_worth : cd_La_worth.all (sv_dk cX4_worth) = true := by decide +kernel
set_option maxRecDepth 20000 in
theorem b_La_worth (Γ : sv_Ga) (res : Int32 × sv_S) (X : sv_Ok Γ ev_La_worth cX4_worth sv_rI res) (as : List sv_V) (σ : sv_S) (h : n_La_worth as σ = some res) : sv_T Γ 0 (sv_e0 2 as) [] σ := by
  unfold n_La_worth at h
  split at h
  · refine sv_run X d_La_worth (K := kk_La_worth) (sv_lk_all (P := fun pc (k : sv_Lo → List sv_V → sv_S → Option (Int32 × sv_S)) => ∀ lo st σ, k lo st σ = some res → sv_T Γ pc lo st σ) ?_) _ _ _ _ _ ((e_La_worth _ _ _).trans h)
    clear h
    exact fun _ h => absurd h List.not_mem_nil
  · cases h
theorem a_La_worth (as : List sv_V) (σ : sv_S) (x : Int32 × sv_S) (h : n_La_worth as σ = some x) : sv_args 2 ev_La_worth.2.2.2.1 as := by
  unfold n_La_worth at h
  split at h
  · exact ⟨Nat.le_of_ble_eq_true rfl, fun _ v hv => by
      simp only [List.mem_cons, List.not_mem_nil, or_false] at hv
      rcases hv with rfl | rfl <;> trivial⟩
  · cases h
theorem gs_La_worth (as : List sv_V) (σ : sv_S) (x : Option sv_V × sv_S) (h : sv_gI n_La_worth as σ = some x) : ∃ r i as' ci q, as = sv_R r i :: as' ∧ sv_kd r i = .inl ci ∧ vwCl[ci]? = some q := by
  obtain ⟨_, _, h, -⟩ := sv_b_some h
  unfold n_La_worth at h
  split at h
  · obtain ⟨ci, q, h1, h2⟩ := sv_kd7 _
    exact ⟨_, _, _, ci, q, rfl, h1, h2⟩
  · cases h
theorem tw_55 : Cond.initialized RX7 ∈ gw_tbl := gw_at 55 (by decide +kernel) rfl
theorem tw_459 : Cond.methodLink RX4 17 yX7_worth ∈ gw_tbl := gw_at 459 (by decide +kernel) rfl
theorem tw_460 : Cond.instanceMethod yX7_worth ∈ gw_tbl := gw_at 460 (by decide +kernel) rfl
theorem tw_461 : Cond.code yX7_worth cX7_worth 2 (some .int) ∈ gw_tbl := gw_at 461 (by decide +kernel) rfl
theorem tw_1493 : Cond.sameMethod RX7 RX7 "worth" "(I)I" ∈ gw_tbl := gw_at 1493 (by decide +kernel) rfl
set_option maxRecDepth 20000 in
theorem m_La_worth (l : Launch) : sv_M l yX4_worth cX4_worth 2 (some .int) (sv_gI n_La_worth) 2 := by
  refine sv_mI (E := ev_La_worth) (by decide +kernel) (ln_gen fk_4 kk_4 (sv_ns _ (fun _ => rfl) _)) rfl ?_ a_La_worth b_La_worth
  intro p e R s m args below meth c cells slots Q base ad dC dI cA n0 S hkn hR hf pc n f hcs
  refine sv_lk_all (P := fun pc (x : Nat × sv_F) => sv_cok p l e R s m args below meth c cells slots Q base ad dC dI cA true 2 n0 pc x.1 x.2) ?_ pc (n, f) hcs
  exact List.forall_mem_cons.mpr ⟨(sv_cU S hkn (m_Sl_worth l) ⟨Nat.le_trans (by decide) hR.1, Nat.le_trans (by decide) hR.2⟩ (by decide) hf gs_Sl_worth (sv_w6 tw_459 tw_1493 tw_110 tw_460 tw_55 tw_461) (by decide +kernel) (sv_dc3 d_La_worth (pc := 3) rfl rfl)).I,
      fun _ h => absurd h List.not_mem_nil⟩
noncomputable def f_Li_become_73 : Nat → Nat → Nat → Int32 → sv_S → Option (sv_S)
  | 0, _, _, _, _ => none
  | n + 1, x0, x1, x2, σ =>
    sv_if ((σ 1 x1 8) ≤ x2)
      (sv_b0 (f_ac5 x1 (0 : Int32) x0 (0 : Int32) (3 : Int32) σ) (fun σ1 =>
        some σ1))
      (sv_g (sv_in x2 14) (sv_tx (σ 4 x1 (x2.toNatClampNeg)) (sv_g (sv_in x2 14) (f_Li_become_73 n x0 x1 (x2 + (1 : Int32)) (sv_up σ 4 x0 (x2.toNatClampNeg) (0 : Int32)))) (fun t2 => sv_g (t2 < sv_ct σ) (sv_g (sv_in x2 14) (f_Li_become_73 n x0 x1 (x2 + (1 : Int32)) (sv_up σ 4 x0 (x2.toNatClampNeg) (nI (t2 + 1))))))))
noncomputable def f_Li_become_42 : Nat → Nat → Nat → Int32 → sv_S → Option (sv_S)
  | 0, _, _, _, _ => none
  | n + 1, x0, x1, x2, σ =>
    sv_if ((σ 1 x1 4) ≤ x2)
      (f_Li_become_73 sv_fu x0 x1 (0 : Int32) σ)
      (sv_g (sv_in x2 (sv_ln 3 x0 σ)) (sv_g (sv_in x2 (sv_ln 3 x1 σ)) (sv_b0 (f_Dr_setAs (10 * x0 + (x2.toNatClampNeg)) (10 * x1 + (x2.toNatClampNeg)) σ) (fun σ1 =>
        f_Li_become_42 n x0 x1 (x2 + (1 : Int32)) σ1))))
noncomputable def f_Li_become (a0 : Nat) (a1 : Nat) (σ : sv_S) : Option (sv_S) :=
  let σ1 := sv_up σ 1 a0 4 (σ 1 a1 4)
  let σ2 := sv_up σ1 1 a0 5 (σ1 1 a1 5)
  let σ3 := sv_up σ2 1 a0 6 (σ2 1 a1 6)
  let σ4 := sv_up σ3 1 a0 7 (σ3 1 a1 7)
  let σ5 := sv_up σ4 1 a0 8 (σ4 1 a1 8)
  f_Li_become_42 sv_fu a0 a1 (0 : Int32) σ5
noncomputable def n_Li_become : List sv_V → sv_S → Option (sv_S)
  | [.inr (.inr (some (1, a0))), .inr (.inr (some (1, a1)))], σ => f_Li_become a0 a1 σ
  | _, _ => none
def cd_Li_become : sv_C := [(0, (.aload_n 0, (sv_N, (1, (0, []))))), (1, (.aload_n 1, (sv_N, (2, (0, []))))), (2, (.getfield 42, (sv_N, (5, (0, []))))), (5, (.putfield 42, (sv_N, (8, (0, []))))), (8, (.aload_n 0, (sv_N, (9, (0, []))))), (9, (.aload_n 1, (sv_N, (10, (0, []))))), (10, (.getfield 45, (sv_N, (13, (0, []))))), (13, (.putfield 45, (sv_N, (16, (0, []))))), (16, (.aload_n 0, (sv_N, (17, (0, []))))), (17, (.aload_n 1, (sv_N, (18, (0, []))))), (18, (.getfield 48, (sv_N, (21, (0, []))))), (21, (.putfield 48, (sv_N, (24, (0, []))))), (24, (.aload_n 0, (sv_N, (25, (0, []))))), (25, (.aload_n 1, (sv_N, (26, (0, []))))), (26, (.getfield 38, (sv_N, (29, (0, []))))), (29, (.putfield 38, (sv_N, (32, (0, []))))), (32, (.aload_n 0, (sv_N, (33, (0, []))))), (33, (.aload_n 1, (sv_N, (34, (0, []))))), (34, (.getfield 51, (sv_N, (37, (0, []))))), (37, (.putfield 51, (sv_N, (40, (0, []))))), (40, (.iconst 0, (.inl (0 : Int32), (41, (0, []))))), (41, (.istore_n 2, (sv_N, (42, (0, []))))), (42, (.iload_n 2, (sv_N, (43, (0, []))))), (43, (.aload_n 1, (sv_N, (44, (0, []))))), (44, (.getfield 42, (sv_N, (47, (0, []))))), (47, (.if_icmp .ge 24, (sv_N, (50, (71, []))))), (50, (.aload_n 0, (sv_N, (51, (0, []))))), (51, (.getfield 17, (sv_N, (54, (0, []))))), (54, (.iload_n 2, (sv_N, (55, (0, []))))), (55, (.aaload, (sv_N, (56, (0, []))))), (56, (.aload_n 1, (sv_N, (57, (0, []))))), (57, (.getfield 17, (sv_N, (60, (0, []))))), (60, (.iload_n 2, (sv_N, (61, (0, []))))), (61, (.aaload, (sv_N, (62, (0, []))))), (62, (.invokevirtual 54, (sv_N, (65, (0, []))))), (65, (.iinc 2 1, (.inl (1 : Int32), (68, (0, []))))), (68, (.goto (-26), (sv_N, (71, (42, []))))), (71, (.iconst 0, (.inl (0 : Int32), (72, (0, []))))), (72, (.istore_n 2, (sv_N, (73, (0, []))))), (73, (.iload_n 2, (sv_N, (74, (0, []))))), (74, (.aload_n 1, (sv_N, (75, (0, []))))), (75, (.getfield 51, (sv_N, (78, (0, []))))), (78, (.if_icmp .ge 21, (sv_N, (81, (99, []))))), (81, (.aload_n 0, (sv_N, (82, (0, []))))), (82, (.getfield 24, (sv_N, (85, (0, []))))), (85, (.iload_n 2, (sv_N, (86, (0, []))))), (86, (.aload_n 1, (sv_N, (87, (0, []))))), (87, (.getfield 24, (sv_N, (90, (0, []))))), (90, (.iload_n 2, (sv_N, (91, (0, []))))), (91, (.aaload, (sv_N, (92, (0, []))))), (92, (.aastore, (sv_N, (93, (0, []))))), (93, (.iinc 2 1, (.inl (1 : Int32), (96, (0, []))))), (96, (.goto (-23), (sv_N, (99, (73, []))))), (99, (.aload_n 1, (sv_N, (100, (0, []))))), (100, (.getfield 28, (sv_N, (103, (0, []))))), (103, (.iconst 0, (.inl (0 : Int32), (104, (0, []))))), (104, (.aload_n 0, (sv_N, (105, (0, []))))), (105, (.getfield 28, (sv_N, (108, (0, []))))), (108, (.iconst 0, (.inl (0 : Int32), (109, (0, []))))), (109, (.iconst 3, (.inl (3 : Int32), (110, (0, []))))), (110, (.invokestatic 58, (sv_N, (113, (0, []))))), (113, (.return_, (sv_N, (114, (0, [])))))]
noncomputable def ev_Li_become : sv_E := (fun i => sv_lk i fl_5, (fun i => sv_lk i kc_5, (fun _ => 0, (true, (fun pc => sv_lk pc [(62, (2, .inr (.inl n_Dr_setAs))), (110, (5, .inr (.inl n_ac5)))], none)))))
noncomputable def kk_Li_become_73 (n : Nat) : sv_K (sv_S) := fun pc => sv_lk pc [(73, fun lo st σ => match lo, st with
    | [some (.inr (.inr (some (1, x0)))), some (.inr (.inr (some (1, x1)))), some (.inl x2)], [] => f_Li_become_73 n x0 x1 x2 σ
    | _, _ => none)]
set_option maxRecDepth 20000 in
theorem e_Li_become_73 (n : Nat) (x0 : Nat) (x1 : Nat) (x2 : Int32) (σ : sv_S) : sv_ex ev_Li_become sv_rV (kk_Li_become_73 n) cd_Li_become 64 73 [some (.inr (.inr (some (1, x0)))), some (.inr (.inr (some (1, x1)))), some (.inl x2)] [] σ = f_Li_become_73 (n + 1) x0 x1 x2 σ := by
  rw [f_Li_become_73.eq_2]
  delta ev_Li_become kk_Li_become_73 n_Dr_setAs n_ac5
  generalize f_Dr_setAs = c0
  generalize f_ac5 = c1
  generalize f_Li_become_73 = c2
  rfl
noncomputable def kk_Li_become_42 (n : Nat) : sv_K (sv_S) := fun pc => sv_lk pc [(42, fun lo st σ => match lo, st with
    | [some (.inr (.inr (some (1, x0)))), some (.inr (.inr (some (1, x1)))), some (.inl x2)], [] => f_Li_become_42 n x0 x1 x2 σ
    | _, _ => none),
  (73, fun lo st σ => match lo, st with
    | [some (.inr (.inr (some (1, x0)))), some (.inr (.inr (some (1, x1)))), some (.inl x2)], [] => f_Li_become_73 sv_fu x0 x1 x2 σ
    | _, _ => none)]
set_option maxRecDepth 20000 in
theorem e_Li_become_42 (n : Nat) (x0 : Nat) (x1 : Nat) (x2 : Int32) (σ : sv_S) : sv_ex ev_Li_become sv_rV (kk_Li_become_42 n) cd_Li_become 64 42 [some (.inr (.inr (some (1, x0)))), some (.inr (.inr (some (1, x1)))), some (.inl x2)] [] σ = f_Li_become_42 (n + 1) x0 x1 x2 σ := by
  rw [f_Li_become_42.eq_2]
  delta ev_Li_become kk_Li_become_42 n_Dr_setAs n_ac5
  generalize f_Dr_setAs = c0
  generalize f_ac5 = c1
  generalize f_Li_become_42 = c2
  generalize f_Li_become_73 = c3
  rfl
noncomputable def kk_Li_become : sv_K (sv_S) := fun pc => sv_lk pc [(42, fun lo st σ => match lo, st with
    | [some (.inr (.inr (some (1, x0)))), some (.inr (.inr (some (1, x1)))), some (.inl x2)], [] => f_Li_become_42 sv_fu x0 x1 x2 σ
    | _, _ => none)]
set_option maxRecDepth 20000 in
theorem e_Li_become (a0 : Nat) (a1 : Nat) (σ : sv_S) : sv_ex ev_Li_become sv_rV kk_Li_become cd_Li_become 64 0 [some (.inr (.inr (some (1, a0)))), some (.inr (.inr (some (1, a1)))), none] [] σ = f_Li_become a0 a1 σ := by
  unfold f_Li_become
  delta ev_Li_become kk_Li_become n_Dr_setAs n_ac5
  generalize f_Dr_setAs = c0
  generalize f_ac5 = c1
  generalize f_Li_become_42 = c2
  rfl
theorem d_Li_become : cd_Li_become.all (sv_dk cX5_become) = true := by decide +kernel
set_option maxRecDepth 20000 in
theorem w_Li_become_73 {Γ : sv_Ga} {res : sv_S} (X : sv_Ok Γ ev_Li_become cX5_become sv_rV res) : ∀ (n : Nat) (x0 : Nat) (x1 : Nat) (x2 : Int32) (σ : sv_S), f_Li_become_73 n x0 x1 x2 σ = some res → sv_T Γ 73 [some (.inr (.inr (some (1, x0)))), some (.inr (.inr (some (1, x1)))), some (.inl x2)] [] σ := by
  intro n
  induction n with
  | zero =>
    intro x0 x1 x2 σ h
    rw [f_Li_become_73.eq_1] at h
    cases h
  | succ n ih =>
    intro x0 x1 x2 σ h
    refine sv_run X d_Li_become (K := kk_Li_become_73 n) (sv_lk_all (P := fun pc (k : sv_Lo → List sv_V → sv_S → Option (sv_S)) => ∀ lo st σ, k lo st σ = some res → sv_T Γ pc lo st σ) ?_) _ _ _ _ _ ((e_Li_become_73 n x0 x1 x2 σ).trans h)
    clear h
    refine List.forall_mem_cons.mpr ⟨fun lo st σ h => ?_, fun _ h => absurd h List.not_mem_nil⟩
    · dsimp only at h
      split at h
      · exact ih _ _ _ _ h
      · cases h

set_option maxRecDepth 20000 in
theorem w_Li_become_42 {Γ : sv_Ga} {res : sv_S} (X : sv_Ok Γ ev_Li_become cX5_become sv_rV res) : ∀ (n : Nat) (x0 : Nat) (x1 : Nat) (x2 : Int32) (σ : sv_S), f_Li_become_42 n x0 x1 x2 σ = some res → sv_T Γ 42 [some (.inr (.inr (some (1, x0)))), some (.inr (.inr (some (1, x1)))), some (.inl x2)] [] σ := by
  intro n
  induction n with
  | zero =>
    intro x0 x1 x2 σ h
    rw [f_Li_become_42.eq_1] at h
    cases h
  | succ n ih =>
    intro x0 x1 x2 σ h
    refine sv_run X d_Li_become (K := kk_Li_become_42 n) (sv_lk_all (P := fun pc (k : sv_Lo → List sv_V → sv_S → Option (sv_S)) => ∀ lo st σ, k lo st σ = some res → sv_T Γ pc lo st σ) ?_) _ _ _ _ _ ((e_Li_become_42 n x0 x1 x2 σ).trans h)
    clear h
    refine List.forall_mem_cons.mpr ⟨fun lo st σ h => ?_, List.forall_mem_cons.mpr ⟨fun lo st σ h => ?_, fun _ h => absurd h List.not_mem_nil⟩⟩
    · dsimp only at h
      split at h
      · exact ih _ _ _ _ h
      · cases h
    · dsimp only at h
      split at h
      · exact w_Li_become_73 X _ _ _ _ _ h
      · cases h

set_option maxRecDepth 20000 in
theorem b_Li_become (Γ : sv_Ga) (res : sv_S) (X : sv_Ok Γ ev_Li_become cX5_become sv_rV res) (as : List sv_V) (σ : sv_S) (h : n_Li_become as σ = some res) : sv_T Γ 0 (sv_e0 3 as) [] σ := by
  unfold n_Li_become at h
  split at h
  · refine sv_run X d_Li_become (K := kk_Li_become) (sv_lk_all (P := fun pc (k : sv_Lo → List sv_V → sv_S → Option (sv_S)) => ∀ lo st σ, k lo st σ = some res → sv_T Γ pc lo st σ) ?_) _ _ _ _ _ ((e_Li_become _ _ _).trans h)
    clear h
    refine List.forall_mem_cons.mpr ⟨fun lo st σ h => ?_, fun _ h => absurd h List.not_mem_nil⟩
    · dsimp only at h
      split at h
      · exact w_Li_become_42 X _ _ _ _ _ h
      · cases h
  · cases h
theorem a_Li_become (as : List sv_V) (σ : sv_S) (x : sv_S) (h : n_Li_become as σ = some x) : sv_args 3 ev_Li_become.2.2.2.1 as := by
  unfold n_Li_become at h
  split at h
  · exact ⟨Nat.le_of_ble_eq_true rfl, fun _ v hv => by
      simp only [List.mem_cons, List.not_mem_nil, or_false] at hv
      rcases hv with rfl | rfl <;> trivial⟩
  · cases h
theorem g_Li_become (as : List sv_V) (σ : sv_S) (x : Option sv_V × sv_S) (h : sv_gV n_Li_become as σ = some x) : ∃ r i as', as = sv_R r i :: as' ∧ sv_kd r i = .inl 5 := by
  obtain ⟨_, h, -⟩ := sv_b0_some h
  unfold n_Li_become at h
  split at h
  · exact ⟨_, _, _, rfl, rfl⟩
  · cases h
theorem tw_68 : Cond.initialized "java/lang/System" ∈ gw_tbl := gw_at 68 (by decide +kernel) rfl
theorem tw_556 : Cond.methodLink RX5 54 yX1_setAs ∈ gw_tbl := gw_at 556 (by decide +kernel) rfl
theorem tw_557 : Cond.instanceMethod yX1_setAs ∈ gw_tbl := gw_at 557 (by decide +kernel) rfl
theorem tw_558 : Cond.selects RX1 yX1_setAs yX1_setAs ∈ gw_tbl := gw_at 558 (by decide +kernel) rfl
theorem tw_559 : Cond.code yX1_setAs cX1_setAs 2 none ∈ gw_tbl := gw_at 559 (by decide +kernel) rfl
theorem tw_560 : Cond.methodLink RX5 58 arraycopyName ∈ gw_tbl := gw_at 560 (by decide +kernel) rfl
theorem tw_561 : Cond.static arraycopyName ∈ gw_tbl := gw_at 561 (by decide +kernel) rfl
theorem tw_562 : Cond.native arraycopyName ∈ gw_tbl := gw_at 562 (by decide +kernel) rfl
set_option maxRecDepth 20000 in
theorem m_Li_become (l : Launch) : sv_M l yX5_become cX5_become 3 none (sv_gV n_Li_become) 1 := by
  refine sv_mV (E := ev_Li_become) (by decide +kernel) (ln_gen fk_5 kk_5 (sv_ns _ (fun _ => rfl) _)) rfl ?_ a_Li_become b_Li_become
  intro p e R s m args below meth c cells slots Q base ad dC dI cA n0 S hkn hR hf pc n f hcs
  refine sv_lk_all (P := fun pc (x : Nat × sv_F) => sv_cok p l e R s m args below meth c cells slots Q base ad dC dI cA true 3 n0 pc x.1 x.2) ?_ pc (n, f) hcs
  exact List.forall_mem_cons.mpr ⟨(sv_cV S hkn (m_Dr_setAs l) ⟨Nat.le_trans (by decide) hR.1, Nat.le_trans (by decide) hR.2⟩ (by decide) hf rfl (g_Dr_setAs) (sv_w5 tw_556 tw_557 tw_558 tw_61 tw_559) (by decide +kernel) (sv_dc3 d_Li_become (pc := 62) rfl rfl)).V,
      List.forall_mem_cons.mpr ⟨(sv_acopy S hkn (q := 5) (fun _ => rfl) ⟨Nat.le_trans (by decide) hR.1, Nat.le_trans (by decide) hR.2⟩ (sv_w4 tw_560 tw_562 tw_561 tw_68) (sv_dc3 d_Li_become (pc := 110) rfl rfl) h_ac5).V,
      fun _ h => absurd h List.not_mem_nil⟩⟩
noncomputable def f_Li_join (a0 : Nat) (a1 : Int32) (a2 : Int32) (σ : sv_S) : Option (Int32 × sv_S) :=
  sv_g (sv_in (σ 1 a0 4) (sv_ln 3 a0 σ)) (sv_b0 (f_Dr_begin (10 * a0 + ((σ 1 a0 4).toNatClampNeg)) a1 a2 σ) (fun σ1 =>
    let σ2 := sv_up σ1 1 a0 4 ((σ1 1 a0 4) + (1 : Int32))
    some ((σ2 1 a0 4) - (1 : Int32), σ2)))
noncomputable def n_Li_join : List sv_V → sv_S → Option (Int32 × sv_S)
  | [.inr (.inr (some (1, a0))), .inl a1, .inl a2], σ => f_Li_join a0 a1 a2 σ
  | _, _ => none
def cd_Li_join : sv_C := [(0, (.aload_n 0, (sv_N, (1, (0, []))))), (1, (.getfield 17, (sv_N, (4, (0, []))))), (4, (.aload_n 0, (sv_N, (5, (0, []))))), (5, (.getfield 42, (sv_N, (8, (0, []))))), (8, (.aaload, (sv_N, (9, (0, []))))), (9, (.iload_n 1, (sv_N, (10, (0, []))))), (10, (.iload_n 2, (sv_N, (11, (0, []))))), (11, (.invokevirtual 64, (sv_N, (14, (0, []))))), (14, (.aload_n 0, (sv_N, (15, (0, []))))), (15, (.dup, (sv_N, (16, (0, []))))), (16, (.getfield 42, (sv_N, (19, (0, []))))), (19, (.iconst 1, (.inl (1 : Int32), (20, (0, []))))), (20, (.iadd, (sv_N, (21, (0, []))))), (21, (.putfield 42, (sv_N, (24, (0, []))))), (24, (.aload_n 0, (sv_N, (25, (0, []))))), (25, (.getfield 42, (sv_N, (28, (0, []))))), (28, (.iconst 1, (.inl (1 : Int32), (29, (0, []))))), (29, (.isub, (sv_N, (30, (0, []))))), (30, (.ireturn, (sv_N, (31, (0, [])))))]
noncomputable def ev_Li_join : sv_E := (fun i => sv_lk i fl_5, (fun i => sv_lk i kc_5, (fun _ => 0, (true, (fun pc => sv_lk pc [(11, (3, .inr (.inl n_Dr_begin)))], none)))))
noncomputable def kk_Li_join : sv_K (Int32 × sv_S) := fun pc => sv_lk pc []
set_option maxRecDepth 20000 in
theorem e_Li_join (a0 : Nat) (a1 : Int32) (a2 : Int32) (σ : sv_S) : sv_ex ev_Li_join sv_rI kk_Li_join cd_Li_join 21 0 [some (.inr (.inr (some (1, a0)))), some (.inl a1), some (.inl a2)] [] σ = f_Li_join a0 a1 a2 σ := by
  unfold f_Li_join
  delta ev_Li_join kk_Li_join n_Dr_begin
  generalize f_Dr_begin = c0
  rfl
theorem d_Li_join : cd_Li_join.all (sv_dk cX5_join) = true := by decide +kernel
set_option maxRecDepth 20000 in
theorem b_Li_join (Γ : sv_Ga) (res : Int32 × sv_S) (X : sv_Ok Γ ev_Li_join cX5_join sv_rI res) (as : List sv_V) (σ : sv_S) (h : n_Li_join as σ = some res) : sv_T Γ 0 (sv_e0 3 as) [] σ := by
  unfold n_Li_join at h
  split at h
  · refine sv_run X d_Li_join (K := kk_Li_join) (sv_lk_all (P := fun pc (k : sv_Lo → List sv_V → sv_S → Option (Int32 × sv_S)) => ∀ lo st σ, k lo st σ = some res → sv_T Γ pc lo st σ) ?_) _ _ _ _ _ ((e_Li_join _ _ _ _).trans h)
    clear h
    exact fun _ h => absurd h List.not_mem_nil
  · cases h
theorem a_Li_join (as : List sv_V) (σ : sv_S) (x : Int32 × sv_S) (h : n_Li_join as σ = some x) : sv_args 3 ev_Li_join.2.2.2.1 as := by
  unfold n_Li_join at h
  split at h
  · exact ⟨Nat.le_of_ble_eq_true rfl, fun _ v hv => by
      simp only [List.mem_cons, List.not_mem_nil, or_false] at hv
      rcases hv with rfl | rfl | rfl <;> trivial⟩
  · cases h
theorem g_Li_join (as : List sv_V) (σ : sv_S) (x : Option sv_V × sv_S) (h : sv_gI n_Li_join as σ = some x) : ∃ r i as', as = sv_R r i :: as' ∧ sv_kd r i = .inl 5 := by
  obtain ⟨_, _, h, -⟩ := sv_b_some h
  unfold n_Li_join at h
  split at h
  · exact ⟨_, _, _, rfl, rfl⟩
  · cases h
theorem tw_336 : Cond.methodLink RX5 64 yX1_begin ∈ gw_tbl := gw_at 336 (by decide +kernel) rfl
theorem tw_337 : Cond.instanceMethod yX1_begin ∈ gw_tbl := gw_at 337 (by decide +kernel) rfl
theorem tw_338 : Cond.selects RX1 yX1_begin yX1_begin ∈ gw_tbl := gw_at 338 (by decide +kernel) rfl
theorem tw_339 : Cond.code yX1_begin cX1_begin 3 none ∈ gw_tbl := gw_at 339 (by decide +kernel) rfl
set_option maxRecDepth 20000 in
theorem m_Li_join (l : Launch) : sv_M l yX5_join cX5_join 3 (some .int) (sv_gI n_Li_join) 2 := by
  refine sv_mI (E := ev_Li_join) (by decide +kernel) (ln_gen fk_5 kk_5 (sv_ns _ (fun _ => rfl) _)) rfl ?_ a_Li_join b_Li_join
  intro p e R s m args below meth c cells slots Q base ad dC dI cA n0 S hkn hR hf pc n f hcs
  refine sv_lk_all (P := fun pc (x : Nat × sv_F) => sv_cok p l e R s m args below meth c cells slots Q base ad dC dI cA true 3 n0 pc x.1 x.2) ?_ pc (n, f) hcs
  exact List.forall_mem_cons.mpr ⟨(sv_cV S hkn (m_Dr_begin l) ⟨Nat.le_trans (by decide) hR.1, Nat.le_trans (by decide) hR.2⟩ (by decide) hf rfl (g_Dr_begin) (sv_w5 tw_336 tw_337 tw_338 tw_61 tw_339) (by decide +kernel) (sv_dc3 d_Li_join (pc := 11) rfl rfl)).V,
      fun _ h => absurd h List.not_mem_nil⟩
noncomputable def f_Li_kindOf (a0 : Nat) (a1 : Nat) (σ : sv_S) : Option (Nat × sv_S) :=
  sv_g (sv_in (σ 2 a1 0) 6) (some ((σ 2 a1 0).toNatClampNeg, σ))
noncomputable def n_Li_kindOf : List sv_V → sv_S → Option (Nat × sv_S)
  | [.inr (.inr (some (1, a0))), .inr (.inr (some (2, a1)))], σ => f_Li_kindOf a0 a1 σ
  | _, _ => none
def cd_Li_kindOf : sv_C := [(0, (.aload_n 0, (sv_N, (1, (0, []))))), (1, (.getfield 9, (sv_N, (4, (0, []))))), (4, (.aload_n 1, (sv_N, (5, (0, []))))), (5, (.getfield 68, (sv_N, (8, (0, []))))), (8, (.aaload, (sv_N, (9, (0, []))))), (9, (.areturn, (sv_N, (10, (0, [])))))]
noncomputable def ev_Li_kindOf : sv_E := (fun i => sv_lk i fl_5, (fun i => sv_lk i kc_5, (fun _ => 0, (true, (fun pc => sv_lk pc [], none)))))
noncomputable def kk_Li_kindOf : sv_K (Nat × sv_S) := fun pc => sv_lk pc []
set_option maxRecDepth 20000 in
theorem e_Li_kindOf (a0 : Nat) (a1 : Nat) (σ : sv_S) : sv_ex ev_Li_kindOf (sv_rR 7) kk_Li_kindOf cd_Li_kindOf 8 0 [some (.inr (.inr (some (1, a0)))), some (.inr (.inr (some (2, a1))))] [] σ = f_Li_kindOf a0 a1 σ := by
  unfold f_Li_kindOf
  delta ev_Li_kindOf kk_Li_kindOf
  rfl
theorem d_Li_kindOf : cd_Li_kindOf.all (sv_dk cX5_kindOf) = true := by decide +kernel
set_option maxRecDepth 20000 in
theorem b_Li_kindOf (Γ : sv_Ga) (res : Nat × sv_S) (X : sv_Ok Γ ev_Li_kindOf cX5_kindOf (sv_rR 7) res) (as : List sv_V) (σ : sv_S) (h : n_Li_kindOf as σ = some res) : sv_T Γ 0 (sv_e0 2 as) [] σ := by
  unfold n_Li_kindOf at h
  split at h
  · refine sv_run X d_Li_kindOf (K := kk_Li_kindOf) (sv_lk_all (P := fun pc (k : sv_Lo → List sv_V → sv_S → Option (Nat × sv_S)) => ∀ lo st σ, k lo st σ = some res → sv_T Γ pc lo st σ) ?_) _ _ _ _ _ ((e_Li_kindOf _ _ _).trans h)
    clear h
    exact fun _ h => absurd h List.not_mem_nil
  · cases h
theorem a_Li_kindOf (as : List sv_V) (σ : sv_S) (x : Nat × sv_S) (h : n_Li_kindOf as σ = some x) : sv_args 2 ev_Li_kindOf.2.2.2.1 as := by
  unfold n_Li_kindOf at h
  split at h
  · exact ⟨Nat.le_of_ble_eq_true rfl, fun _ v hv => by
      simp only [List.mem_cons, List.not_mem_nil, or_false] at hv
      rcases hv with rfl | rfl <;> trivial⟩
  · cases h
theorem g_Li_kindOf (as : List sv_V) (σ : sv_S) (x : Option sv_V × sv_S) (h : sv_gR 7 n_Li_kindOf as σ = some x) : ∃ r i as', as = sv_R r i :: as' ∧ sv_kd r i = .inl 5 := by
  obtain ⟨_, _, h, -⟩ := sv_b_some h
  unfold n_Li_kindOf at h
  split at h
  · exact ⟨_, _, _, rfl, rfl⟩
  · cases h

set_option maxRecDepth 20000 in
theorem m_Li_kindOf (l : Launch) : sv_M l yX5_kindOf cX5_kindOf 2 (some (.object "OneStroke$Kind")) (sv_gR 7 n_Li_kindOf) 0 := by
  refine sv_mR (E := ev_Li_kindOf) (by decide +kernel) (ln_gen fk_5 kk_5 (sv_ns _ (fun _ => rfl) _)) rfl ?_ a_Li_kindOf b_Li_kindOf
  intro p e R s m args below meth c cells slots Q base ad dC dI cA n0 S hkn hR hf pc n f hcs
  refine sv_lk_all (P := fun pc (x : Nat × sv_F) => sv_cok p l e R s m args below meth c cells slots Q base ad dC dI cA true 2 n0 pc x.1 x.2) ?_ pc (n, f) hcs
  exact fun _ h => absurd h List.not_mem_nil
noncomputable def f_Li_takeLaw (a0 : Nat) (a1 : Nat) (σ : sv_S) : Option (Int32 × sv_S) :=
  sv_g (sv_in (σ 1 a0 8) 14) (sv_g (sv_in ((sv_up σ 4 a0 ((σ 1 a0 8).toNatClampNeg) (nI (a1 + 1))) 18 a1 0) 3) (let σ1 := sv_up (sv_up (sv_up σ 4 a0 ((σ 1 a0 8).toNatClampNeg) (nI (a1 + 1))) 5 a0 (((sv_up σ 4 a0 ((σ 1 a0 8).toNatClampNeg) (nI (a1 + 1))) 18 a1 0).toNatClampNeg) ((sv_up σ 4 a0 ((σ 1 a0 8).toNatClampNeg) (nI (a1 + 1))) 1 a0 8)) 1 a0 8 (((sv_up (sv_up σ 4 a0 ((σ 1 a0 8).toNatClampNeg) (nI (a1 + 1))) 5 a0 (((sv_up σ 4 a0 ((σ 1 a0 8).toNatClampNeg) (nI (a1 + 1))) 18 a1 0).toNatClampNeg) ((sv_up σ 4 a0 ((σ 1 a0 8).toNatClampNeg) (nI (a1 + 1))) 1 a0 8)) 1 a0 8) + (1 : Int32))
  some ((σ1 1 a0 8) - (1 : Int32), σ1)))
noncomputable def n_Li_takeLaw : List sv_V → sv_S → Option (Int32 × sv_S)
  | [.inr (.inr (some (1, a0))), .inr (.inr (some (18, a1)))], σ => f_Li_takeLaw a0 a1 σ
  | _, _ => none
def cd_Li_takeLaw : sv_C := [(0, (.aload_n 0, (sv_N, (1, (0, []))))), (1, (.getfield 24, (sv_N, (4, (0, []))))), (4, (.aload_n 0, (sv_N, (5, (0, []))))), (5, (.getfield 51, (sv_N, (8, (0, []))))), (8, (.aload_n 1, (sv_N, (9, (0, []))))), (9, (.aastore, (sv_N, (10, (0, []))))), (10, (.aload_n 0, (sv_N, (11, (0, []))))), (11, (.getfield 28, (sv_N, (14, (0, []))))), (14, (.aload_n 1, (sv_N, (15, (0, []))))), (15, (.getfield 71, (sv_N, (18, (0, []))))), (18, (.aload_n 0, (sv_N, (19, (0, []))))), (19, (.getfield 51, (sv_N, (22, (0, []))))), (22, (.iastore, (sv_N, (23, (0, []))))), (23, (.aload_n 0, (sv_N, (24, (0, []))))), (24, (.dup, (sv_N, (25, (0, []))))), (25, (.getfield 51, (sv_N, (28, (0, []))))), (28, (.iconst 1, (.inl (1 : Int32), (29, (0, []))))), (29, (.iadd, (sv_N, (30, (0, []))))), (30, (.putfield 51, (sv_N, (33, (0, []))))), (33, (.aload_n 0, (sv_N, (34, (0, []))))), (34, (.getfield 51, (sv_N, (37, (0, []))))), (37, (.iconst 1, (.inl (1 : Int32), (38, (0, []))))), (38, (.isub, (sv_N, (39, (0, []))))), (39, (.ireturn, (sv_N, (40, (0, [])))))]
noncomputable def ev_Li_takeLaw : sv_E := (fun i => sv_lk i fl_5, (fun i => sv_lk i kc_5, (fun _ => 0, (true, (fun pc => sv_lk pc [], none)))))
noncomputable def kk_Li_takeLaw : sv_K (Int32 × sv_S) := fun pc => sv_lk pc []
set_option maxRecDepth 20000 in
theorem e_Li_takeLaw (a0 : Nat) (a1 : Nat) (σ : sv_S) : sv_ex ev_Li_takeLaw sv_rI kk_Li_takeLaw cd_Li_takeLaw 26 0 [some (.inr (.inr (some (1, a0)))), some (.inr (.inr (some (18, a1))))] [] σ = f_Li_takeLaw a0 a1 σ := by
  unfold f_Li_takeLaw
  delta ev_Li_takeLaw kk_Li_takeLaw
  rfl
theorem d_Li_takeLaw : cd_Li_takeLaw.all (sv_dk cX5_takeLaw) = true := by decide +kernel
set_option maxRecDepth 20000 in
theorem b_Li_takeLaw (Γ : sv_Ga) (res : Int32 × sv_S) (X : sv_Ok Γ ev_Li_takeLaw cX5_takeLaw sv_rI res) (as : List sv_V) (σ : sv_S) (h : n_Li_takeLaw as σ = some res) : sv_T Γ 0 (sv_e0 2 as) [] σ := by
  unfold n_Li_takeLaw at h
  split at h
  · refine sv_run X d_Li_takeLaw (K := kk_Li_takeLaw) (sv_lk_all (P := fun pc (k : sv_Lo → List sv_V → sv_S → Option (Int32 × sv_S)) => ∀ lo st σ, k lo st σ = some res → sv_T Γ pc lo st σ) ?_) _ _ _ _ _ ((e_Li_takeLaw _ _ _).trans h)
    clear h
    exact fun _ h => absurd h List.not_mem_nil
  · cases h
theorem a_Li_takeLaw (as : List sv_V) (σ : sv_S) (x : Int32 × sv_S) (h : n_Li_takeLaw as σ = some x) : sv_args 2 ev_Li_takeLaw.2.2.2.1 as := by
  unfold n_Li_takeLaw at h
  split at h
  · exact ⟨Nat.le_of_ble_eq_true rfl, fun _ v hv => by
      simp only [List.mem_cons, List.not_mem_nil, or_false] at hv
      rcases hv with rfl | rfl <;> trivial⟩
  · cases h
theorem g_Li_takeLaw (as : List sv_V) (σ : sv_S) (x : Option sv_V × sv_S) (h : sv_gI n_Li_takeLaw as σ = some x) : ∃ r i as', as = sv_R r i :: as' ∧ sv_kd r i = .inl 5 := by
  obtain ⟨_, _, h, -⟩ := sv_b_some h
  unfold n_Li_takeLaw at h
  split at h
  · exact ⟨_, _, _, rfl, rfl⟩
  · cases h

set_option maxRecDepth 20000 in
theorem m_Li_takeLaw (l : Launch) : sv_M l yX5_takeLaw cX5_takeLaw 2 (some .int) (sv_gI n_Li_takeLaw) 0 := by
  refine sv_mI (E := ev_Li_takeLaw) (by decide +kernel) (ln_gen fk_5 kk_5 (sv_ns _ (fun _ => rfl) _)) rfl ?_ a_Li_takeLaw b_Li_takeLaw
  intro p e R s m args below meth c cells slots Q base ad dC dI cA n0 S hkn hR hf pc n f hcs
  refine sv_lk_all (P := fun pc (x : Nat × sv_F) => sv_cok p l e R s m args below meth c cells slots Q base ad dC dI cA true 2 n0 pc x.1 x.2) ?_ pc (n, f) hcs
  exact fun _ h => absurd h List.not_mem_nil
noncomputable def f_Li_draw (a0 : Nat) (σ : sv_S) : Option (Int32 × sv_S) :=
  let σ1 := sv_up σ 1 a0 7 (((σ 1 a0 7) * (1103515245 : Int32)) + (12345 : Int32))
  some (((σ1 1 a0 7).toUInt32 >>> ((8 : Int32).toUInt32 &&& Int32.toUInt32 31)).toInt32, σ1)
noncomputable def n_Li_draw : List sv_V → sv_S → Option (Int32 × sv_S)
  | [.inr (.inr (some (1, a0)))], σ => f_Li_draw a0 σ
  | _, _ => none
def cd_Li_draw : sv_C := [(0, (.aload_n 0, (sv_N, (1, (0, []))))), (1, (.aload_n 0, (sv_N, (2, (0, []))))), (2, (.getfield 38, (sv_N, (5, (0, []))))), (5, (.ldc 74, (sv_N, (7, (0, []))))), (7, (.imul, (sv_N, (8, (0, []))))), (8, (.sipush 12345, (.inl (12345 : Int32), (11, (0, []))))), (11, (.iadd, (sv_N, (12, (0, []))))), (12, (.putfield 38, (sv_N, (15, (0, []))))), (15, (.aload_n 0, (sv_N, (16, (0, []))))), (16, (.getfield 38, (sv_N, (19, (0, []))))), (19, (.bipush 8, (.inl (8 : Int32), (21, (0, []))))), (21, (.iushr, (sv_N, (22, (0, []))))), (22, (.ireturn, (sv_N, (23, (0, [])))))]
noncomputable def ev_Li_draw : sv_E := (fun i => sv_lk i fl_5, (fun i => sv_lk i kc_5, (fun _ => 0, (true, (fun pc => sv_lk pc [], none)))))
noncomputable def kk_Li_draw : sv_K (Int32 × sv_S) := fun pc => sv_lk pc []
set_option maxRecDepth 20000 in
theorem e_Li_draw (a0 : Nat) (σ : sv_S) : sv_ex ev_Li_draw sv_rI kk_Li_draw cd_Li_draw 15 0 [some (.inr (.inr (some (1, a0))))] [] σ = f_Li_draw a0 σ := by
  unfold f_Li_draw
  delta ev_Li_draw kk_Li_draw
  rfl
theorem d_Li_draw : cd_Li_draw.all (sv_dk cX5_draw) = true := by decide +kernel
set_option maxRecDepth 20000 in
theorem b_Li_draw (Γ : sv_Ga) (res : Int32 × sv_S) (X : sv_Ok Γ ev_Li_draw cX5_draw sv_rI res) (as : List sv_V) (σ : sv_S) (h : n_Li_draw as σ = some res) : sv_T Γ 0 (sv_e0 1 as) [] σ := by
  unfold n_Li_draw at h
  split at h
  · refine sv_run X d_Li_draw (K := kk_Li_draw) (sv_lk_all (P := fun pc (k : sv_Lo → List sv_V → sv_S → Option (Int32 × sv_S)) => ∀ lo st σ, k lo st σ = some res → sv_T Γ pc lo st σ) ?_) _ _ _ _ _ ((e_Li_draw _ _).trans h)
    clear h
    exact fun _ h => absurd h List.not_mem_nil
  · cases h
theorem a_Li_draw (as : List sv_V) (σ : sv_S) (x : Int32 × sv_S) (h : n_Li_draw as σ = some x) : sv_args 1 ev_Li_draw.2.2.2.1 as := by
  unfold n_Li_draw at h
  split at h
  · exact ⟨Nat.le_of_ble_eq_true rfl, fun _ v hv => by
      simp only [List.mem_cons, List.not_mem_nil, or_false] at hv
      rcases hv with rfl <;> trivial⟩
  · cases h
theorem g_Li_draw (as : List sv_V) (σ : sv_S) (x : Option sv_V × sv_S) (h : sv_gI n_Li_draw as σ = some x) : ∃ r i as', as = sv_R r i :: as' ∧ sv_kd r i = .inl 5 := by
  obtain ⟨_, _, h, -⟩ := sv_b_some h
  unfold n_Li_draw at h
  split at h
  · exact ⟨_, _, _, rfl, rfl⟩
  · cases h

set_option maxRecDepth 20000 in
theorem m_Li_draw (l : Launch) : sv_M l yX5_draw cX5_draw 1 (some .int) (sv_gI n_Li_draw) 0 := by
  refine sv_mI (E := ev_Li_draw) (by decide +kernel) (ln_gen fk_5 kk_5 (sv_ns _ (fun _ => rfl) _)) rfl ?_ a_Li_draw b_Li_draw
  intro p e R s m args below meth c cells slots Q base ad dC dI cA n0 S hkn hR hf pc n f hcs
  refine sv_lk_all (P := fun pc (x : Nat × sv_F) => sv_cok p l e R s m args below meth c cells slots Q base ad dC dI cA true 1 n0 pc x.1 x.2) ?_ pc (n, f) hcs
  exact fun _ h => absurd h List.not_mem_nil
noncomputable def f_On_withinStarts (a0 : Int32) (σ : sv_S) : Option (Int32 × sv_S) :=
  sv_b (f_Jm_min (9 : Int32) a0 σ) (fun v1 σ2 =>
    sv_b (f_Jm_max (1 : Int32) v1 σ2) (fun v3 σ4 =>
      some (v3, σ4)))
noncomputable def n_On_withinStarts : List sv_V → sv_S → Option (Int32 × sv_S)
  | [.inl a0], σ => f_On_withinStarts a0 σ
  | _, _ => none
def cd_On_withinStarts : sv_C := [(0, (.iconst 1, (.inl (1 : Int32), (1, (0, []))))), (1, (.bipush 9, (.inl (9 : Int32), (3, (0, []))))), (3, (.iload_n 0, (sv_N, (4, (0, []))))), (4, (.invokestatic 157, (sv_N, (7, (0, []))))), (7, (.invokestatic 204, (sv_N, (10, (0, []))))), (10, (.ireturn, (sv_N, (11, (0, [])))))]
noncomputable def ev_On_withinStarts : sv_E := (fun i => sv_lk i fl_11, (fun i => sv_lk i kc_11, (fun i => bif Nat.beq i 166 then 1 else 0, (true, (fun pc => sv_lk pc [(4, (2, .inl n_Jm_min)), (7, (2, .inl n_Jm_max))], none)))))
noncomputable def kk_On_withinStarts : sv_K (Int32 × sv_S) := fun pc => sv_lk pc []
set_option maxRecDepth 20000 in
theorem e_On_withinStarts (a0 : Int32) (σ : sv_S) : sv_ex ev_On_withinStarts sv_rI kk_On_withinStarts cd_On_withinStarts 8 0 [some (.inl a0)] [] σ = f_On_withinStarts a0 σ := by
  unfold f_On_withinStarts
  delta ev_On_withinStarts kk_On_withinStarts n_Jm_min n_Jm_max
  generalize f_Jm_min = c0
  generalize f_Jm_max = c1
  rfl
theorem d_On_withinStarts : cd_On_withinStarts.all (sv_dk cX11_withinStarts) = true := by decide +kernel
set_option maxRecDepth 20000 in
theorem b_On_withinStarts (Γ : sv_Ga) (res : Int32 × sv_S) (X : sv_Ok Γ ev_On_withinStarts cX11_withinStarts sv_rI res) (as : List sv_V) (σ : sv_S) (h : n_On_withinStarts as σ = some res) : sv_T Γ 0 (sv_e0 1 as) [] σ := by
  unfold n_On_withinStarts at h
  split at h
  · refine sv_run X d_On_withinStarts (K := kk_On_withinStarts) (sv_lk_all (P := fun pc (k : sv_Lo → List sv_V → sv_S → Option (Int32 × sv_S)) => ∀ lo st σ, k lo st σ = some res → sv_T Γ pc lo st σ) ?_) _ _ _ _ _ ((e_On_withinStarts _ _).trans h)
    clear h
    exact fun _ h => absurd h List.not_mem_nil
  · cases h
theorem a_On_withinStarts (as : List sv_V) (σ : sv_S) (x : Int32 × sv_S) (h : n_On_withinStarts as σ = some x) : sv_args 1 ev_On_withinStarts.2.2.2.1 as := by
  unfold n_On_withinStarts at h
  split at h
  · exact ⟨Nat.le_of_ble_eq_true rfl, fun _ v hv => by
      simp only [List.mem_cons, List.not_mem_nil, or_false] at hv
      rcases hv with rfl <;> trivial⟩
  · cases h
theorem tw_403 : Cond.methodLink RX11 157 Lib.Math.min.name ∈ gw_tbl := gw_at 403 (by decide +kernel) rfl
theorem tw_404 : Cond.methodLink RX11 204 Lib.Math.max.name ∈ gw_tbl := gw_at 404 (by decide +kernel) rfl
set_option maxRecDepth 20000 in
theorem m_On_withinStarts (l : Launch) : sv_M l yX11_withinStarts cX11_withinStarts 1 (some .int) (sv_gI n_On_withinStarts) 1 := by
  refine sv_mI (E := ev_On_withinStarts) (by decide +kernel) (ln_gen fk_11 kk_11 gk_11) rfl ?_ a_On_withinStarts b_On_withinStarts
  intro p e R s m args below meth c cells slots Q base ad dC dI cA n0 S hkn hR hf pc n f hcs
  refine sv_lk_all (P := fun pc (x : Nat × sv_F) => sv_cok p l e R s m args below meth c cells slots Q base ad dC dI cA true 1 n0 pc x.1 x.2) ?_ pc (n, f) hcs
  exact List.forall_mem_cons.mpr ⟨(sv_cmin S ⟨Nat.le_trans (by decide) hR.1, Nat.le_trans (by decide) hR.2⟩ hf (sv_w4 tw_403 tw_369 tw_66 tw_370) (sv_dc3 d_On_withinStarts (pc := 4) rfl rfl)).I,
      List.forall_mem_cons.mpr ⟨(sv_cmax S ⟨Nat.le_trans (by decide) hR.1, Nat.le_trans (by decide) hR.2⟩ hf (sv_w4 tw_404 tw_405 tw_66 tw_406) (sv_dc3 d_On_withinStarts (pc := 7) rfl rfl)).I,
      fun _ h => absurd h List.not_mem_nil⟩⟩
noncomputable def f_k_wakesFrom (a0 : Nat) (a1 : Int32) (σ : sv_S) : Option (Int32 × sv_S) := match a0 with
  | 0 => f_Ki_wakesFrom 0 a1 σ
  | 1 => f_Ki_wakesFrom 1 a1 σ
  | 2 => f_Ea_wakesFrom 2 a1 σ
  | 3 => f_La_wakesFrom 3 a1 σ
  | 4 => f_Ea_wakesFrom 4 a1 σ
  | 5 => f_Ki_wakesFrom 5 a1 σ
  | _ => none
noncomputable def n_k_wakesFrom : List sv_V → sv_S → Option (Int32 × sv_S)
  | [.inr (.inr (some (7, a0))), .inl a1], σ => f_k_wakesFrom a0 a1 σ
  | _, _ => none
theorem dp_wakesFrom (P : sv_D → Prop) (g0 : P (sv_a7 0 (sv_gI n_Ki_wakesFrom))) (g1 : P (sv_a7 1 (sv_gI n_Ki_wakesFrom))) (g2 : P (sv_a7 2 (sv_gI n_Ea_wakesFrom))) (g3 : P (sv_a7 3 (sv_gI n_La_wakesFrom))) (g4 : P (sv_a7 4 (sv_gI n_Ea_wakesFrom))) (g5 : P (sv_a7 5 (sv_gI n_Ki_wakesFrom))) : ∀ as σ x, sv_gI n_k_wakesFrom as σ = some x → ∃ G', G' as σ = some x ∧ P G' := by
  intro as σ x h
  obtain ⟨v, τ, h1, h2⟩ := sv_b_some h
  unfold n_k_wakesFrom at h1
  split at h1
  · unfold f_k_wakesFrom at h1
    split at h1
    · exact ⟨_, sv_a7_of (G := sv_gI n_Ki_wakesFrom) (sv_gI_of (F := n_Ki_wakesFrom) h1 h2), g0⟩
    · exact ⟨_, sv_a7_of (G := sv_gI n_Ki_wakesFrom) (sv_gI_of (F := n_Ki_wakesFrom) h1 h2), g1⟩
    · exact ⟨_, sv_a7_of (G := sv_gI n_Ea_wakesFrom) (sv_gI_of (F := n_Ea_wakesFrom) h1 h2), g2⟩
    · exact ⟨_, sv_a7_of (G := sv_gI n_La_wakesFrom) (sv_gI_of (F := n_La_wakesFrom) h1 h2), g3⟩
    · exact ⟨_, sv_a7_of (G := sv_gI n_Ea_wakesFrom) (sv_gI_of (F := n_Ea_wakesFrom) h1 h2), g4⟩
    · exact ⟨_, sv_a7_of (G := sv_gI n_Ki_wakesFrom) (sv_gI_of (F := n_Ki_wakesFrom) h1 h2), g5⟩
    · cases h1
  · cases h1
noncomputable def f_Li_wakesTo_40 (x0 : Nat) (x2 : Nat) (y0 : Int32) (σ : sv_S) : Option (Int32 × sv_S) :=
    sv_b (f_Li_kindOf x0 x2 σ) (fun i1 σ2 =>
      sv_b (f_k_wakesFrom i1 y0 σ2) (fun v3 σ4 =>
        some (v3, σ4)))
noncomputable def f_Li_wakesTo (a0 : Nat) (a1 : Int32) (σ : sv_S) : Option (Int32 × sv_S) :=
  sv_g (sv_in a1 (sv_ln 3 a0 σ)) (sv_bT (f_Li_lawOf a0 (1 : Int32) σ) (fun σ1 =>
    f_Li_wakesTo_40 a0 (10 * a0 + (a1.toNatClampNeg)) (σ1 2 (10 * a0 + (a1.toNatClampNeg)) 1) σ1) (fun t2 σ3 =>
    sv_b (f_Te_gives t2 (σ3 2 (10 * a0 + (a1.toNatClampNeg)) 1) a1 (σ3 1 a0 5) σ3) (fun v4 σ5 =>
      sv_b (f_On_withinStarts v4 σ5) (fun v6 σ7 =>
        f_Li_wakesTo_40 a0 (10 * a0 + (a1.toNatClampNeg)) v6 σ7))))
noncomputable def n_Li_wakesTo : List sv_V → sv_S → Option (Int32 × sv_S)
  | [.inr (.inr (some (1, a0))), .inl a1], σ => f_Li_wakesTo a0 a1 σ
  | _, _ => none
def cd_Li_wakesTo : sv_C := [(0, (.aload_n 0, (sv_N, (1, (0, []))))), (1, (.getfield 17, (sv_N, (4, (0, []))))), (4, (.iload_n 1, (sv_N, (5, (0, []))))), (5, (.aaload, (sv_N, (6, (0, []))))), (6, (.astore_n 2, (sv_N, (7, (0, []))))), (7, (.aload_n 0, (sv_N, (8, (0, []))))), (8, (.iconst 1, (.inl (1 : Int32), (9, (0, []))))), (9, (.invokevirtual 91, (sv_N, (12, (0, []))))), (12, (.astore_n 3, (sv_N, (13, (0, []))))), (13, (.aload_n 3, (sv_N, (14, (0, []))))), (14, (.ifnonnull 10, (sv_N, (17, (24, []))))), (17, (.aload_n 2, (sv_N, (18, (0, []))))), (18, (.getfield 99, (sv_N, (21, (0, []))))), (21, (.goto 19, (sv_N, (24, (40, []))))), (24, (.aload_n 3, (sv_N, (25, (0, []))))), (25, (.aload_n 2, (sv_N, (26, (0, []))))), (26, (.getfield 99, (sv_N, (29, (0, []))))), (29, (.iload_n 1, (sv_N, (30, (0, []))))), (30, (.aload_n 0, (sv_N, (31, (0, []))))), (31, (.getfield 45, (sv_N, (34, (0, []))))), (34, (.invokevirtual 95, (sv_N, (37, (0, []))))), (37, (.invokestatic 102, (sv_N, (40, (0, []))))), (40, (.istore 4, (sv_N, (42, (0, []))))), (42, (.aload_n 0, (sv_N, (43, (0, []))))), (43, (.aload_n 2, (sv_N, (44, (0, []))))), (44, (.invokevirtual 105, (sv_N, (47, (0, []))))), (47, (.iload 4, (sv_N, (49, (0, []))))), (49, (.invokevirtual 109, (sv_N, (52, (0, []))))), (52, (.ireturn, (sv_N, (53, (0, [])))))]
noncomputable def ev_Li_wakesTo : sv_E := (fun i => sv_lk i fl_5, (fun i => sv_lk i kc_5, (fun _ => 0, (true, (fun pc => sv_lk pc [(9, (2, .inr (.inr (.inr n_Li_lawOf)))), (34, (4, .inl n_Te_gives)), (37, (1, .inl n_On_withinStarts)), (44, (2, .inr (.inr (.inl (7, n_Li_kindOf))))), (49, (2, .inl n_k_wakesFrom))], none)))))
noncomputable def kk_Li_wakesTo_40 : sv_K (Int32 × sv_S) := fun pc => sv_lk pc []
set_option maxRecDepth 20000 in
theorem e_Li_wakesTo_40 (x0 : Nat) (x2 : Nat) (y0 : Int32) (z1 z3 z4 : Option sv_V) (σ : sv_S) : sv_ex ev_Li_wakesTo sv_rI (kk_Li_wakesTo_40) cd_Li_wakesTo 31 40 [some (.inr (.inr (some (1, x0)))), z1, some (.inr (.inr (some (2, x2)))), z3, z4] [.inl y0] σ = f_Li_wakesTo_40 x0 x2 y0 σ := by
  unfold f_Li_wakesTo_40
  delta ev_Li_wakesTo kk_Li_wakesTo_40 n_Li_lawOf n_Te_gives n_On_withinStarts n_Li_kindOf n_k_wakesFrom
  generalize f_Li_lawOf = c0
  generalize f_Te_gives = c1
  generalize f_On_withinStarts = c2
  generalize f_Li_kindOf = c3
  generalize f_k_wakesFrom = c4
  rfl
noncomputable def kk_Li_wakesTo : sv_K (Int32 × sv_S) := fun pc => sv_lk pc [(40, fun lo st σ => match lo, st with
    | [some (.inr (.inr (some (1, x0)))), _, some (.inr (.inr (some (2, x2)))), _, _], [.inl y0] => f_Li_wakesTo_40 x0 x2 y0 σ
    | _, _ => none)]
set_option maxRecDepth 20000 in
theorem e_Li_wakesTo (a0 : Nat) (a1 : Int32) (σ : sv_S) : sv_ex ev_Li_wakesTo sv_rI kk_Li_wakesTo cd_Li_wakesTo 31 0 [some (.inr (.inr (some (1, a0)))), some (.inl a1), none, none, none] [] σ = f_Li_wakesTo a0 a1 σ := by
  unfold f_Li_wakesTo
  delta ev_Li_wakesTo kk_Li_wakesTo n_Li_lawOf n_Te_gives n_On_withinStarts n_Li_kindOf n_k_wakesFrom
  generalize f_Li_lawOf = c0
  generalize f_Te_gives = c1
  generalize f_On_withinStarts = c2
  generalize f_Li_kindOf = c3
  generalize f_k_wakesFrom = c4
  generalize f_Li_wakesTo_40 = c5
  rfl
theorem d_Li_wakesTo : cd_Li_wakesTo.all (sv_dk cX5_wakesTo) = true := by decide +kernel
set_option maxRecDepth 20000 in
theorem w_Li_wakesTo_40 {Γ : sv_Ga} {res : Int32 × sv_S} (X : sv_Ok Γ ev_Li_wakesTo cX5_wakesTo sv_rI res) : ∀ (x0 : Nat) (x2 : Nat) (y0 : Int32) (z1 z3 z4 : Option sv_V) (σ : sv_S), f_Li_wakesTo_40 x0 x2 y0 σ = some res → sv_T Γ 40 [some (.inr (.inr (some (1, x0)))), z1, some (.inr (.inr (some (2, x2)))), z3, z4] [.inl y0] σ := by
  intro x0 x2 y0 z1 z3 z4 σ h
  refine sv_run X d_Li_wakesTo (K := kk_Li_wakesTo_40) (sv_lk_all (P := fun pc (k : sv_Lo → List sv_V → sv_S → Option (Int32 × sv_S)) => ∀ lo st σ, k lo st σ = some res → sv_T Γ pc lo st σ) ?_) _ _ _ _ _ ((e_Li_wakesTo_40 x0 x2 y0 z1 z3 z4 σ).trans h)
  clear h
  exact fun _ h => absurd h List.not_mem_nil

set_option maxRecDepth 20000 in
theorem b_Li_wakesTo (Γ : sv_Ga) (res : Int32 × sv_S) (X : sv_Ok Γ ev_Li_wakesTo cX5_wakesTo sv_rI res) (as : List sv_V) (σ : sv_S) (h : n_Li_wakesTo as σ = some res) : sv_T Γ 0 (sv_e0 5 as) [] σ := by
  unfold n_Li_wakesTo at h
  split at h
  · refine sv_run X d_Li_wakesTo (K := kk_Li_wakesTo) (sv_lk_all (P := fun pc (k : sv_Lo → List sv_V → sv_S → Option (Int32 × sv_S)) => ∀ lo st σ, k lo st σ = some res → sv_T Γ pc lo st σ) ?_) _ _ _ _ _ ((e_Li_wakesTo _ _ _).trans h)
    clear h
    refine List.forall_mem_cons.mpr ⟨fun lo st σ h => ?_, fun _ h => absurd h List.not_mem_nil⟩
    · dsimp only at h
      split at h
      · exact w_Li_wakesTo_40 X _ _ _ _ _ _ _ h
      · cases h
  · cases h
theorem a_Li_wakesTo (as : List sv_V) (σ : sv_S) (x : Int32 × sv_S) (h : n_Li_wakesTo as σ = some x) : sv_args 5 ev_Li_wakesTo.2.2.2.1 as := by
  unfold n_Li_wakesTo at h
  split at h
  · exact ⟨Nat.le_of_ble_eq_true rfl, fun _ v hv => by
      simp only [List.mem_cons, List.not_mem_nil, or_false] at hv
      rcases hv with rfl | rfl <;> trivial⟩
  · cases h
theorem g_Li_wakesTo (as : List sv_V) (σ : sv_S) (x : Option sv_V × sv_S) (h : sv_gI n_Li_wakesTo as σ = some x) : ∃ r i as', as = sv_R r i :: as' ∧ sv_kd r i = .inl 5 := by
  obtain ⟨_, _, h, -⟩ := sv_b_some h
  unfold n_Li_wakesTo at h
  split at h
  · exact ⟨_, _, _, rfl, rfl⟩
  · cases h
theorem tw_53 : Cond.initialized RX11 ∈ gw_tbl := gw_at 53 (by decide +kernel) rfl
theorem tw_56 : Cond.initialized RX2 ∈ gw_tbl := gw_at 56 (by decide +kernel) rfl
theorem tw_57 : Cond.initialized RX4 ∈ gw_tbl := gw_at 57 (by decide +kernel) rfl
theorem tw_354 : Cond.instanceMethod yX5_kindOf ∈ gw_tbl := gw_at 354 (by decide +kernel) rfl
theorem tw_355 : Cond.selects RX5 yX5_kindOf yX5_kindOf ∈ gw_tbl := gw_at 355 (by decide +kernel) rfl
theorem tw_356 : Cond.code yX5_kindOf cX5_kindOf 2 (some (.object "OneStroke$Kind")) ∈ gw_tbl := gw_at 356 (by decide +kernel) rfl
theorem tw_401 : Cond.static yX11_withinStarts ∈ gw_tbl := gw_at 401 (by decide +kernel) rfl
theorem tw_402 : Cond.code yX11_withinStarts cX11_withinStarts 1 (some .int) ∈ gw_tbl := gw_at 402 (by decide +kernel) rfl
theorem tw_407 : Cond.methodLink RX5 105 yX5_kindOf ∈ gw_tbl := gw_at 407 (by decide +kernel) rfl
theorem tw_408 : Cond.methodLink RX5 109 yX3_wakesFrom ∈ gw_tbl := gw_at 408 (by decide +kernel) rfl
theorem tw_410 : Cond.selects RX3 yX3_wakesFrom yX3_wakesFrom ∈ gw_tbl := gw_at 410 (by decide +kernel) rfl
theorem tw_412 : Cond.selects RX0 yX3_wakesFrom yX3_wakesFrom ∈ gw_tbl := gw_at 412 (by decide +kernel) rfl
theorem tw_413 : Cond.selects RX2 yX3_wakesFrom yX2_wakesFrom ∈ gw_tbl := gw_at 413 (by decide +kernel) rfl
theorem tw_414 : Cond.instanceMethod yX2_wakesFrom ∈ gw_tbl := gw_at 414 (by decide +kernel) rfl
theorem tw_415 : Cond.code yX2_wakesFrom cX2_wakesFrom 2 (some .int) ∈ gw_tbl := gw_at 415 (by decide +kernel) rfl
theorem tw_418 : Cond.selects RX4 yX3_wakesFrom yX4_wakesFrom ∈ gw_tbl := gw_at 418 (by decide +kernel) rfl
theorem tw_419 : Cond.instanceMethod yX4_wakesFrom ∈ gw_tbl := gw_at 419 (by decide +kernel) rfl
theorem tw_420 : Cond.code yX4_wakesFrom cX4_wakesFrom 2 (some .int) ∈ gw_tbl := gw_at 420 (by decide +kernel) rfl
theorem tw_425 : Cond.selects RX7 yX3_wakesFrom yX3_wakesFrom ∈ gw_tbl := gw_at 425 (by decide +kernel) rfl
theorem tw_426 : Cond.selects RX10 yX3_wakesFrom yX2_wakesFrom ∈ gw_tbl := gw_at 426 (by decide +kernel) rfl
set_option maxRecDepth 20000 in
theorem m_Li_wakesTo (l : Launch) : sv_M l yX5_wakesTo cX5_wakesTo 5 (some .int) (sv_gI n_Li_wakesTo) 2 := by
  refine sv_mI (E := ev_Li_wakesTo) (by decide +kernel) (ln_gen fk_5 kk_5 (sv_ns _ (fun _ => rfl) _)) rfl ?_ a_Li_wakesTo b_Li_wakesTo
  intro p e R s m args below meth c cells slots Q base ad dC dI cA n0 S hkn hR hf pc n f hcs
  refine sv_lk_all (P := fun pc (x : Nat × sv_F) => sv_cok p l e R s m args below meth c cells slots Q base ad dC dI cA true 5 n0 pc x.1 x.2) ?_ pc (n, f) hcs
  exact List.forall_mem_cons.mpr ⟨(sv_cV S hkn (m_Li_lawOf l) ⟨Nat.le_trans (by decide) hR.1, Nat.le_trans (by decide) hR.2⟩ (by decide) hf rfl (g_Li_lawOf) (sv_w5 tw_385 tw_386 tw_387 tw_60 tw_388) (by decide +kernel) (sv_dc3 d_Li_wakesTo (pc := 9) rfl rfl)).T,
      List.forall_mem_cons.mpr ⟨(sv_cV S hkn (m_Te_gives l) ⟨Nat.le_trans (by decide) hR.1, Nat.le_trans (by decide) hR.2⟩ (by decide) hf rfl (g_Te_gives) (sv_w5 tw_389 tw_390 tw_391 tw_67 tw_392) (by decide +kernel) (sv_dc3 d_Li_wakesTo (pc := 34) rfl rfl)).I,
      List.forall_mem_cons.mpr ⟨(sv_cN S hkn (m_On_withinStarts l) ⟨Nat.le_trans (by decide) hR.1, Nat.le_trans (by decide) hR.2⟩ (by decide) hf hkn.2.2.2.1 (sv_w3 tw_401 tw_53 tw_402) (by decide +kernel) (sv_dc3 d_Li_wakesTo (pc := 37) rfl rfl)).I,
      List.forall_mem_cons.mpr ⟨(sv_cV S hkn (m_Li_kindOf l) ⟨Nat.le_trans (by decide) hR.1, Nat.le_trans (by decide) hR.2⟩ (by decide) hf rfl (g_Li_kindOf) (sv_w5 tw_407 tw_354 tw_355 tw_60 tw_356) (by decide +kernel) (sv_dc3 d_Li_wakesTo (pc := 44) rfl rfl)).Rf,
      List.forall_mem_cons.mpr ⟨(sv_cg.of (dp_wakesFrom (fun G => sv_cg p l e R s m args below meth c cells slots Q base ad dC dI cA _ _ n0 49 2 G)
        (sv_cD S hkn (x := yX3_wakesFrom) (owner := RX3) (q := (RX3, TX3, 0)) (sv_M.sub (m_Ki_wakesFrom l) sv_a7_sub) hf (ci := 3) rfl (fun as σ x h => by obtain ⟨as', e⟩ := sv_a7_at (j := 0) as σ x h; exact ⟨7, 0, as', e, rfl⟩) (sv_cwI S ⟨Nat.le_trans (by decide) hR.1, Nat.le_trans (by decide) hR.2⟩ (by decide) rfl (sv_w6 tw_408 tw_411 tw_410 tw_409 tw_54 tw_427) (by decide +kernel)) (sv_dc3 d_Li_wakesTo (pc := 49) rfl rfl))
        (sv_cD S hkn (x := yX3_wakesFrom) (owner := RX3) (q := (RX7, TX7, 0)) (sv_M.sub (m_Ki_wakesFrom l) sv_a7_sub) hf (ci := 7) rfl (fun as σ x h => by obtain ⟨as', e⟩ := sv_a7_at (j := 1) as σ x h; exact ⟨7, 1, as', e, rfl⟩) (sv_cwI S ⟨Nat.le_trans (by decide) hR.1, Nat.le_trans (by decide) hR.2⟩ (by decide) rfl (sv_w6 tw_408 tw_411 tw_425 tw_409 tw_54 tw_427) (by decide +kernel)) (sv_dc3 d_Li_wakesTo (pc := 49) rfl rfl))
        (sv_cD S hkn (x := yX3_wakesFrom) (owner := RX3) (q := (RX2, TX2, 0)) (sv_M.sub (m_Ea_wakesFrom l) sv_a7_sub) hf (ci := 2) rfl (fun as σ x h => by obtain ⟨as', e⟩ := sv_a7_at (j := 2) as σ x h; exact ⟨7, 2, as', e, rfl⟩) (sv_cwO S ⟨Nat.le_trans (by decide) hR.1, Nat.le_trans (by decide) hR.2⟩ (by decide) (sv_w7 tw_408 tw_411 tw_409 tw_413 tw_414 tw_56 tw_415) tw_427 (by decide +kernel)) (sv_dc3 d_Li_wakesTo (pc := 49) rfl rfl))
        (sv_cD S hkn (x := yX3_wakesFrom) (owner := RX3) (q := (RX4, TX4, 0)) (sv_M.sub (m_La_wakesFrom l) sv_a7_sub) hf (ci := 4) rfl (fun as σ x h => by obtain ⟨as', e⟩ := sv_a7_at (j := 3) as σ x h; exact ⟨7, 3, as', e, rfl⟩) (sv_cwO S ⟨Nat.le_trans (by decide) hR.1, Nat.le_trans (by decide) hR.2⟩ (by decide) (sv_w7 tw_408 tw_411 tw_409 tw_418 tw_419 tw_57 tw_420) tw_427 (by decide +kernel)) (sv_dc3 d_Li_wakesTo (pc := 49) rfl rfl))
        (sv_cD S hkn (x := yX3_wakesFrom) (owner := RX3) (q := (RX10, TX10, 0)) (sv_M.sub (m_Ea_wakesFrom l) sv_a7_sub) hf (ci := 10) rfl (fun as σ x h => by obtain ⟨as', e⟩ := sv_a7_at (j := 4) as σ x h; exact ⟨7, 4, as', e, rfl⟩) (sv_cwO S ⟨Nat.le_trans (by decide) hR.1, Nat.le_trans (by decide) hR.2⟩ (by decide) (sv_w7 tw_408 tw_411 tw_409 tw_426 tw_414 tw_56 tw_415) tw_427 (by decide +kernel)) (sv_dc3 d_Li_wakesTo (pc := 49) rfl rfl))
        (sv_cD S hkn (x := yX3_wakesFrom) (owner := RX3) (q := (RX0, TX0, 0)) (sv_M.sub (m_Ki_wakesFrom l) sv_a7_sub) hf (ci := 0) rfl (fun as σ x h => by obtain ⟨as', e⟩ := sv_a7_at (j := 5) as σ x h; exact ⟨7, 5, as', e, rfl⟩) (sv_cwI S ⟨Nat.le_trans (by decide) hR.1, Nat.le_trans (by decide) hR.2⟩ (by decide) rfl (sv_w6 tw_408 tw_411 tw_412 tw_409 tw_54 tw_427) (by decide +kernel)) (sv_dc3 d_Li_wakesTo (pc := 49) rfl rfl)))).I,
      fun _ h => absurd h List.not_mem_nil⟩⟩⟩⟩⟩
noncomputable def f_Li_wake (a0 : Nat) (a1 : Int32) (σ : sv_S) : Option (sv_S) :=
  sv_g (sv_in a1 (sv_ln 3 a0 σ)) (sv_b (f_Li_wakesTo a0 a1 σ) (fun v1 σ2 =>
    let σ3 := sv_up σ2 2 (10 * a0 + (a1.toNatClampNeg)) 2 v1
    some σ3))
noncomputable def n_Li_wake : List sv_V → sv_S → Option (sv_S)
  | [.inr (.inr (some (1, a0))), .inl a1], σ => f_Li_wake a0 a1 σ
  | _, _ => none
def cd_Li_wake : sv_C := [(0, (.aload_n 0, (sv_N, (1, (0, []))))), (1, (.getfield 17, (sv_N, (4, (0, []))))), (4, (.iload_n 1, (sv_N, (5, (0, []))))), (5, (.aaload, (sv_N, (6, (0, []))))), (6, (.aload_n 0, (sv_N, (7, (0, []))))), (7, (.iload_n 1, (sv_N, (8, (0, []))))), (8, (.invokevirtual 114, (sv_N, (11, (0, []))))), (11, (.putfield 117, (sv_N, (14, (0, []))))), (14, (.return_, (sv_N, (15, (0, [])))))]
noncomputable def ev_Li_wake : sv_E := (fun i => sv_lk i fl_5, (fun i => sv_lk i kc_5, (fun _ => 0, (true, (fun pc => sv_lk pc [(8, (2, .inl n_Li_wakesTo))], none)))))
noncomputable def kk_Li_wake : sv_K (sv_S) := fun pc => sv_lk pc []
set_option maxRecDepth 20000 in
theorem e_Li_wake (a0 : Nat) (a1 : Int32) (σ : sv_S) : sv_ex ev_Li_wake sv_rV kk_Li_wake cd_Li_wake 11 0 [some (.inr (.inr (some (1, a0)))), some (.inl a1)] [] σ = f_Li_wake a0 a1 σ := by
  unfold f_Li_wake
  delta ev_Li_wake kk_Li_wake n_Li_wakesTo
  generalize f_Li_wakesTo = c0
  rfl
theorem d_Li_wake : cd_Li_wake.all (sv_dk cX5_wake) = true := by decide +kernel
set_option maxRecDepth 20000 in
theorem b_Li_wake (Γ : sv_Ga) (res : sv_S) (X : sv_Ok Γ ev_Li_wake cX5_wake sv_rV res) (as : List sv_V) (σ : sv_S) (h : n_Li_wake as σ = some res) : sv_T Γ 0 (sv_e0 2 as) [] σ := by
  unfold n_Li_wake at h
  split at h
  · refine sv_run X d_Li_wake (K := kk_Li_wake) (sv_lk_all (P := fun pc (k : sv_Lo → List sv_V → sv_S → Option (sv_S)) => ∀ lo st σ, k lo st σ = some res → sv_T Γ pc lo st σ) ?_) _ _ _ _ _ ((e_Li_wake _ _ _).trans h)
    clear h
    exact fun _ h => absurd h List.not_mem_nil
  · cases h
theorem a_Li_wake (as : List sv_V) (σ : sv_S) (x : sv_S) (h : n_Li_wake as σ = some x) : sv_args 2 ev_Li_wake.2.2.2.1 as := by
  unfold n_Li_wake at h
  split at h
  · exact ⟨Nat.le_of_ble_eq_true rfl, fun _ v hv => by
      simp only [List.mem_cons, List.not_mem_nil, or_false] at hv
      rcases hv with rfl | rfl <;> trivial⟩
  · cases h
theorem g_Li_wake (as : List sv_V) (σ : sv_S) (x : Option sv_V × sv_S) (h : sv_gV n_Li_wake as σ = some x) : ∃ r i as', as = sv_R r i :: as' ∧ sv_kd r i = .inl 5 := by
  obtain ⟨_, h, -⟩ := sv_b0_some h
  unfold n_Li_wake at h
  split at h
  · exact ⟨_, _, _, rfl, rfl⟩
  · cases h
theorem tw_397 : Cond.instanceMethod yX5_wakesTo ∈ gw_tbl := gw_at 397 (by decide +kernel) rfl
theorem tw_398 : Cond.selects RX5 yX5_wakesTo yX5_wakesTo ∈ gw_tbl := gw_at 398 (by decide +kernel) rfl
theorem tw_399 : Cond.code yX5_wakesTo cX5_wakesTo 5 (some .int) ∈ gw_tbl := gw_at 399 (by decide +kernel) rfl
theorem tw_511 : Cond.methodLink RX5 114 yX5_wakesTo ∈ gw_tbl := gw_at 511 (by decide +kernel) rfl
set_option maxRecDepth 20000 in
theorem m_Li_wake (l : Launch) : sv_M l yX5_wake cX5_wake 2 none (sv_gV n_Li_wake) 3 := by
  refine sv_mV (E := ev_Li_wake) (by decide +kernel) (ln_gen fk_5 kk_5 (sv_ns _ (fun _ => rfl) _)) rfl ?_ a_Li_wake b_Li_wake
  intro p e R s m args below meth c cells slots Q base ad dC dI cA n0 S hkn hR hf pc n f hcs
  refine sv_lk_all (P := fun pc (x : Nat × sv_F) => sv_cok p l e R s m args below meth c cells slots Q base ad dC dI cA true 2 n0 pc x.1 x.2) ?_ pc (n, f) hcs
  exact List.forall_mem_cons.mpr ⟨(sv_cV S hkn (m_Li_wakesTo l) ⟨Nat.le_trans (by decide) hR.1, Nat.le_trans (by decide) hR.2⟩ (by decide) hf rfl (g_Li_wakesTo) (sv_w5 tw_511 tw_397 tw_398 tw_60 tw_399) (by decide +kernel) (sv_dc3 d_Li_wake (pc := 8) rfl rfl)).I,
      fun _ h => absurd h List.not_mem_nil⟩
noncomputable def f_Tr_stepFrom (a0 : Nat) (a1 : Int32) (a2 : Int32) (σ : sv_S) : Option (Int32 × sv_S) :=
  sv_if (a1 = (8 : Int32))
    (some ((0 : Int32), σ))
    (sv_b (f_Ki_stepFrom a0 a1 a2 σ) (fun v1 σ2 =>
      some (v1, σ2)))
noncomputable def n_Tr_stepFrom : List sv_V → sv_S → Option (Int32 × sv_S)
  | [.inr (.inr (some (7, a0))), .inl a1, .inl a2], σ => f_Tr_stepFrom a0 a1 a2 σ
  | _, _ => none
def cd_Tr_stepFrom : sv_C := [(0, (.iload_n 1, (sv_N, (1, (0, []))))), (1, (.bipush 8, (.inl (8 : Int32), (3, (0, []))))), (3, (.if_icmp .ne 7, (sv_N, (6, (10, []))))), (6, (.iconst 0, (.inl (0 : Int32), (7, (0, []))))), (7, (.goto 9, (sv_N, (10, (16, []))))), (10, (.aload_n 0, (sv_N, (11, (0, []))))), (11, (.iload_n 1, (sv_N, (12, (0, []))))), (12, (.iload_n 2, (sv_N, (13, (0, []))))), (13, (.invokespecial 9, (sv_N, (16, (0, []))))), (16, (.ireturn, (sv_N, (17, (0, [])))))]
noncomputable def ev_Tr_stepFrom : sv_E := (fun i => sv_lk i fl_10, (fun i => sv_lk i kc_10, (fun _ => 0, (true, (fun pc => sv_lk pc [(13, (3, .inl n_Ki_stepFrom))], none)))))
noncomputable def kk_Tr_stepFrom : sv_K (Int32 × sv_S) := fun pc => sv_lk pc []
set_option maxRecDepth 20000 in
theorem e_Tr_stepFrom (a0 : Nat) (a1 : Int32) (a2 : Int32) (σ : sv_S) : sv_ex ev_Tr_stepFrom sv_rI kk_Tr_stepFrom cd_Tr_stepFrom 12 0 [some (.inr (.inr (some (7, a0)))), some (.inl a1), some (.inl a2)] [] σ = f_Tr_stepFrom a0 a1 a2 σ := by
  unfold f_Tr_stepFrom
  delta ev_Tr_stepFrom kk_Tr_stepFrom n_Ki_stepFrom
  generalize f_Ki_stepFrom = c0
  rfl
theorem d_Tr_stepFrom : cd_Tr_stepFrom.all (sv_dk cX10_stepFrom) = true := by decide +kernel
set_option maxRecDepth 20000 in
theorem b_Tr_stepFrom (Γ : sv_Ga) (res : Int32 × sv_S) (X : sv_Ok Γ ev_Tr_stepFrom cX10_stepFrom sv_rI res) (as : List sv_V) (σ : sv_S) (h : n_Tr_stepFrom as σ = some res) : sv_T Γ 0 (sv_e0 3 as) [] σ := by
  unfold n_Tr_stepFrom at h
  split at h
  · refine sv_run X d_Tr_stepFrom (K := kk_Tr_stepFrom) (sv_lk_all (P := fun pc (k : sv_Lo → List sv_V → sv_S → Option (Int32 × sv_S)) => ∀ lo st σ, k lo st σ = some res → sv_T Γ pc lo st σ) ?_) _ _ _ _ _ ((e_Tr_stepFrom _ _ _ _).trans h)
    clear h
    exact fun _ h => absurd h List.not_mem_nil
  · cases h
theorem a_Tr_stepFrom (as : List sv_V) (σ : sv_S) (x : Int32 × sv_S) (h : n_Tr_stepFrom as σ = some x) : sv_args 3 ev_Tr_stepFrom.2.2.2.1 as := by
  unfold n_Tr_stepFrom at h
  split at h
  · exact ⟨Nat.le_of_ble_eq_true rfl, fun _ v hv => by
      simp only [List.mem_cons, List.not_mem_nil, or_false] at hv
      rcases hv with rfl | rfl | rfl <;> trivial⟩
  · cases h
theorem gs_Tr_stepFrom (as : List sv_V) (σ : sv_S) (x : Option sv_V × sv_S) (h : sv_gI n_Tr_stepFrom as σ = some x) : ∃ r i as' ci q, as = sv_R r i :: as' ∧ sv_kd r i = .inl ci ∧ vwCl[ci]? = some q := by
  obtain ⟨_, _, h, -⟩ := sv_b_some h
  unfold n_Tr_stepFrom at h
  split at h
  · obtain ⟨ci, q, h1, h2⟩ := sv_kd7 _
    exact ⟨_, _, _, ci, q, rfl, h1, h2⟩
  · cases h
theorem tw_117 : Cond.superclass RX10 RX2 ∈ gw_tbl := gw_at 117 (by decide +kernel) rfl
theorem tw_429 : Cond.instanceMethod yX3_stepFrom ∈ gw_tbl := gw_at 429 (by decide +kernel) rfl
theorem tw_442 : Cond.methodLink RX10 9 ⟨RX2, "stepFrom", "(II)I"⟩ ∈ gw_tbl := gw_at 442 (by decide +kernel) rfl
theorem tw_443 : Cond.sameMethod RX2 RX3 "stepFrom" "(II)I" ∈ gw_tbl := gw_at 443 (by decide +kernel) rfl
theorem tw_445 : Cond.code yX3_stepFrom cX3_stepFrom 3 (some .int) ∈ gw_tbl := gw_at 445 (by decide +kernel) rfl
set_option maxRecDepth 20000 in
theorem m_Tr_stepFrom (l : Launch) : sv_M l yX10_stepFrom cX10_stepFrom 3 (some .int) (sv_gI n_Tr_stepFrom) 1 := by
  refine sv_mI (E := ev_Tr_stepFrom) (by decide +kernel) (ln_gen fk_10 kk_10 (sv_ns _ (fun _ => rfl) _)) rfl ?_ a_Tr_stepFrom b_Tr_stepFrom
  intro p e R s m args below meth c cells slots Q base ad dC dI cA n0 S hkn hR hf pc n f hcs
  refine sv_lk_all (P := fun pc (x : Nat × sv_F) => sv_cok p l e R s m args below meth c cells slots Q base ad dC dI cA true 3 n0 pc x.1 x.2) ?_ pc (n, f) hcs
  exact List.forall_mem_cons.mpr ⟨(sv_cU2 S hkn (x := ⟨RX2, "stepFrom", "(II)I"⟩) (m_Ki_stepFrom l) ⟨Nat.le_trans (by decide) hR.1, Nat.le_trans (by decide) hR.2⟩ (by decide) hf gs_Ki_stepFrom (sv_w7 tw_442 tw_443 tw_117 tw_103 tw_429 tw_54 tw_445) (by decide +kernel) (sv_dc3 d_Tr_stepFrom (pc := 13) rfl rfl)).I,
      fun _ h => absurd h List.not_mem_nil⟩
noncomputable def f_Sl_stepFrom (a0 : Nat) (a1 : Int32) (a2 : Int32) (σ : sv_S) : Option (Int32 × sv_S) :=
  sv_g (¬ (4 : Int32) = 0) (sv_if ((a2 - a2 / (4 : Int32) * (4 : Int32)) = (3 : Int32))
    (some (a1, σ))
    (sv_b (f_Ki_stepFrom a0 a1 a2 σ) (fun v1 σ2 =>
      some (v1, σ2))))
noncomputable def n_Sl_stepFrom : List sv_V → sv_S → Option (Int32 × sv_S)
  | [.inr (.inr (some (7, a0))), .inl a1, .inl a2], σ => f_Sl_stepFrom a0 a1 a2 σ
  | _, _ => none
def cd_Sl_stepFrom : sv_C := [(0, (.iload_n 2, (sv_N, (1, (0, []))))), (1, (.iconst 4, (.inl (4 : Int32), (2, (0, []))))), (2, (.irem, (sv_N, (3, (0, []))))), (3, (.iconst 3, (.inl (3 : Int32), (4, (0, []))))), (4, (.if_icmp .ne 7, (sv_N, (7, (11, []))))), (7, (.iload_n 1, (sv_N, (8, (0, []))))), (8, (.goto 9, (sv_N, (11, (17, []))))), (11, (.aload_n 0, (sv_N, (12, (0, []))))), (12, (.iload_n 1, (sv_N, (13, (0, []))))), (13, (.iload_n 2, (sv_N, (14, (0, []))))), (14, (.invokespecial 7, (sv_N, (17, (0, []))))), (17, (.ireturn, (sv_N, (18, (0, [])))))]
noncomputable def ev_Sl_stepFrom : sv_E := (fun i => sv_lk i fl_7, (fun i => sv_lk i kc_7, (fun _ => 0, (true, (fun pc => sv_lk pc [(14, (3, .inl n_Ki_stepFrom))], none)))))
noncomputable def kk_Sl_stepFrom : sv_K (Int32 × sv_S) := fun pc => sv_lk pc []
set_option maxRecDepth 20000 in
theorem e_Sl_stepFrom (a0 : Nat) (a1 : Int32) (a2 : Int32) (σ : sv_S) : sv_ex ev_Sl_stepFrom sv_rI kk_Sl_stepFrom cd_Sl_stepFrom 14 0 [some (.inr (.inr (some (7, a0)))), some (.inl a1), some (.inl a2)] [] σ = f_Sl_stepFrom a0 a1 a2 σ := by
  unfold f_Sl_stepFrom
  delta ev_Sl_stepFrom kk_Sl_stepFrom n_Ki_stepFrom
  generalize f_Ki_stepFrom = c0
  rfl
theorem d_Sl_stepFrom : cd_Sl_stepFrom.all (sv_dk cX7_stepFrom) = true := by decide +kernel
set_option maxRecDepth 20000 in
theorem b_Sl_stepFrom (Γ : sv_Ga) (res : Int32 × sv_S) (X : sv_Ok Γ ev_Sl_stepFrom cX7_stepFrom sv_rI res) (as : List sv_V) (σ : sv_S) (h : n_Sl_stepFrom as σ = some res) : sv_T Γ 0 (sv_e0 3 as) [] σ := by
  unfold n_Sl_stepFrom at h
  split at h
  · refine sv_run X d_Sl_stepFrom (K := kk_Sl_stepFrom) (sv_lk_all (P := fun pc (k : sv_Lo → List sv_V → sv_S → Option (Int32 × sv_S)) => ∀ lo st σ, k lo st σ = some res → sv_T Γ pc lo st σ) ?_) _ _ _ _ _ ((e_Sl_stepFrom _ _ _ _).trans h)
    clear h
    exact fun _ h => absurd h List.not_mem_nil
  · cases h
theorem a_Sl_stepFrom (as : List sv_V) (σ : sv_S) (x : Int32 × sv_S) (h : n_Sl_stepFrom as σ = some x) : sv_args 3 ev_Sl_stepFrom.2.2.2.1 as := by
  unfold n_Sl_stepFrom at h
  split at h
  · exact ⟨Nat.le_of_ble_eq_true rfl, fun _ v hv => by
      simp only [List.mem_cons, List.not_mem_nil, or_false] at hv
      rcases hv with rfl | rfl | rfl <;> trivial⟩
  · cases h
theorem gs_Sl_stepFrom (as : List sv_V) (σ : sv_S) (x : Option sv_V × sv_S) (h : sv_gI n_Sl_stepFrom as σ = some x) : ∃ r i as' ci q, as = sv_R r i :: as' ∧ sv_kd r i = .inl ci ∧ vwCl[ci]? = some q := by
  obtain ⟨_, _, h, -⟩ := sv_b_some h
  unfold n_Sl_stepFrom at h
  split at h
  · obtain ⟨ci, q, h1, h2⟩ := sv_kd7 _
    exact ⟨_, _, _, ci, q, rfl, h1, h2⟩
  · cases h
theorem tw_431 : Cond.sameMethod RX3 RX3 "stepFrom" "(II)I" ∈ gw_tbl := gw_at 431 (by decide +kernel) rfl
theorem tw_437 : Cond.methodLink RX7 7 yX3_stepFrom ∈ gw_tbl := gw_at 437 (by decide +kernel) rfl
set_option maxRecDepth 20000 in
theorem m_Sl_stepFrom (l : Launch) : sv_M l yX7_stepFrom cX7_stepFrom 3 (some .int) (sv_gI n_Sl_stepFrom) 1 := by
  refine sv_mI (E := ev_Sl_stepFrom) (by decide +kernel) (ln_gen fk_7 kk_7 (sv_ns _ (fun _ => rfl) _)) rfl ?_ a_Sl_stepFrom b_Sl_stepFrom
  intro p e R s m args below meth c cells slots Q base ad dC dI cA n0 S hkn hR hf pc n f hcs
  refine sv_lk_all (P := fun pc (x : Nat × sv_F) => sv_cok p l e R s m args below meth c cells slots Q base ad dC dI cA true 3 n0 pc x.1 x.2) ?_ pc (n, f) hcs
  exact List.forall_mem_cons.mpr ⟨(sv_cU S hkn (m_Ki_stepFrom l) ⟨Nat.le_trans (by decide) hR.1, Nat.le_trans (by decide) hR.2⟩ (by decide) hf gs_Ki_stepFrom (sv_w6 tw_437 tw_431 tw_96 tw_429 tw_54 tw_445) (by decide +kernel) (sv_dc3 d_Sl_stepFrom (pc := 14) rfl rfl)).I,
      fun _ h => absurd h List.not_mem_nil⟩
noncomputable def f_k_stepFrom (a0 : Nat) (a1 : Int32) (a2 : Int32) (σ : sv_S) : Option (Int32 × sv_S) := match a0 with
  | 0 => f_Ki_stepFrom 0 a1 a2 σ
  | 1 => f_Sl_stepFrom 1 a1 a2 σ
  | 2 => f_Ki_stepFrom 2 a1 a2 σ
  | 3 => f_Sl_stepFrom 3 a1 a2 σ
  | 4 => f_Tr_stepFrom 4 a1 a2 σ
  | 5 => f_Ki_stepFrom 5 a1 a2 σ
  | _ => none
noncomputable def n_k_stepFrom : List sv_V → sv_S → Option (Int32 × sv_S)
  | [.inr (.inr (some (7, a0))), .inl a1, .inl a2], σ => f_k_stepFrom a0 a1 a2 σ
  | _, _ => none
theorem dp_stepFrom (P : sv_D → Prop) (g0 : P (sv_a7 0 (sv_gI n_Ki_stepFrom))) (g1 : P (sv_a7 1 (sv_gI n_Sl_stepFrom))) (g2 : P (sv_a7 2 (sv_gI n_Ki_stepFrom))) (g3 : P (sv_a7 3 (sv_gI n_Sl_stepFrom))) (g4 : P (sv_a7 4 (sv_gI n_Tr_stepFrom))) (g5 : P (sv_a7 5 (sv_gI n_Ki_stepFrom))) : ∀ as σ x, sv_gI n_k_stepFrom as σ = some x → ∃ G', G' as σ = some x ∧ P G' := by
  intro as σ x h
  obtain ⟨v, τ, h1, h2⟩ := sv_b_some h
  unfold n_k_stepFrom at h1
  split at h1
  · unfold f_k_stepFrom at h1
    split at h1
    · exact ⟨_, sv_a7_of (G := sv_gI n_Ki_stepFrom) (sv_gI_of (F := n_Ki_stepFrom) h1 h2), g0⟩
    · exact ⟨_, sv_a7_of (G := sv_gI n_Sl_stepFrom) (sv_gI_of (F := n_Sl_stepFrom) h1 h2), g1⟩
    · exact ⟨_, sv_a7_of (G := sv_gI n_Ki_stepFrom) (sv_gI_of (F := n_Ki_stepFrom) h1 h2), g2⟩
    · exact ⟨_, sv_a7_of (G := sv_gI n_Sl_stepFrom) (sv_gI_of (F := n_Sl_stepFrom) h1 h2), g3⟩
    · exact ⟨_, sv_a7_of (G := sv_gI n_Tr_stepFrom) (sv_gI_of (F := n_Tr_stepFrom) h1 h2), g4⟩
    · exact ⟨_, sv_a7_of (G := sv_gI n_Ki_stepFrom) (sv_gI_of (F := n_Ki_stepFrom) h1 h2), g5⟩
    · cases h1
  · cases h1
noncomputable def f_Li_nextCount (a0 : Nat) (a1 : Int32) (a2 : Int32) (σ : sv_S) : Option (Int32 × sv_S) :=
  sv_g (sv_in a1 (sv_ln 3 a0 σ)) (sv_if ((σ 2 (10 * a0 + (a1.toNatClampNeg)) 2) = 0)
    (sv_if (a2 = 0)
      (some ((0 : Int32), σ))
      (sv_b (f_Li_wakesTo a0 a1 σ) (fun v1 σ2 =>
        some (v1, σ2))))
    (sv_b (f_Li_draw a0 σ) (fun v3 σ4 =>
      sv_g (¬ (100 : Int32) = 0) (sv_if ((σ4 1 a0 6) ≤ (v3 - v3 / (100 : Int32) * (100 : Int32)))
        (sv_b (f_Li_kindOf a0 (10 * a0 + (a1.toNatClampNeg)) σ4) (fun i5 σ6 =>
          sv_b (f_k_stepFrom i5 (σ6 2 (10 * a0 + (a1.toNatClampNeg)) 2) (σ6 1 a0 5) σ6) (fun v7 σ8 =>
            some (v7, σ8))))
        (some (σ4 2 (10 * a0 + (a1.toNatClampNeg)) 2, σ4))))))
noncomputable def n_Li_nextCount : List sv_V → sv_S → Option (Int32 × sv_S)
  | [.inr (.inr (some (1, a0))), .inl a1, .inl a2], σ => f_Li_nextCount a0 a1 a2 σ
  | _, _ => none
def cd_Li_nextCount : sv_C := [(0, (.aload_n 0, (sv_N, (1, (0, []))))), (1, (.getfield 17, (sv_N, (4, (0, []))))), (4, (.iload_n 1, (sv_N, (5, (0, []))))), (5, (.aaload, (sv_N, (6, (0, []))))), (6, (.astore_n 3, (sv_N, (7, (0, []))))), (7, (.aload_n 3, (sv_N, (8, (0, []))))), (8, (.getfield 117, (sv_N, (11, (0, []))))), (11, (.ifCond .ne 17, (sv_N, (14, (28, []))))), (14, (.iload_n 2, (sv_N, (15, (0, []))))), (15, (.ifCond .eq 11, (sv_N, (18, (26, []))))), (18, (.aload_n 0, (sv_N, (19, (0, []))))), (19, (.iload_n 1, (sv_N, (20, (0, []))))), (20, (.invokevirtual 114, (sv_N, (23, (0, []))))), (23, (.goto 4, (sv_N, (26, (27, []))))), (26, (.iconst 0, (.inl (0 : Int32), (27, (0, []))))), (27, (.ireturn, (sv_N, (28, (0, []))))), (28, (.aload_n 0, (sv_N, (29, (0, []))))), (29, (.invokevirtual 132, (sv_N, (32, (0, []))))), (32, (.bipush 100, (.inl (100 : Int32), (34, (0, []))))), (34, (.irem, (sv_N, (35, (0, []))))), (35, (.aload_n 0, (sv_N, (36, (0, []))))), (36, (.getfield 48, (sv_N, (39, (0, []))))), (39, (.if_icmp .ge 8, (sv_N, (42, (47, []))))), (42, (.aload_n 3, (sv_N, (43, (0, []))))), (43, (.getfield 117, (sv_N, (46, (0, []))))), (46, (.ireturn, (sv_N, (47, (0, []))))), (47, (.aload_n 0, (sv_N, (48, (0, []))))), (48, (.aload_n 3, (sv_N, (49, (0, []))))), (49, (.invokevirtual 105, (sv_N, (52, (0, []))))), (52, (.aload_n 3, (sv_N, (53, (0, []))))), (53, (.getfield 117, (sv_N, (56, (0, []))))), (56, (.aload_n 0, (sv_N, (57, (0, []))))), (57, (.getfield 45, (sv_N, (60, (0, []))))), (60, (.invokevirtual 136, (sv_N, (63, (0, []))))), (63, (.ireturn, (sv_N, (64, (0, [])))))]
noncomputable def ev_Li_nextCount : sv_E := (fun i => sv_lk i fl_5, (fun i => sv_lk i kc_5, (fun _ => 0, (true, (fun pc => sv_lk pc [(20, (2, .inl n_Li_wakesTo)), (29, (1, .inl n_Li_draw)), (49, (2, .inr (.inr (.inl (7, n_Li_kindOf))))), (60, (3, .inl n_k_stepFrom))], none)))))
noncomputable def kk_Li_nextCount : sv_K (Int32 × sv_S) := fun pc => sv_lk pc []
set_option maxRecDepth 20000 in
theorem e_Li_nextCount (a0 : Nat) (a1 : Int32) (a2 : Int32) (σ : sv_S) : sv_ex ev_Li_nextCount sv_rI kk_Li_nextCount cd_Li_nextCount 37 0 [some (.inr (.inr (some (1, a0)))), some (.inl a1), some (.inl a2), none] [] σ = f_Li_nextCount a0 a1 a2 σ := by
  unfold f_Li_nextCount
  delta ev_Li_nextCount kk_Li_nextCount n_Li_wakesTo n_Li_draw n_Li_kindOf n_k_stepFrom
  generalize f_Li_wakesTo = c0
  generalize f_Li_draw = c1
  generalize f_Li_kindOf = c2
  generalize f_k_stepFrom = c3
  rfl
theorem d_Li_nextCount : cd_Li_nextCount.all (sv_dk cX5_nextCount) = true := by decide +kernel
set_option maxRecDepth 20000 in
theorem b_Li_nextCount (Γ : sv_Ga) (res : Int32 × sv_S) (X : sv_Ok Γ ev_Li_nextCount cX5_nextCount sv_rI res) (as : List sv_V) (σ : sv_S) (h : n_Li_nextCount as σ = some res) : sv_T Γ 0 (sv_e0 4 as) [] σ := by
  unfold n_Li_nextCount at h
  split at h
  · refine sv_run X d_Li_nextCount (K := kk_Li_nextCount) (sv_lk_all (P := fun pc (k : sv_Lo → List sv_V → sv_S → Option (Int32 × sv_S)) => ∀ lo st σ, k lo st σ = some res → sv_T Γ pc lo st σ) ?_) _ _ _ _ _ ((e_Li_nextCount _ _ _ _).trans h)
    clear h
    exact fun _ h => absurd h List.not_mem_nil
  · cases h
theorem a_Li_nextCount (as : List sv_V) (σ : sv_S) (x : Int32 × sv_S) (h : n_Li_nextCount as σ = some x) : sv_args 4 ev_Li_nextCount.2.2.2.1 as := by
  unfold n_Li_nextCount at h
  split at h
  · exact ⟨Nat.le_of_ble_eq_true rfl, fun _ v hv => by
      simp only [List.mem_cons, List.not_mem_nil, or_false] at hv
      rcases hv with rfl | rfl | rfl <;> trivial⟩
  · cases h
theorem g_Li_nextCount (as : List sv_V) (σ : sv_S) (x : Option sv_V × sv_S) (h : sv_gI n_Li_nextCount as σ = some x) : ∃ r i as', as = sv_R r i :: as' ∧ sv_kd r i = .inl 5 := by
  obtain ⟨_, _, h, -⟩ := sv_b_some h
  unfold n_Li_nextCount at h
  split at h
  · exact ⟨_, _, _, rfl, rfl⟩
  · cases h
theorem tw_58 : Cond.initialized RX10 ∈ gw_tbl := gw_at 58 (by decide +kernel) rfl
theorem tw_430 : Cond.selects RX3 yX3_stepFrom yX3_stepFrom ∈ gw_tbl := gw_at 430 (by decide +kernel) rfl
theorem tw_432 : Cond.selects RX0 yX3_stepFrom yX3_stepFrom ∈ gw_tbl := gw_at 432 (by decide +kernel) rfl
theorem tw_433 : Cond.selects RX2 yX3_stepFrom yX3_stepFrom ∈ gw_tbl := gw_at 433 (by decide +kernel) rfl
theorem tw_434 : Cond.selects RX4 yX3_stepFrom yX7_stepFrom ∈ gw_tbl := gw_at 434 (by decide +kernel) rfl
theorem tw_435 : Cond.instanceMethod yX7_stepFrom ∈ gw_tbl := gw_at 435 (by decide +kernel) rfl
theorem tw_436 : Cond.code yX7_stepFrom cX7_stepFrom 3 (some .int) ∈ gw_tbl := gw_at 436 (by decide +kernel) rfl
theorem tw_438 : Cond.selects RX7 yX3_stepFrom yX7_stepFrom ∈ gw_tbl := gw_at 438 (by decide +kernel) rfl
theorem tw_439 : Cond.selects RX10 yX3_stepFrom yX10_stepFrom ∈ gw_tbl := gw_at 439 (by decide +kernel) rfl
theorem tw_440 : Cond.instanceMethod yX10_stepFrom ∈ gw_tbl := gw_at 440 (by decide +kernel) rfl
theorem tw_441 : Cond.code yX10_stepFrom cX10_stepFrom 3 (some .int) ∈ gw_tbl := gw_at 441 (by decide +kernel) rfl
theorem tw_494 : Cond.instanceMethod yX5_draw ∈ gw_tbl := gw_at 494 (by decide +kernel) rfl
theorem tw_495 : Cond.selects RX5 yX5_draw yX5_draw ∈ gw_tbl := gw_at 495 (by decide +kernel) rfl
theorem tw_496 : Cond.code yX5_draw cX5_draw 1 (some .int) ∈ gw_tbl := gw_at 496 (by decide +kernel) rfl
theorem tw_538 : Cond.methodLink RX5 132 yX5_draw ∈ gw_tbl := gw_at 538 (by decide +kernel) rfl
theorem tw_539 : Cond.methodLink RX5 136 yX3_stepFrom ∈ gw_tbl := gw_at 539 (by decide +kernel) rfl
set_option maxRecDepth 20000 in
theorem m_Li_nextCount (l : Launch) : sv_M l yX5_nextCount cX5_nextCount 4 (some .int) (sv_gI n_Li_nextCount) 3 := by
  refine sv_mI (E := ev_Li_nextCount) (by decide +kernel) (ln_gen fk_5 kk_5 (sv_ns _ (fun _ => rfl) _)) rfl ?_ a_Li_nextCount b_Li_nextCount
  intro p e R s m args below meth c cells slots Q base ad dC dI cA n0 S hkn hR hf pc n f hcs
  refine sv_lk_all (P := fun pc (x : Nat × sv_F) => sv_cok p l e R s m args below meth c cells slots Q base ad dC dI cA true 4 n0 pc x.1 x.2) ?_ pc (n, f) hcs
  exact List.forall_mem_cons.mpr ⟨(sv_cV S hkn (m_Li_wakesTo l) ⟨Nat.le_trans (by decide) hR.1, Nat.le_trans (by decide) hR.2⟩ (by decide) hf rfl (g_Li_wakesTo) (sv_w5 tw_511 tw_397 tw_398 tw_60 tw_399) (by decide +kernel) (sv_dc3 d_Li_nextCount (pc := 20) rfl rfl)).I,
      List.forall_mem_cons.mpr ⟨(sv_cV S hkn (m_Li_draw l) ⟨Nat.le_trans (by decide) hR.1, Nat.le_trans (by decide) hR.2⟩ (by decide) hf rfl (g_Li_draw) (sv_w5 tw_538 tw_494 tw_495 tw_60 tw_496) (by decide +kernel) (sv_dc3 d_Li_nextCount (pc := 29) rfl rfl)).I,
      List.forall_mem_cons.mpr ⟨(sv_cV S hkn (m_Li_kindOf l) ⟨Nat.le_trans (by decide) hR.1, Nat.le_trans (by decide) hR.2⟩ (by decide) hf rfl (g_Li_kindOf) (sv_w5 tw_407 tw_354 tw_355 tw_60 tw_356) (by decide +kernel) (sv_dc3 d_Li_nextCount (pc := 49) rfl rfl)).Rf,
      List.forall_mem_cons.mpr ⟨(sv_cg.of (dp_stepFrom (fun G => sv_cg p l e R s m args below meth c cells slots Q base ad dC dI cA _ _ n0 60 3 G)
        (sv_cD S hkn (x := yX3_stepFrom) (owner := RX3) (q := (RX3, TX3, 0)) (sv_M.sub (m_Ki_stepFrom l) sv_a7_sub) hf (ci := 3) rfl (fun as σ x h => by obtain ⟨as', e⟩ := sv_a7_at (j := 0) as σ x h; exact ⟨7, 0, as', e, rfl⟩) (sv_cwI S ⟨Nat.le_trans (by decide) hR.1, Nat.le_trans (by decide) hR.2⟩ (by decide) rfl (sv_w6 tw_539 tw_431 tw_430 tw_429 tw_54 tw_445) (by decide +kernel)) (sv_dc3 d_Li_nextCount (pc := 60) rfl rfl))
        (sv_cD S hkn (x := yX3_stepFrom) (owner := RX3) (q := (RX7, TX7, 0)) (sv_M.sub (m_Sl_stepFrom l) sv_a7_sub) hf (ci := 7) rfl (fun as σ x h => by obtain ⟨as', e⟩ := sv_a7_at (j := 1) as σ x h; exact ⟨7, 1, as', e, rfl⟩) (sv_cwO S ⟨Nat.le_trans (by decide) hR.1, Nat.le_trans (by decide) hR.2⟩ (by decide) (sv_w7 tw_539 tw_431 tw_429 tw_438 tw_435 tw_55 tw_436) tw_445 (by decide +kernel)) (sv_dc3 d_Li_nextCount (pc := 60) rfl rfl))
        (sv_cD S hkn (x := yX3_stepFrom) (owner := RX3) (q := (RX2, TX2, 0)) (sv_M.sub (m_Ki_stepFrom l) sv_a7_sub) hf (ci := 2) rfl (fun as σ x h => by obtain ⟨as', e⟩ := sv_a7_at (j := 2) as σ x h; exact ⟨7, 2, as', e, rfl⟩) (sv_cwI S ⟨Nat.le_trans (by decide) hR.1, Nat.le_trans (by decide) hR.2⟩ (by decide) rfl (sv_w6 tw_539 tw_431 tw_433 tw_429 tw_54 tw_445) (by decide +kernel)) (sv_dc3 d_Li_nextCount (pc := 60) rfl rfl))
        (sv_cD S hkn (x := yX3_stepFrom) (owner := RX3) (q := (RX4, TX4, 0)) (sv_M.sub (m_Sl_stepFrom l) sv_a7_sub) hf (ci := 4) rfl (fun as σ x h => by obtain ⟨as', e⟩ := sv_a7_at (j := 3) as σ x h; exact ⟨7, 3, as', e, rfl⟩) (sv_cwO S ⟨Nat.le_trans (by decide) hR.1, Nat.le_trans (by decide) hR.2⟩ (by decide) (sv_w7 tw_539 tw_431 tw_429 tw_434 tw_435 tw_55 tw_436) tw_445 (by decide +kernel)) (sv_dc3 d_Li_nextCount (pc := 60) rfl rfl))
        (sv_cD S hkn (x := yX3_stepFrom) (owner := RX3) (q := (RX10, TX10, 0)) (sv_M.sub (m_Tr_stepFrom l) sv_a7_sub) hf (ci := 10) rfl (fun as σ x h => by obtain ⟨as', e⟩ := sv_a7_at (j := 4) as σ x h; exact ⟨7, 4, as', e, rfl⟩) (sv_cwO S ⟨Nat.le_trans (by decide) hR.1, Nat.le_trans (by decide) hR.2⟩ (by decide) (sv_w7 tw_539 tw_431 tw_429 tw_439 tw_440 tw_58 tw_441) tw_445 (by decide +kernel)) (sv_dc3 d_Li_nextCount (pc := 60) rfl rfl))
        (sv_cD S hkn (x := yX3_stepFrom) (owner := RX3) (q := (RX0, TX0, 0)) (sv_M.sub (m_Ki_stepFrom l) sv_a7_sub) hf (ci := 0) rfl (fun as σ x h => by obtain ⟨as', e⟩ := sv_a7_at (j := 5) as σ x h; exact ⟨7, 5, as', e, rfl⟩) (sv_cwI S ⟨Nat.le_trans (by decide) hR.1, Nat.le_trans (by decide) hR.2⟩ (by decide) rfl (sv_w6 tw_539 tw_431 tw_432 tw_429 tw_54 tw_445) (by decide +kernel)) (sv_dc3 d_Li_nextCount (pc := 60) rfl rfl)))).I,
      fun _ h => absurd h List.not_mem_nil⟩⟩⟩⟩
