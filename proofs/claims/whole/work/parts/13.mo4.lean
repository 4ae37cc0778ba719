noncomputable def n_h_part0 (o1 : Int32 → sv_S → Option (Int32 × sv_S)) : List sv_V → sv_S → Option (Int32 × sv_S)
  | [.inr (.inr (some (30, 0))), .inl a1], σ => o1 a1 σ
  | _, _ => none
theorem gh_part0 (o1 : Int32 → sv_S → Option (Int32 × sv_S)) (as : List sv_V) (σ : sv_S) (x : Option sv_V × sv_S) (h : sv_gI (n_h_part0 o1) as σ = some x) : ∃ r i as', as = sv_R r i :: as' ∧ sv_kd r i = .inl 12 := by
  obtain ⟨_, _, h, -⟩ := sv_b_some h
  unfold n_h_part0 at h
  split at h
  · exact ⟨_, _, _, rfl, rfl⟩
  · cases h
noncomputable def f_Mo_term_28 (o1 : Int32 → sv_S → Option (Int32 × sv_S)) (k10 : Int32 → sv_S → Option (Int32 × sv_S)) (x1 : Int32) (σ : sv_S) : Option (Int32 × sv_S) :=
    sv_b0 (f_Mo_nextToken σ) (fun σ1 =>
      sv_b (o1 x1 σ1) (fun v2 σ3 =>
        sv_if (v2 = 0)
          (sv_g ((0 : Int32) = 0 ∨ (0 : Int32) = 1) (some ((0 : Int32), σ3)))
          (sv_b0 (f_Mo_step (2 : Int32) (σ 30 0 22) σ3) (fun σ4 =>
            k10 x1 σ4))))
noncomputable def f_Mo_term_10 (o1 : Int32 → sv_S → Option (Int32 × sv_S)) : Nat → Int32 → sv_S → Option (Int32 × sv_S)
  | 0, _, _ => none
  | n + 1, x1, σ =>
    sv_b (f_Mo_isSign (42 : Int32) σ) (fun v1 σ2 =>
      sv_if (v1 = 0)
        (sv_b (f_Mo_isSign (47 : Int32) σ2) (fun v3 σ4 =>
          sv_if (v3 = 0)
            (sv_g ((1 : Int32) = 0 ∨ (1 : Int32) = 1) (some ((1 : Int32), σ4)))
            (f_Mo_term_28 o1 (f_Mo_term_10 o1 n) x1 σ4)))
        (f_Mo_term_28 o1 (f_Mo_term_10 o1 n) x1 σ2))
noncomputable def f_Mo_term (o1 : Int32 → sv_S → Option (Int32 × sv_S)) (a1 : Int32) (σ : sv_S) : Option (Int32 × sv_S) :=
  sv_b (o1 a1 σ) (fun v1 σ2 =>
    sv_if (v1 = 0)
      (sv_g ((0 : Int32) = 0 ∨ (0 : Int32) = 1) (some ((0 : Int32), σ2)))
      (f_Mo_term_10 o1 sv_fu a1 σ2))
noncomputable def n_Mo_term (o1 : Int32 → sv_S → Option (Int32 × sv_S)) : List sv_V → sv_S → Option (Int32 × sv_S)
  | [.inr (.inr (some (30, 0))), .inl a1], σ => f_Mo_term o1 a1 σ
  | _, _ => none
def cd_Mo_term : sv_C := [(0, (.aload_n 0, (sv_N, (1, (0, []))))), (1, (.iload_n 1, (sv_N, (2, (0, []))))), (2, (.invokevirtual 264, (sv_N, (5, (0, []))))), (5, (.ifCond .ne 5, (sv_N, (8, (10, []))))), (8, (.iconst 0, (.inl (0 : Int32), (9, (0, []))))), (9, (.ireturn, (sv_N, (10, (0, []))))), (10, (.aload_n 0, (sv_N, (11, (0, []))))), (11, (.bipush 42, (.inl (42 : Int32), (13, (0, []))))), (13, (.invokevirtual 246, (sv_N, (16, (0, []))))), (16, (.ifCond .ne 12, (sv_N, (19, (28, []))))), (19, (.aload_n 0, (sv_N, (20, (0, []))))), (20, (.bipush 47, (.inl (47 : Int32), (22, (0, []))))), (22, (.invokevirtual 246, (sv_N, (25, (0, []))))), (25, (.ifCond .eq 31, (sv_N, (28, (56, []))))), (28, (.aload_n 0, (sv_N, (29, (0, []))))), (29, (.getfield 220, (sv_N, (32, (0, []))))), (32, (.istore_n 2, (sv_N, (33, (0, []))))), (33, (.aload_n 0, (sv_N, (34, (0, []))))), (34, (.invokevirtual 249, (sv_N, (37, (0, []))))), (37, (.aload_n 0, (sv_N, (38, (0, []))))), (38, (.iload_n 1, (sv_N, (39, (0, []))))), (39, (.invokevirtual 264, (sv_N, (42, (0, []))))), (42, (.ifCond .ne 5, (sv_N, (45, (47, []))))), (45, (.iconst 0, (.inl (0 : Int32), (46, (0, []))))), (46, (.ireturn, (sv_N, (47, (0, []))))), (47, (.aload_n 0, (sv_N, (48, (0, []))))), (48, (.iconst 2, (.inl (2 : Int32), (49, (0, []))))), (49, (.iload_n 2, (sv_N, (50, (0, []))))), (50, (.invokevirtual 252, (sv_N, (53, (0, []))))), (53, (.goto (-43), (sv_N, (56, (10, []))))), (56, (.iconst 1, (.inl (1 : Int32), (57, (0, []))))), (57, (.ireturn, (sv_N, (58, (0, [])))))]
noncomputable def ev_Mo_term (o1 : Int32 → sv_S → Option (Int32 × sv_S)) : sv_E := (fun i => sv_lk i fl_12, (fun i => sv_lk i kc_12, (fun _ => 0, (true, (fun pc => sv_lk pc [(2, (2, .inl (n_h_part0 o1))), (13, (2, .inl n_Mo_isSign)), (22, (2, .inl n_Mo_isSign)), (34, (1, .inr (.inl n_Mo_nextToken))), (39, (2, .inl (n_h_part0 o1))), (50, (3, .inr (.inl n_Mo_step)))], none)))))
noncomputable def kk_Mo_term_28 (o1 : Int32 → sv_S → Option (Int32 × sv_S)) (k10 : Int32 → sv_S → Option (Int32 × sv_S)) : sv_K (Int32 × sv_S) := fun pc => sv_lk pc [(10, fun lo st σ => match lo, st with
    | [some (.inr (.inr (some (30, 0)))), some (.inl x1), _], [] => k10 x1 σ
    | _, _ => none)]
set_option maxRecDepth 20000 in
theorem e_Mo_term_28 (o1 : Int32 → sv_S → Option (Int32 × sv_S)) (k10 : Int32 → sv_S → Option (Int32 × sv_S)) (x1 : Int32) (z2 : Option sv_V) (σ : sv_S) : sv_ex (ev_Mo_term o1) sv_rZ (kk_Mo_term_28 o1 k10) cd_Mo_term 34 28 [some (.inr (.inr (some (30, 0)))), some (.inl x1), z2] [] σ = f_Mo_term_28 o1 k10 x1 σ := by
  unfold f_Mo_term_28
  delta ev_Mo_term kk_Mo_term_28 n_h_part0 n_Mo_isSign n_Mo_nextToken n_Mo_step
  generalize f_Mo_isSign = c0
  generalize f_Mo_nextToken = c1
  generalize f_Mo_step = c2
  generalize f_Mo_term_10 = c3
  rfl
noncomputable def kk_Mo_term_10 (o1 : Int32 → sv_S → Option (Int32 × sv_S)) (n : Nat) : sv_K (Int32 × sv_S) := fun pc => sv_lk pc [(28, fun lo st σ => match lo, st with
    | [some (.inr (.inr (some (30, 0)))), some (.inl x1), _], [] => f_Mo_term_28 o1 (f_Mo_term_10 o1 n) x1 σ
    | _, _ => none)]
set_option maxRecDepth 20000 in
theorem e_Mo_term_10 (o1 : Int32 → sv_S → Option (Int32 × sv_S)) (n : Nat) (x1 : Int32) (z2 : Option sv_V) (σ : sv_S) : sv_ex (ev_Mo_term o1) sv_rZ (kk_Mo_term_10 o1 n) cd_Mo_term 34 10 [some (.inr (.inr (some (30, 0)))), some (.inl x1), z2] [] σ = f_Mo_term_10 o1 (n + 1) x1 σ := by
  rw [f_Mo_term_10.eq_2]
  delta ev_Mo_term kk_Mo_term_10 n_h_part0 n_Mo_isSign n_Mo_nextToken n_Mo_step
  generalize f_Mo_isSign = c0
  generalize f_Mo_nextToken = c1
  generalize f_Mo_step = c2
  generalize f_Mo_term_28 = c3
  generalize f_Mo_term_10 = c4
  rfl
noncomputable def kk_Mo_term (o1 : Int32 → sv_S → Option (Int32 × sv_S)) : sv_K (Int32 × sv_S) := fun pc => sv_lk pc [(10, fun lo st σ => match lo, st with
    | [some (.inr (.inr (some (30, 0)))), some (.inl x1), _], [] => f_Mo_term_10 o1 sv_fu x1 σ
    | _, _ => none)]
set_option maxRecDepth 20000 in
theorem e_Mo_term (o1 : Int32 → sv_S → Option (Int32 × sv_S)) (a1 : Int32) (σ : sv_S) : sv_ex (ev_Mo_term o1) sv_rZ (kk_Mo_term o1) cd_Mo_term 34 0 [some (.inr (.inr (some (30, 0)))), some (.inl a1), none] [] σ = f_Mo_term o1 a1 σ := by
  unfold f_Mo_term
  delta ev_Mo_term kk_Mo_term n_h_part0 n_Mo_isSign n_Mo_nextToken n_Mo_step
  generalize f_Mo_isSign = c0
  generalize f_Mo_nextToken = c1
  generalize f_Mo_step = c2
  generalize f_Mo_term_10 = c3
  rfl
theorem d_Mo_term : cd_Mo_term.all (sv_dk cX12_term) = true := by decide +kernel
set_option maxRecDepth 20000 in
theorem w_Mo_term_28 {Γ : sv_Ga} {res : Int32 × sv_S} (o1 : Int32 → sv_S → Option (Int32 × sv_S)) (X : sv_Ok Γ (ev_Mo_term o1) cX12_term sv_rZ res) (k10 : Int32 → sv_S → Option (Int32 × sv_S)) (h10 : ∀ (x1 : Int32) (z2 : Option sv_V) (σ : sv_S), k10 x1 σ = some res → sv_T Γ 10 [some (.inr (.inr (some (30, 0)))), some (.inl x1), z2] [] σ) : ∀ (x1 : Int32) (z2 : Option sv_V) (σ : sv_S), f_Mo_term_28 o1 k10 x1 σ = some res → sv_T Γ 28 [some (.inr (.inr (some (30, 0)))), some (.inl x1), z2] [] σ := by
  intro x1 z2 σ h
  refine sv_run X d_Mo_term (K := kk_Mo_term_28 o1 k10) (sv_lk_all (P := fun pc (k : sv_Lo → List sv_V → sv_S → Option (Int32 × sv_S)) => ∀ lo st σ, k lo st σ = some res → sv_T Γ pc lo st σ) ?_) _ _ _ _ _ ((e_Mo_term_28 o1 k10 x1 z2 σ).trans h)
  clear h
  refine List.forall_mem_cons.mpr ⟨fun lo st σ h => ?_, fun _ h => absurd h List.not_mem_nil⟩
  · dsimp only at h
    split at h
    · exact h10 _ _ _ h
    · cases h

set_option maxRecDepth 20000 in
theorem w_Mo_term_10 {Γ : sv_Ga} {res : Int32 × sv_S} (o1 : Int32 → sv_S → Option (Int32 × sv_S)) (X : sv_Ok Γ (ev_Mo_term o1) cX12_term sv_rZ res) : ∀ (n : Nat) (x1 : Int32) (z2 : Option sv_V) (σ : sv_S), f_Mo_term_10 o1 n x1 σ = some res → sv_T Γ 10 [some (.inr (.inr (some (30, 0)))), some (.inl x1), z2] [] σ := by
  intro n
  induction n with
  | zero =>
    intro x1 z2 σ h
    rw [f_Mo_term_10.eq_1] at h
    cases h
  | succ n ih =>
    intro x1 z2 σ h
    refine sv_run X d_Mo_term (K := kk_Mo_term_10 o1 n) (sv_lk_all (P := fun pc (k : sv_Lo → List sv_V → sv_S → Option (Int32 × sv_S)) => ∀ lo st σ, k lo st σ = some res → sv_T Γ pc lo st σ) ?_) _ _ _ _ _ ((e_Mo_term_10 o1 n x1 z2 σ).trans h)
    clear h
    refine List.forall_mem_cons.mpr ⟨fun lo st σ h => ?_, fun _ h => absurd h List.not_mem_nil⟩
    · dsimp only at h
      split at h
      · exact w_Mo_term_28 o1 X _ ih _ _ _ h
      · cases h

set_option maxRecDepth 20000 in
theorem b_Mo_term (o1 : Int32 → sv_S → Option (Int32 × sv_S)) (Γ : sv_Ga) (res : Int32 × sv_S) (X : sv_Ok Γ (ev_Mo_term o1) cX12_term sv_rZ res) (as : List sv_V) (σ : sv_S) (h : n_Mo_term o1 as σ = some res) : sv_T Γ 0 (sv_e0 3 as) [] σ := by
  unfold n_Mo_term at h
  split at h
  · refine sv_run X d_Mo_term (K := kk_Mo_term o1) (sv_lk_all (P := fun pc (k : sv_Lo → List sv_V → sv_S → Option (Int32 × sv_S)) => ∀ lo st σ, k lo st σ = some res → sv_T Γ pc lo st σ) ?_) _ _ _ _ _ ((e_Mo_term o1 _ _).trans h)
    clear h
    refine List.forall_mem_cons.mpr ⟨fun lo st σ h => ?_, fun _ h => absurd h List.not_mem_nil⟩
    · dsimp only at h
      split at h
      · exact w_Mo_term_10 o1 X _ _ _ _ h
      · cases h
  · cases h
theorem a_Mo_term (o1 : Int32 → sv_S → Option (Int32 × sv_S)) (as : List sv_V) (σ : sv_S) (x : Int32 × sv_S) (h : n_Mo_term o1 as σ = some x) : sv_args 3 (ev_Mo_term o1).2.2.2.1 as := by
  unfold n_Mo_term at h
  split at h
  · exact ⟨Nat.le_of_ble_eq_true rfl, fun _ v hv => by
      simp only [List.mem_cons, List.not_mem_nil, or_false] at hv
      rcases hv with rfl | rfl <;> trivial⟩
  · cases h
theorem g_Mo_term (o1 : Int32 → sv_S → Option (Int32 × sv_S)) (as : List sv_V) (σ : sv_S) (x : Option sv_V × sv_S) (h : sv_gI (n_Mo_term o1) as σ = some x) : ∃ r i as', as = sv_R r i :: as' ∧ sv_kd r i = .inl 12 := by
  obtain ⟨_, _, h, -⟩ := sv_b_some h
  unfold n_Mo_term at h
  split at h
  · exact ⟨_, _, _, rfl, rfl⟩
  · cases h
theorem tw_34 : Cond.selects RX12 yX12_nextToken yX12_nextToken ∈ gw_tbl := gw_at 34 (by decide +kernel) rfl
theorem tw_45 : Cond.selects RX12 yX12_part0 yX12_part0 ∈ gw_tbl := gw_at 45 (by decide +kernel) rfl
theorem tw_46 : Cond.selects RX12 yX12_step yX12_step ∈ gw_tbl := gw_at 46 (by decide +kernel) rfl
theorem tw_47 : Cond.selects RX12 yX12_isSign yX12_isSign ∈ gw_tbl := gw_at 47 (by decide +kernel) rfl
theorem tw_1330 : Cond.methodLink RX12 249 yX12_nextToken ∈ gw_tbl := gw_at 1330 (by decide +kernel) rfl
theorem tw_1332 : Cond.instanceMethod yX12_nextToken ∈ gw_tbl := gw_at 1332 (by decide +kernel) rfl
theorem tw_1333 : Cond.code yX12_nextToken cX12_nextToken 3 none ∈ gw_tbl := gw_at 1333 (by decide +kernel) rfl
theorem tw_1378 : Cond.methodLink RX12 264 yX12_part0 ∈ gw_tbl := gw_at 1378 (by decide +kernel) rfl
theorem tw_1380 : Cond.instanceMethod yX12_part0 ∈ gw_tbl := gw_at 1380 (by decide +kernel) rfl
theorem tw_1381 : Cond.code yX12_part0 cX12_part0 2 (some .boolean) ∈ gw_tbl := gw_at 1381 (by decide +kernel) rfl
theorem tw_1382 : Cond.methodLink RX12 252 yX12_step ∈ gw_tbl := gw_at 1382 (by decide +kernel) rfl
theorem tw_1384 : Cond.instanceMethod yX12_step ∈ gw_tbl := gw_at 1384 (by decide +kernel) rfl
theorem tw_1385 : Cond.code yX12_step cX12_step 3 none ∈ gw_tbl := gw_at 1385 (by decide +kernel) rfl
theorem tw_1389 : Cond.methodLink RX12 246 yX12_isSign ∈ gw_tbl := gw_at 1389 (by decide +kernel) rfl
theorem tw_1391 : Cond.instanceMethod yX12_isSign ∈ gw_tbl := gw_at 1391 (by decide +kernel) rfl
theorem tw_1392 : Cond.code yX12_isSign cX12_isSign 2 (some .boolean) ∈ gw_tbl := gw_at 1392 (by decide +kernel) rfl
set_option maxRecDepth 20000 in
theorem m_Mo_term (l : Launch) (o1 : Int32 → sv_S → Option (Int32 × sv_S)) (h : Nat) (ho1 : sv_M l yX12_part0 cX12_part0 2 (some .boolean) (sv_gI (n_h_part0 o1)) h) : sv_M l yX12_term cX12_term 3 (some .boolean) (sv_gI (n_Mo_term o1)) (h + 3) := by
  refine sv_mZ (E := (ev_Mo_term o1)) (by decide +kernel) (ln_gen fk_12 kk_12 (sv_ns _ (fun _ => rfl) _)) rfl ?_ (a_Mo_term o1) (b_Mo_term o1)
  intro p e R s m args below meth c cells slots Q base ad dC dI cA n0 S hkn hR hf pc n f hcs
  refine sv_lk_all (P := fun pc (x : Nat × sv_F) => sv_cok p l e R s m args below meth c cells slots Q base ad dC dI cA true 3 n0 pc x.1 x.2) ?_ pc (n, f) hcs
  exact List.forall_mem_cons.mpr ⟨(sv_cV S hkn ho1 ⟨Nat.le_trans (by omega) hR.1, Nat.le_trans (by omega) hR.2⟩ (by decide) hf rfl (gh_part0 o1) (sv_w5 tw_1378 tw_1380 tw_45 tw_65 tw_1381) (by decide +kernel) (sv_dc3 d_Mo_term (pc := 2) rfl rfl)).I,
      List.forall_mem_cons.mpr ⟨(sv_cV S hkn (m_Mo_isSign l) ⟨Nat.le_trans (by omega) hR.1, Nat.le_trans (by omega) hR.2⟩ (by decide) hf rfl (g_Mo_isSign) (sv_w5 tw_1389 tw_1391 tw_47 tw_65 tw_1392) (by decide +kernel) (sv_dc3 d_Mo_term (pc := 13) rfl rfl)).I,
      List.forall_mem_cons.mpr ⟨(sv_cV S hkn (m_Mo_isSign l) ⟨Nat.le_trans (by omega) hR.1, Nat.le_trans (by omega) hR.2⟩ (by decide) hf rfl (g_Mo_isSign) (sv_w5 tw_1389 tw_1391 tw_47 tw_65 tw_1392) (by decide +kernel) (sv_dc3 d_Mo_term (pc := 22) rfl rfl)).I,
      List.forall_mem_cons.mpr ⟨(sv_cV S hkn (m_Mo_nextToken l) ⟨Nat.le_trans (by omega) hR.1, Nat.le_trans (by omega) hR.2⟩ (by decide) hf rfl (g_Mo_nextToken) (sv_w5 tw_1330 tw_1332 tw_34 tw_65 tw_1333) (by decide +kernel) (sv_dc3 d_Mo_term (pc := 34) rfl rfl)).V,
      List.forall_mem_cons.mpr ⟨(sv_cV S hkn ho1 ⟨Nat.le_trans (by omega) hR.1, Nat.le_trans (by omega) hR.2⟩ (by decide) hf rfl (gh_part0 o1) (sv_w5 tw_1378 tw_1380 tw_45 tw_65 tw_1381) (by decide +kernel) (sv_dc3 d_Mo_term (pc := 39) rfl rfl)).I,
      List.forall_mem_cons.mpr ⟨(sv_cV S hkn (m_Mo_step l) ⟨Nat.le_trans (by omega) hR.1, Nat.le_trans (by omega) hR.2⟩ (by decide) hf rfl (g_Mo_step) (sv_w5 tw_1382 tw_1384 tw_46 tw_65 tw_1385) (by decide +kernel) (sv_dc3 d_Mo_term (pc := 50) rfl rfl)).V,
      fun _ h => absurd h List.not_mem_nil⟩⟩⟩⟩⟩⟩
noncomputable def f_Mo_sum_28 (o1 : Int32 → sv_S → Option (Int32 × sv_S)) (k10 : Int32 → sv_S → Option (Int32 × sv_S)) (x1 : Int32) (σ : sv_S) : Option (Int32 × sv_S) :=
    sv_b0 (f_Mo_nextToken σ) (fun σ1 =>
      sv_b (f_Mo_term o1 x1 σ1) (fun v2 σ3 =>
        sv_if (v2 = 0)
          (sv_g ((0 : Int32) = 0 ∨ (0 : Int32) = 1) (some ((0 : Int32), σ3)))
          (sv_b0 (f_Mo_step (2 : Int32) (σ 30 0 22) σ3) (fun σ4 =>
            k10 x1 σ4))))
noncomputable def f_Mo_sum_10 (o1 : Int32 → sv_S → Option (Int32 × sv_S)) : Nat → Int32 → sv_S → Option (Int32 × sv_S)
  | 0, _, _ => none
  | n + 1, x1, σ =>
    sv_b (f_Mo_isSign (43 : Int32) σ) (fun v1 σ2 =>
      sv_if (v1 = 0)
        (sv_b (f_Mo_isSign (45 : Int32) σ2) (fun v3 σ4 =>
          sv_if (v3 = 0)
            (sv_g ((1 : Int32) = 0 ∨ (1 : Int32) = 1) (some ((1 : Int32), σ4)))
            (f_Mo_sum_28 o1 (f_Mo_sum_10 o1 n) x1 σ4)))
        (f_Mo_sum_28 o1 (f_Mo_sum_10 o1 n) x1 σ2))
noncomputable def f_Mo_sum (o1 : Int32 → sv_S → Option (Int32 × sv_S)) (a1 : Int32) (σ : sv_S) : Option (Int32 × sv_S) :=
  sv_b (f_Mo_term o1 a1 σ) (fun v1 σ2 =>
    sv_if (v1 = 0)
      (sv_g ((0 : Int32) = 0 ∨ (0 : Int32) = 1) (some ((0 : Int32), σ2)))
      (f_Mo_sum_10 o1 sv_fu a1 σ2))
noncomputable def n_Mo_sum (o1 : Int32 → sv_S → Option (Int32 × sv_S)) : List sv_V → sv_S → Option (Int32 × sv_S)
  | [.inr (.inr (some (30, 0))), .inl a1], σ => f_Mo_sum o1 a1 σ
  | _, _ => none
def cd_Mo_sum : sv_C := [(0, (.aload_n 0, (sv_N, (1, (0, []))))), (1, (.iload_n 1, (sv_N, (2, (0, []))))), (2, (.invokevirtual 261, (sv_N, (5, (0, []))))), (5, (.ifCond .ne 5, (sv_N, (8, (10, []))))), (8, (.iconst 0, (.inl (0 : Int32), (9, (0, []))))), (9, (.ireturn, (sv_N, (10, (0, []))))), (10, (.aload_n 0, (sv_N, (11, (0, []))))), (11, (.bipush 43, (.inl (43 : Int32), (13, (0, []))))), (13, (.invokevirtual 246, (sv_N, (16, (0, []))))), (16, (.ifCond .ne 12, (sv_N, (19, (28, []))))), (19, (.aload_n 0, (sv_N, (20, (0, []))))), (20, (.bipush 45, (.inl (45 : Int32), (22, (0, []))))), (22, (.invokevirtual 246, (sv_N, (25, (0, []))))), (25, (.ifCond .eq 31, (sv_N, (28, (56, []))))), (28, (.aload_n 0, (sv_N, (29, (0, []))))), (29, (.getfield 220, (sv_N, (32, (0, []))))), (32, (.istore_n 2, (sv_N, (33, (0, []))))), (33, (.aload_n 0, (sv_N, (34, (0, []))))), (34, (.invokevirtual 249, (sv_N, (37, (0, []))))), (37, (.aload_n 0, (sv_N, (38, (0, []))))), (38, (.iload_n 1, (sv_N, (39, (0, []))))), (39, (.invokevirtual 261, (sv_N, (42, (0, []))))), (42, (.ifCond .ne 5, (sv_N, (45, (47, []))))), (45, (.iconst 0, (.inl (0 : Int32), (46, (0, []))))), (46, (.ireturn, (sv_N, (47, (0, []))))), (47, (.aload_n 0, (sv_N, (48, (0, []))))), (48, (.iconst 2, (.inl (2 : Int32), (49, (0, []))))), (49, (.iload_n 2, (sv_N, (50, (0, []))))), (50, (.invokevirtual 252, (sv_N, (53, (0, []))))), (53, (.goto (-43), (sv_N, (56, (10, []))))), (56, (.iconst 1, (.inl (1 : Int32), (57, (0, []))))), (57, (.ireturn, (sv_N, (58, (0, [])))))]
noncomputable def ev_Mo_sum (o1 : Int32 → sv_S → Option (Int32 × sv_S)) : sv_E := (fun i => sv_lk i fl_12, (fun i => sv_lk i kc_12, (fun _ => 0, (true, (fun pc => sv_lk pc [(2, (2, .inl (n_Mo_term o1))), (13, (2, .inl n_Mo_isSign)), (22, (2, .inl n_Mo_isSign)), (34, (1, .inr (.inl n_Mo_nextToken))), (39, (2, .inl (n_Mo_term o1))), (50, (3, .inr (.inl n_Mo_step)))], none)))))
noncomputable def kk_Mo_sum_28 (o1 : Int32 → sv_S → Option (Int32 × sv_S)) (k10 : Int32 → sv_S → Option (Int32 × sv_S)) : sv_K (Int32 × sv_S) := fun pc => sv_lk pc [(10, fun lo st σ => match lo, st with
    | [some (.inr (.inr (some (30, 0)))), some (.inl x1), _], [] => k10 x1 σ
    | _, _ => none)]
set_option maxRecDepth 20000 in
theorem e_Mo_sum_28 (o1 : Int32 → sv_S → Option (Int32 × sv_S)) (k10 : Int32 → sv_S → Option (Int32 × sv_S)) (x1 : Int32) (z2 : Option sv_V) (σ : sv_S) : sv_ex (ev_Mo_sum o1) sv_rZ (kk_Mo_sum_28 o1 k10) cd_Mo_sum 34 28 [some (.inr (.inr (some (30, 0)))), some (.inl x1), z2] [] σ = f_Mo_sum_28 o1 k10 x1 σ := by
  unfold f_Mo_sum_28
  delta ev_Mo_sum kk_Mo_sum_28 n_Mo_term n_Mo_isSign n_Mo_nextToken n_Mo_step
  generalize f_Mo_term = c0
  generalize f_Mo_isSign = c1
  generalize f_Mo_nextToken = c2
  generalize f_Mo_step = c3
  generalize f_Mo_sum_10 = c4
  rfl
noncomputable def kk_Mo_sum_10 (o1 : Int32 → sv_S → Option (Int32 × sv_S)) (n : Nat) : sv_K (Int32 × sv_S) := fun pc => sv_lk pc [(28, fun lo st σ => match lo, st with
    | [some (.inr (.inr (some (30, 0)))), some (.inl x1), _], [] => f_Mo_sum_28 o1 (f_Mo_sum_10 o1 n) x1 σ
    | _, _ => none)]
set_option maxRecDepth 20000 in
theorem e_Mo_sum_10 (o1 : Int32 → sv_S → Option (Int32 × sv_S)) (n : Nat) (x1 : Int32) (z2 : Option sv_V) (σ : sv_S) : sv_ex (ev_Mo_sum o1) sv_rZ (kk_Mo_sum_10 o1 n) cd_Mo_sum 34 10 [some (.inr (.inr (some (30, 0)))), some (.inl x1), z2] [] σ = f_Mo_sum_10 o1 (n + 1) x1 σ := by
  rw [f_Mo_sum_10.eq_2]
  delta ev_Mo_sum kk_Mo_sum_10 n_Mo_term n_Mo_isSign n_Mo_nextToken n_Mo_step
  generalize f_Mo_term = c0
  generalize f_Mo_isSign = c1
  generalize f_Mo_nextToken = c2
  generalize f_Mo_step = c3
  generalize f_Mo_sum_28 = c4
  generalize f_Mo_sum_10 = c5
  rfl
noncomputable def kk_Mo_sum (o1 : Int32 → sv_S → Option (Int32 × sv_S)) : sv_K (Int32 × sv_S) := fun pc => sv_lk pc [(10, fun lo st σ => match lo, st with
    | [some (.inr (.inr (some (30, 0)))), some (.inl x1), _], [] => f_Mo_sum_10 o1 sv_fu x1 σ
    | _, _ => none)]
set_option maxRecDepth 20000 in
theorem e_Mo_sum (o1 : Int32 → sv_S → Option (Int32 × sv_S)) (a1 : Int32) (σ : sv_S) : sv_ex (ev_Mo_sum o1) sv_rZ (kk_Mo_sum o1) cd_Mo_sum 34 0 [some (.inr (.inr (some (30, 0)))), some (.inl a1), none] [] σ = f_Mo_sum o1 a1 σ := by
  unfold f_Mo_sum
  delta ev_Mo_sum kk_Mo_sum n_Mo_term n_Mo_isSign n_Mo_nextToken n_Mo_step
  generalize f_Mo_term = c0
  generalize f_Mo_isSign = c1
  generalize f_Mo_nextToken = c2
  generalize f_Mo_step = c3
  generalize f_Mo_sum_10 = c4
  rfl
theorem d_Mo_sum : cd_Mo_sum.all (sv_dk cX12_sum) = true := by decide +kernel
set_option maxRecDepth 20000 in
theorem w_Mo_sum_28 {Γ : sv_Ga} {res : Int32 × sv_S} (o1 : Int32 → sv_S → Option (Int32 × sv_S)) (X : sv_Ok Γ (ev_Mo_sum o1) cX12_sum sv_rZ res) (k10 : Int32 → sv_S → Option (Int32 × sv_S)) (h10 : ∀ (x1 : Int32) (z2 : Option sv_V) (σ : sv_S), k10 x1 σ = some res → sv_T Γ 10 [some (.inr (.inr (some (30, 0)))), some (.inl x1), z2] [] σ) : ∀ (x1 : Int32) (z2 : Option sv_V) (σ : sv_S), f_Mo_sum_28 o1 k10 x1 σ = some res → sv_T Γ 28 [some (.inr (.inr (some (30, 0)))), some (.inl x1), z2] [] σ := by
  intro x1 z2 σ h
  refine sv_run X d_Mo_sum (K := kk_Mo_sum_28 o1 k10) (sv_lk_all (P := fun pc (k : sv_Lo → List sv_V → sv_S → Option (Int32 × sv_S)) => ∀ lo st σ, k lo st σ = some res → sv_T Γ pc lo st σ) ?_) _ _ _ _ _ ((e_Mo_sum_28 o1 k10 x1 z2 σ).trans h)
  clear h
  refine List.forall_mem_cons.mpr ⟨fun lo st σ h => ?_, fun _ h => absurd h List.not_mem_nil⟩
  · dsimp only at h
    split at h
    · exact h10 _ _ _ h
    · cases h

set_option maxRecDepth 20000 in
theorem w_Mo_sum_10 {Γ : sv_Ga} {res : Int32 × sv_S} (o1 : Int32 → sv_S → Option (Int32 × sv_S)) (X : sv_Ok Γ (ev_Mo_sum o1) cX12_sum sv_rZ res) : ∀ (n : Nat) (x1 : Int32) (z2 : Option sv_V) (σ : sv_S), f_Mo_sum_10 o1 n x1 σ = some res → sv_T Γ 10 [some (.inr (.inr (some (30, 0)))), some (.inl x1), z2] [] σ := by
  intro n
  induction n with
  | zero =>
    intro x1 z2 σ h
    rw [f_Mo_sum_10.eq_1] at h
    cases h
  | succ n ih =>
    intro x1 z2 σ h
    refine sv_run X d_Mo_sum (K := kk_Mo_sum_10 o1 n) (sv_lk_all (P := fun pc (k : sv_Lo → List sv_V → sv_S → Option (Int32 × sv_S)) => ∀ lo st σ, k lo st σ = some res → sv_T Γ pc lo st σ) ?_) _ _ _ _ _ ((e_Mo_sum_10 o1 n x1 z2 σ).trans h)
    clear h
    refine List.forall_mem_cons.mpr ⟨fun lo st σ h => ?_, fun _ h => absurd h List.not_mem_nil⟩
    · dsimp only at h
      split at h
      · exact w_Mo_sum_28 o1 X _ ih _ _ _ h
      · cases h

set_option maxRecDepth 20000 in
theorem b_Mo_sum (o1 : Int32 → sv_S → Option (Int32 × sv_S)) (Γ : sv_Ga) (res : Int32 × sv_S) (X : sv_Ok Γ (ev_Mo_sum o1) cX12_sum sv_rZ res) (as : List sv_V) (σ : sv_S) (h : n_Mo_sum o1 as σ = some res) : sv_T Γ 0 (sv_e0 3 as) [] σ := by
  unfold n_Mo_sum at h
  split at h
  · refine sv_run X d_Mo_sum (K := kk_Mo_sum o1) (sv_lk_all (P := fun pc (k : sv_Lo → List sv_V → sv_S → Option (Int32 × sv_S)) => ∀ lo st σ, k lo st σ = some res → sv_T Γ pc lo st σ) ?_) _ _ _ _ _ ((e_Mo_sum o1 _ _).trans h)
    clear h
    refine List.forall_mem_cons.mpr ⟨fun lo st σ h => ?_, fun _ h => absurd h List.not_mem_nil⟩
    · dsimp only at h
      split at h
      · exact w_Mo_sum_10 o1 X _ _ _ _ h
      · cases h
  · cases h
theorem a_Mo_sum (o1 : Int32 → sv_S → Option (Int32 × sv_S)) (as : List sv_V) (σ : sv_S) (x : Int32 × sv_S) (h : n_Mo_sum o1 as σ = some x) : sv_args 3 (ev_Mo_sum o1).2.2.2.1 as := by
  unfold n_Mo_sum at h
  split at h
  · exact ⟨Nat.le_of_ble_eq_true rfl, fun _ v hv => by
      simp only [List.mem_cons, List.not_mem_nil, or_false] at hv
      rcases hv with rfl | rfl <;> trivial⟩
  · cases h
theorem g_Mo_sum (o1 : Int32 → sv_S → Option (Int32 × sv_S)) (as : List sv_V) (σ : sv_S) (x : Option sv_V × sv_S) (h : sv_gI (n_Mo_sum o1) as σ = some x) : ∃ r i as', as = sv_R r i :: as' ∧ sv_kd r i = .inl 12 := by
  obtain ⟨_, _, h, -⟩ := sv_b_some h
  unfold n_Mo_sum at h
  split at h
  · exact ⟨_, _, _, rfl, rfl⟩
  · cases h
theorem tw_44 : Cond.selects RX12 yX12_term yX12_term ∈ gw_tbl := gw_at 44 (by decide +kernel) rfl
theorem tw_1374 : Cond.methodLink RX12 261 yX12_term ∈ gw_tbl := gw_at 1374 (by decide +kernel) rfl
theorem tw_1376 : Cond.instanceMethod yX12_term ∈ gw_tbl := gw_at 1376 (by decide +kernel) rfl
theorem tw_1377 : Cond.code yX12_term cX12_term 3 (some .boolean) ∈ gw_tbl := gw_at 1377 (by decide +kernel) rfl
set_option maxRecDepth 20000 in
theorem m_Mo_sum (l : Launch) (o1 : Int32 → sv_S → Option (Int32 × sv_S)) (h : Nat) (ho1 : sv_M l yX12_part0 cX12_part0 2 (some .boolean) (sv_gI (n_h_part0 o1)) h) : sv_M l yX12_sum cX12_sum 3 (some .boolean) (sv_gI (n_Mo_sum o1)) (h + 4) := by
  refine sv_mZ (E := (ev_Mo_sum o1)) (by decide +kernel) (ln_gen fk_12 kk_12 (sv_ns _ (fun _ => rfl) _)) rfl ?_ (a_Mo_sum o1) (b_Mo_sum o1)
  intro p e R s m args below meth c cells slots Q base ad dC dI cA n0 S hkn hR hf pc n f hcs
  refine sv_lk_all (P := fun pc (x : Nat × sv_F) => sv_cok p l e R s m args below meth c cells slots Q base ad dC dI cA true 3 n0 pc x.1 x.2) ?_ pc (n, f) hcs
  exact List.forall_mem_cons.mpr ⟨(sv_cV S hkn (m_Mo_term l o1 h ho1) ⟨Nat.le_trans (by omega) hR.1, Nat.le_trans (by omega) hR.2⟩ (by decide) hf rfl ((g_Mo_term o1)) (sv_w5 tw_1374 tw_1376 tw_44 tw_65 tw_1377) (by decide +kernel) (sv_dc3 d_Mo_sum (pc := 2) rfl rfl)).I,
      List.forall_mem_cons.mpr ⟨(sv_cV S hkn (m_Mo_isSign l) ⟨Nat.le_trans (by omega) hR.1, Nat.le_trans (by omega) hR.2⟩ (by decide) hf rfl (g_Mo_isSign) (sv_w5 tw_1389 tw_1391 tw_47 tw_65 tw_1392) (by decide +kernel) (sv_dc3 d_Mo_sum (pc := 13) rfl rfl)).I,
      List.forall_mem_cons.mpr ⟨(sv_cV S hkn (m_Mo_isSign l) ⟨Nat.le_trans (by omega) hR.1, Nat.le_trans (by omega) hR.2⟩ (by decide) hf rfl (g_Mo_isSign) (sv_w5 tw_1389 tw_1391 tw_47 tw_65 tw_1392) (by decide +kernel) (sv_dc3 d_Mo_sum (pc := 22) rfl rfl)).I,
      List.forall_mem_cons.mpr ⟨(sv_cV S hkn (m_Mo_nextToken l) ⟨Nat.le_trans (by omega) hR.1, Nat.le_trans (by omega) hR.2⟩ (by decide) hf rfl (g_Mo_nextToken) (sv_w5 tw_1330 tw_1332 tw_34 tw_65 tw_1333) (by decide +kernel) (sv_dc3 d_Mo_sum (pc := 34) rfl rfl)).V,
      List.forall_mem_cons.mpr ⟨(sv_cV S hkn (m_Mo_term l o1 h ho1) ⟨Nat.le_trans (by omega) hR.1, Nat.le_trans (by omega) hR.2⟩ (by decide) hf rfl ((g_Mo_term o1)) (sv_w5 tw_1374 tw_1376 tw_44 tw_65 tw_1377) (by decide +kernel) (sv_dc3 d_Mo_sum (pc := 39) rfl rfl)).I,
      List.forall_mem_cons.mpr ⟨(sv_cV S hkn (m_Mo_step l) ⟨Nat.le_trans (by omega) hR.1, Nat.le_trans (by omega) hR.2⟩ (by decide) hf rfl (g_Mo_step) (sv_w5 tw_1382 tw_1384 tw_46 tw_65 tw_1385) (by decide +kernel) (sv_dc3 d_Mo_sum (pc := 50) rfl rfl)).V,
      fun _ h => absurd h List.not_mem_nil⟩⟩⟩⟩⟩⟩
noncomputable def f_Mo_test_37 (o1 : Int32 → sv_S → Option (Int32 × sv_S)) (x1 : Int32) (σ : sv_S) : Option (Int32 × sv_S) :=
    sv_b0 (f_Mo_nextToken σ) (fun σ1 =>
      sv_b (f_Mo_sum o1 x1 σ1) (fun v2 σ3 =>
        sv_if (v2 = 0)
          (sv_g ((0 : Int32) = 0 ∨ (0 : Int32) = 1) (some ((0 : Int32), σ3)))
          (sv_b0 (f_Mo_step (2 : Int32) (σ 30 0 22) σ3) (fun σ4 =>
            sv_g ((1 : Int32) = 0 ∨ (1 : Int32) = 1) (some ((1 : Int32), σ4))))))
noncomputable def f_Mo_test (o1 : Int32 → sv_S → Option (Int32 × sv_S)) (a1 : Int32) (σ : sv_S) : Option (Int32 × sv_S) :=
  sv_b (f_Mo_sum o1 a1 σ) (fun v1 σ2 =>
    sv_if (v1 = 0)
      (sv_g ((0 : Int32) = 0 ∨ (0 : Int32) = 1) (some ((0 : Int32), σ2)))
      (sv_b (f_Mo_isSign (60 : Int32) σ2) (fun v3 σ4 =>
        sv_if (v3 = 0)
          (sv_b (f_Mo_isSign (61 : Int32) σ4) (fun v5 σ6 =>
            sv_if (v5 = 0)
              (sv_b (f_Mo_isSign (62 : Int32) σ6) (fun v7 σ8 =>
                sv_if (v7 = 0)
                  (sv_g ((1 : Int32) = 0 ∨ (1 : Int32) = 1) (some ((1 : Int32), σ8)))
                  (f_Mo_test_37 o1 a1 σ8)))
              (f_Mo_test_37 o1 a1 σ6)))
          (f_Mo_test_37 o1 a1 σ4))))
noncomputable def n_Mo_test (o1 : Int32 → sv_S → Option (Int32 × sv_S)) : List sv_V → sv_S → Option (Int32 × sv_S)
  | [.inr (.inr (some (30, 0))), .inl a1], σ => f_Mo_test o1 a1 σ
  | _, _ => none
def cd_Mo_test : sv_C := [(0, (.aload_n 0, (sv_N, (1, (0, []))))), (1, (.iload_n 1, (sv_N, (2, (0, []))))), (2, (.invokevirtual 258, (sv_N, (5, (0, []))))), (5, (.ifCond .ne 5, (sv_N, (8, (10, []))))), (8, (.iconst 0, (.inl (0 : Int32), (9, (0, []))))), (9, (.ireturn, (sv_N, (10, (0, []))))), (10, (.aload_n 0, (sv_N, (11, (0, []))))), (11, (.bipush 60, (.inl (60 : Int32), (13, (0, []))))), (13, (.invokevirtual 246, (sv_N, (16, (0, []))))), (16, (.ifCond .ne 21, (sv_N, (19, (37, []))))), (19, (.aload_n 0, (sv_N, (20, (0, []))))), (20, (.bipush 61, (.inl (61 : Int32), (22, (0, []))))), (22, (.invokevirtual 246, (sv_N, (25, (0, []))))), (25, (.ifCond .ne 12, (sv_N, (28, (37, []))))), (28, (.aload_n 0, (sv_N, (29, (0, []))))), (29, (.bipush 62, (.inl (62 : Int32), (31, (0, []))))), (31, (.invokevirtual 246, (sv_N, (34, (0, []))))), (34, (.ifCond .eq 28, (sv_N, (37, (62, []))))), (37, (.aload_n 0, (sv_N, (38, (0, []))))), (38, (.getfield 220, (sv_N, (41, (0, []))))), (41, (.istore_n 2, (sv_N, (42, (0, []))))), (42, (.aload_n 0, (sv_N, (43, (0, []))))), (43, (.invokevirtual 249, (sv_N, (46, (0, []))))), (46, (.aload_n 0, (sv_N, (47, (0, []))))), (47, (.iload_n 1, (sv_N, (48, (0, []))))), (48, (.invokevirtual 258, (sv_N, (51, (0, []))))), (51, (.ifCond .ne 5, (sv_N, (54, (56, []))))), (54, (.iconst 0, (.inl (0 : Int32), (55, (0, []))))), (55, (.ireturn, (sv_N, (56, (0, []))))), (56, (.aload_n 0, (sv_N, (57, (0, []))))), (57, (.iconst 2, (.inl (2 : Int32), (58, (0, []))))), (58, (.iload_n 2, (sv_N, (59, (0, []))))), (59, (.invokevirtual 252, (sv_N, (62, (0, []))))), (62, (.iconst 1, (.inl (1 : Int32), (63, (0, []))))), (63, (.ireturn, (sv_N, (64, (0, [])))))]
noncomputable def ev_Mo_test (o1 : Int32 → sv_S → Option (Int32 × sv_S)) : sv_E := (fun i => sv_lk i fl_12, (fun i => sv_lk i kc_12, (fun _ => 0, (true, (fun pc => sv_lk pc [(2, (2, .inl (n_Mo_sum o1))), (13, (2, .inl n_Mo_isSign)), (22, (2, .inl n_Mo_isSign)), (31, (2, .inl n_Mo_isSign)), (43, (1, .inr (.inl n_Mo_nextToken))), (48, (2, .inl (n_Mo_sum o1))), (59, (3, .inr (.inl n_Mo_step)))], none)))))
noncomputable def kk_Mo_test_37 (o1 : Int32 → sv_S → Option (Int32 × sv_S)) : sv_K (Int32 × sv_S) := fun pc => sv_lk pc []
set_option maxRecDepth 20000 in
theorem e_Mo_test_37 (o1 : Int32 → sv_S → Option (Int32 × sv_S)) (x1 : Int32) (z2 : Option sv_V) (σ : sv_S) : sv_ex (ev_Mo_test o1) sv_rZ (kk_Mo_test_37 o1) cd_Mo_test 37 37 [some (.inr (.inr (some (30, 0)))), some (.inl x1), z2] [] σ = f_Mo_test_37 o1 x1 σ := by
  unfold f_Mo_test_37
  delta ev_Mo_test kk_Mo_test_37 n_Mo_sum n_Mo_isSign n_Mo_nextToken n_Mo_step
  generalize f_Mo_sum = c0
  generalize f_Mo_isSign = c1
  generalize f_Mo_nextToken = c2
  generalize f_Mo_step = c3
  rfl
noncomputable def kk_Mo_test (o1 : Int32 → sv_S → Option (Int32 × sv_S)) : sv_K (Int32 × sv_S) := fun pc => sv_lk pc [(37, fun lo st σ => match lo, st with
    | [some (.inr (.inr (some (30, 0)))), some (.inl x1), _], [] => f_Mo_test_37 o1 x1 σ
    | _, _ => none)]
set_option maxRecDepth 20000 in
theorem e_Mo_test (o1 : Int32 → sv_S → Option (Int32 × sv_S)) (a1 : Int32) (σ : sv_S) : sv_ex (ev_Mo_test o1) sv_rZ (kk_Mo_test o1) cd_Mo_test 37 0 [some (.inr (.inr (some (30, 0)))), some (.inl a1), none] [] σ = f_Mo_test o1 a1 σ := by
  unfold f_Mo_test
  delta ev_Mo_test kk_Mo_test n_Mo_sum n_Mo_isSign n_Mo_nextToken n_Mo_step
  generalize f_Mo_sum = c0
  generalize f_Mo_isSign = c1
  generalize f_Mo_nextToken = c2
  generalize f_Mo_step = c3
  generalize f_Mo_test_37 = c4
  rfl
theorem d_Mo_test : cd_Mo_test.all (sv_dk cX12_test) = true := by decide +kernel
set_option maxRecDepth 20000 in
theorem w_Mo_test_37 {Γ : sv_Ga} {res : Int32 × sv_S} (o1 : Int32 → sv_S → Option (Int32 × sv_S)) (X : sv_Ok Γ (ev_Mo_test o1) cX12_test sv_rZ res) : ∀ (x1 : Int32) (z2 : Option sv_V) (σ : sv_S), f_Mo_test_37 o1 x1 σ = some res → sv_T Γ 37 [some (.inr (.inr (some (30, 0)))), some (.inl x1), z2] [] σ := by
  intro x1 z2 σ h
  refine sv_run X d_Mo_test (K := kk_Mo_test_37 o1) (sv_lk_all (P := fun pc (k : sv_Lo → List sv_V → sv_S → Option (Int32 × sv_S)) => ∀ lo st σ, k lo st σ = some res → sv_T Γ pc lo st σ) ?_) _ _ _ _ _ ((e_Mo_test_37 o1 x1 z2 σ).trans h)
  clear h
  exact fun _ h => absurd h List.not_mem_nil

set_option maxRecDepth 20000 in
theorem b_Mo_test (o1 : Int32 → sv_S → Option (Int32 × sv_S)) (Γ : sv_Ga) (res : Int32 × sv_S) (X : sv_Ok Γ (ev_Mo_test o1) cX12_test sv_rZ res) (as : List sv_V) (σ : sv_S) (h : n_Mo_test o1 as σ = some res) : sv_T Γ 0 (sv_e0 3 as) [] σ := by
  unfold n_Mo_test at h
  split at h
  · refine sv_run X d_Mo_test (K := kk_Mo_test o1) (sv_lk_all (P := fun pc (k : sv_Lo → List sv_V → sv_S → Option (Int32 × sv_S)) => ∀ lo st σ, k lo st σ = some res → sv_T Γ pc lo st σ) ?_) _ _ _ _ _ ((e_Mo_test o1 _ _).trans h)
    clear h
    refine List.forall_mem_cons.mpr ⟨fun lo st σ h => ?_, fun _ h => absurd h List.not_mem_nil⟩
    · dsimp only at h
      split at h
      · exact w_Mo_test_37 o1 X _ _ _ h
      · cases h
  · cases h
theorem a_Mo_test (o1 : Int32 → sv_S → Option (Int32 × sv_S)) (as : List sv_V) (σ : sv_S) (x : Int32 × sv_S) (h : n_Mo_test o1 as σ = some x) : sv_args 3 (ev_Mo_test o1).2.2.2.1 as := by
  unfold n_Mo_test at h
  split at h
  · exact ⟨Nat.le_of_ble_eq_true rfl, fun _ v hv => by
      simp only [List.mem_cons, List.not_mem_nil, or_false] at hv
      rcases hv with rfl | rfl <;> trivial⟩
  · cases h
theorem g_Mo_test (o1 : Int32 → sv_S → Option (Int32 × sv_S)) (as : List sv_V) (σ : sv_S) (x : Option sv_V × sv_S) (h : sv_gI (n_Mo_test o1) as σ = some x) : ∃ r i as', as = sv_R r i :: as' ∧ sv_kd r i = .inl 12 := by
  obtain ⟨_, _, h, -⟩ := sv_b_some h
  unfold n_Mo_test at h
  split at h
  · exact ⟨_, _, _, rfl, rfl⟩
  · cases h
theorem tw_43 : Cond.selects RX12 yX12_sum yX12_sum ∈ gw_tbl := gw_at 43 (by decide +kernel) rfl
theorem tw_1370 : Cond.methodLink RX12 258 yX12_sum ∈ gw_tbl := gw_at 1370 (by decide +kernel) rfl
theorem tw_1372 : Cond.instanceMethod yX12_sum ∈ gw_tbl := gw_at 1372 (by decide +kernel) rfl
theorem tw_1373 : Cond.code yX12_sum cX12_sum 3 (some .boolean) ∈ gw_tbl := gw_at 1373 (by decide +kernel) rfl
set_option maxRecDepth 20000 in
theorem m_Mo_test (l : Launch) (o1 : Int32 → sv_S → Option (Int32 × sv_S)) (h : Nat) (ho1 : sv_M l yX12_part0 cX12_part0 2 (some .boolean) (sv_gI (n_h_part0 o1)) h) : sv_M l yX12_test cX12_test 3 (some .boolean) (sv_gI (n_Mo_test o1)) (h + 5) := by
  refine sv_mZ (E := (ev_Mo_test o1)) (by decide +kernel) (ln_gen fk_12 kk_12 (sv_ns _ (fun _ => rfl) _)) rfl ?_ (a_Mo_test o1) (b_Mo_test o1)
  intro p e R s m args below meth c cells slots Q base ad dC dI cA n0 S hkn hR hf pc n f hcs
  refine sv_lk_all (P := fun pc (x : Nat × sv_F) => sv_cok p l e R s m args below meth c cells slots Q base ad dC dI cA true 3 n0 pc x.1 x.2) ?_ pc (n, f) hcs
  exact List.forall_mem_cons.mpr ⟨(sv_cV S hkn (m_Mo_sum l o1 h ho1) ⟨Nat.le_trans (by omega) hR.1, Nat.le_trans (by omega) hR.2⟩ (by decide) hf rfl ((g_Mo_sum o1)) (sv_w5 tw_1370 tw_1372 tw_43 tw_65 tw_1373) (by decide +kernel) (sv_dc3 d_Mo_test (pc := 2) rfl rfl)).I,
      List.forall_mem_cons.mpr ⟨(sv_cV S hkn (m_Mo_isSign l) ⟨Nat.le_trans (by omega) hR.1, Nat.le_trans (by omega) hR.2⟩ (by decide) hf rfl (g_Mo_isSign) (sv_w5 tw_1389 tw_1391 tw_47 tw_65 tw_1392) (by decide +kernel) (sv_dc3 d_Mo_test (pc := 13) rfl rfl)).I,
      List.forall_mem_cons.mpr ⟨(sv_cV S hkn (m_Mo_isSign l) ⟨Nat.le_trans (by omega) hR.1, Nat.le_trans (by omega) hR.2⟩ (by decide) hf rfl (g_Mo_isSign) (sv_w5 tw_1389 tw_1391 tw_47 tw_65 tw_1392) (by decide +kernel) (sv_dc3 d_Mo_test (pc := 22) rfl rfl)).I,
      List.forall_mem_cons.mpr ⟨(sv_cV S hkn (m_Mo_isSign l) ⟨Nat.le_trans (by omega) hR.1, Nat.le_trans (by omega) hR.2⟩ (by decide) hf rfl (g_Mo_isSign) (sv_w5 tw_1389 tw_1391 tw_47 tw_65 tw_1392) (by decide +kernel) (sv_dc3 d_Mo_test (pc := 31) rfl rfl)).I,
      List.forall_mem_cons.mpr ⟨(sv_cV S hkn (m_Mo_nextToken l) ⟨Nat.le_trans (by omega) hR.1, Nat.le_trans (by omega) hR.2⟩ (by decide) hf rfl (g_Mo_nextToken) (sv_w5 tw_1330 tw_1332 tw_34 tw_65 tw_1333) (by decide +kernel) (sv_dc3 d_Mo_test (pc := 43) rfl rfl)).V,
      List.forall_mem_cons.mpr ⟨(sv_cV S hkn (m_Mo_sum l o1 h ho1) ⟨Nat.le_trans (by omega) hR.1, Nat.le_trans (by omega) hR.2⟩ (by decide) hf rfl ((g_Mo_sum o1)) (sv_w5 tw_1370 tw_1372 tw_43 tw_65 tw_1373) (by decide +kernel) (sv_dc3 d_Mo_test (pc := 48) rfl rfl)).I,
      List.forall_mem_cons.mpr ⟨(sv_cV S hkn (m_Mo_step l) ⟨Nat.le_trans (by omega) hR.1, Nat.le_trans (by omega) hR.2⟩ (by decide) hf rfl (g_Mo_step) (sv_w5 tw_1382 tw_1384 tw_46 tw_65 tw_1385) (by decide +kernel) (sv_dc3 d_Mo_test (pc := 59) rfl rfl)).V,
      fun _ h => absurd h List.not_mem_nil⟩⟩⟩⟩⟩⟩⟩
noncomputable def f_Mo_both_10 (o1 : Int32 → sv_S → Option (Int32 × sv_S)) : Nat → Int32 → sv_S → Option (Int32 × sv_S)
  | 0, _, _ => none
  | n + 1, x1, σ =>
    sv_b (f_Mo_isSign (38 : Int32) σ) (fun v1 σ2 =>
      sv_if (v1 = 0)
        (sv_g ((1 : Int32) = 0 ∨ (1 : Int32) = 1) (some ((1 : Int32), σ2)))
        (sv_b0 (f_Mo_nextToken σ2) (fun σ3 =>
          sv_b (f_Mo_test o1 x1 σ3) (fun v4 σ5 =>
            sv_if (v4 = 0)
              (sv_g ((0 : Int32) = 0 ∨ (0 : Int32) = 1) (some ((0 : Int32), σ5)))
              (sv_b0 (f_Mo_step (2 : Int32) (38 : Int32) σ5) (fun σ6 =>
                f_Mo_both_10 o1 n x1 σ6))))))
noncomputable def f_Mo_both (o1 : Int32 → sv_S → Option (Int32 × sv_S)) (a1 : Int32) (σ : sv_S) : Option (Int32 × sv_S) :=
  sv_b (f_Mo_test o1 a1 σ) (fun v1 σ2 =>
    sv_if (v1 = 0)
      (sv_g ((0 : Int32) = 0 ∨ (0 : Int32) = 1) (some ((0 : Int32), σ2)))
      (f_Mo_both_10 o1 sv_fu a1 σ2))
noncomputable def n_Mo_both (o1 : Int32 → sv_S → Option (Int32 × sv_S)) : List sv_V → sv_S → Option (Int32 × sv_S)
  | [.inr (.inr (some (30, 0))), .inl a1], σ => f_Mo_both o1 a1 σ
  | _, _ => none
def cd_Mo_both : sv_C := [(0, (.aload_n 0, (sv_N, (1, (0, []))))), (1, (.iload_n 1, (sv_N, (2, (0, []))))), (2, (.invokevirtual 255, (sv_N, (5, (0, []))))), (5, (.ifCond .ne 5, (sv_N, (8, (10, []))))), (8, (.iconst 0, (.inl (0 : Int32), (9, (0, []))))), (9, (.ireturn, (sv_N, (10, (0, []))))), (10, (.aload_n 0, (sv_N, (11, (0, []))))), (11, (.bipush 38, (.inl (38 : Int32), (13, (0, []))))), (13, (.invokevirtual 246, (sv_N, (16, (0, []))))), (16, (.ifCond .eq 27, (sv_N, (19, (43, []))))), (19, (.aload_n 0, (sv_N, (20, (0, []))))), (20, (.invokevirtual 249, (sv_N, (23, (0, []))))), (23, (.aload_n 0, (sv_N, (24, (0, []))))), (24, (.iload_n 1, (sv_N, (25, (0, []))))), (25, (.invokevirtual 255, (sv_N, (28, (0, []))))), (28, (.ifCond .ne 5, (sv_N, (31, (33, []))))), (31, (.iconst 0, (.inl (0 : Int32), (32, (0, []))))), (32, (.ireturn, (sv_N, (33, (0, []))))), (33, (.aload_n 0, (sv_N, (34, (0, []))))), (34, (.iconst 2, (.inl (2 : Int32), (35, (0, []))))), (35, (.bipush 38, (.inl (38 : Int32), (37, (0, []))))), (37, (.invokevirtual 252, (sv_N, (40, (0, []))))), (40, (.goto (-30), (sv_N, (43, (10, []))))), (43, (.iconst 1, (.inl (1 : Int32), (44, (0, []))))), (44, (.ireturn, (sv_N, (45, (0, [])))))]
noncomputable def ev_Mo_both (o1 : Int32 → sv_S → Option (Int32 × sv_S)) : sv_E := (fun i => sv_lk i fl_12, (fun i => sv_lk i kc_12, (fun _ => 0, (true, (fun pc => sv_lk pc [(2, (2, .inl (n_Mo_test o1))), (13, (2, .inl n_Mo_isSign)), (20, (1, .inr (.inl n_Mo_nextToken))), (25, (2, .inl (n_Mo_test o1))), (37, (3, .inr (.inl n_Mo_step)))], none)))))
noncomputable def kk_Mo_both_10 (o1 : Int32 → sv_S → Option (Int32 × sv_S)) (n : Nat) : sv_K (Int32 × sv_S) := fun pc => sv_lk pc [(10, fun lo st σ => match lo, st with
    | [some (.inr (.inr (some (30, 0)))), some (.inl x1)], [] => f_Mo_both_10 o1 n x1 σ
    | _, _ => none)]
set_option maxRecDepth 20000 in
theorem e_Mo_both_10 (o1 : Int32 → sv_S → Option (Int32 × sv_S)) (n : Nat) (x1 : Int32) (σ : sv_S) : sv_ex (ev_Mo_both o1) sv_rZ (kk_Mo_both_10 o1 n) cd_Mo_both 27 10 [some (.inr (.inr (some (30, 0)))), some (.inl x1)] [] σ = f_Mo_both_10 o1 (n + 1) x1 σ := by
  rw [f_Mo_both_10.eq_2]
  delta ev_Mo_both kk_Mo_both_10 n_Mo_test n_Mo_isSign n_Mo_nextToken n_Mo_step
  generalize f_Mo_test = c0
  generalize f_Mo_isSign = c1
  generalize f_Mo_nextToken = c2
  generalize f_Mo_step = c3
  generalize f_Mo_both_10 = c4
  rfl
noncomputable def kk_Mo_both (o1 : Int32 → sv_S → Option (Int32 × sv_S)) : sv_K (Int32 × sv_S) := fun pc => sv_lk pc [(10, fun lo st σ => match lo, st with
    | [some (.inr (.inr (some (30, 0)))), some (.inl x1)], [] => f_Mo_both_10 o1 sv_fu x1 σ
    | _, _ => none)]
set_option maxRecDepth 20000 in
theorem e_Mo_both (o1 : Int32 → sv_S → Option (Int32 × sv_S)) (a1 : Int32) (σ : sv_S) : sv_ex (ev_Mo_both o1) sv_rZ (kk_Mo_both o1) cd_Mo_both 27 0 [some (.inr (.inr (some (30, 0)))), some (.inl a1)] [] σ = f_Mo_both o1 a1 σ := by
  unfold f_Mo_both
  delta ev_Mo_both kk_Mo_both n_Mo_test n_Mo_isSign n_Mo_nextToken n_Mo_step
  generalize f_Mo_test = c0
  generalize f_Mo_isSign = c1
  generalize f_Mo_nextToken = c2
  generalize f_Mo_step = c3
  generalize f_Mo_both_10 = c4
  rfl
theorem d_Mo_both : cd_Mo_both.all (sv_dk cX12_both) = true := by decide +kernel
set_option maxRecDepth 20000 in
theorem w_Mo_both_10 {Γ : sv_Ga} {res : Int32 × sv_S} (o1 : Int32 → sv_S → Option (Int32 × sv_S)) (X : sv_Ok Γ (ev_Mo_both o1) cX12_both sv_rZ res) : ∀ (n : Nat) (x1 : Int32) (σ : sv_S), f_Mo_both_10 o1 n x1 σ = some res → sv_T Γ 10 [some (.inr (.inr (some (30, 0)))), some (.inl x1)] [] σ := by
  intro n
  induction n with
  | zero =>
    intro x1 σ h
    rw [f_Mo_both_10.eq_1] at h
    cases h
  | succ n ih =>
    intro x1 σ h
    refine sv_run X d_Mo_both (K := kk_Mo_both_10 o1 n) (sv_lk_all (P := fun pc (k : sv_Lo → List sv_V → sv_S → Option (Int32 × sv_S)) => ∀ lo st σ, k lo st σ = some res → sv_T Γ pc lo st σ) ?_) _ _ _ _ _ ((e_Mo_both_10 o1 n x1 σ).trans h)
    clear h
    refine List.forall_mem_cons.mpr ⟨fun lo st σ h => ?_, fun _ h => absurd h List.not_mem_nil⟩
    · dsimp only at h
      split at h
      · exact ih _ _ h
      · cases h

set_option maxRecDepth 20000 in
theorem b_Mo_both (o1 : Int32 → sv_S → Option (Int32 × sv_S)) (Γ : sv_Ga) (res : Int32 × sv_S) (X : sv_Ok Γ (ev_Mo_both o1) cX12_both sv_rZ res) (as : List sv_V) (σ : sv_S) (h : n_Mo_both o1 as σ = some res) : sv_T Γ 0 (sv_e0 2 as) [] σ := by
  unfold n_Mo_both at h
  split at h
  · refine sv_run X d_Mo_both (K := kk_Mo_both o1) (sv_lk_all (P := fun pc (k : sv_Lo → List sv_V → sv_S → Option (Int32 × sv_S)) => ∀ lo st σ, k lo st σ = some res → sv_T Γ pc lo st σ) ?_) _ _ _ _ _ ((e_Mo_both o1 _ _).trans h)
    clear h
    refine List.forall_mem_cons.mpr ⟨fun lo st σ h => ?_, fun _ h => absurd h List.not_mem_nil⟩
    · dsimp only at h
      split at h
      · exact w_Mo_both_10 o1 X _ _ _ h
      · cases h
  · cases h
theorem a_Mo_both (o1 : Int32 → sv_S → Option (Int32 × sv_S)) (as : List sv_V) (σ : sv_S) (x : Int32 × sv_S) (h : n_Mo_both o1 as σ = some x) : sv_args 2 (ev_Mo_both o1).2.2.2.1 as := by
  unfold n_Mo_both at h
  split at h
  · exact ⟨Nat.le_of_ble_eq_true rfl, fun _ v hv => by
      simp only [List.mem_cons, List.not_mem_nil, or_false] at hv
      rcases hv with rfl | rfl <;> trivial⟩
  · cases h
theorem g_Mo_both (o1 : Int32 → sv_S → Option (Int32 × sv_S)) (as : List sv_V) (σ : sv_S) (x : Option sv_V × sv_S) (h : sv_gI (n_Mo_both o1) as σ = some x) : ∃ r i as', as = sv_R r i :: as' ∧ sv_kd r i = .inl 12 := by
  obtain ⟨_, _, h, -⟩ := sv_b_some h
  unfold n_Mo_both at h
  split at h
  · exact ⟨_, _, _, rfl, rfl⟩
  · cases h
theorem tw_42 : Cond.selects RX12 yX12_test yX12_test ∈ gw_tbl := gw_at 42 (by decide +kernel) rfl
theorem tw_1366 : Cond.methodLink RX12 255 yX12_test ∈ gw_tbl := gw_at 1366 (by decide +kernel) rfl
theorem tw_1368 : Cond.instanceMethod yX12_test ∈ gw_tbl := gw_at 1368 (by decide +kernel) rfl
theorem tw_1369 : Cond.code yX12_test cX12_test 3 (some .boolean) ∈ gw_tbl := gw_at 1369 (by decide +kernel) rfl
set_option maxRecDepth 20000 in
theorem m_Mo_both (l : Launch) (o1 : Int32 → sv_S → Option (Int32 × sv_S)) (h : Nat) (ho1 : sv_M l yX12_part0 cX12_part0 2 (some .boolean) (sv_gI (n_h_part0 o1)) h) : sv_M l yX12_both cX12_both 2 (some .boolean) (sv_gI (n_Mo_both o1)) (h + 6) := by
  refine sv_mZ (E := (ev_Mo_both o1)) (by decide +kernel) (ln_gen fk_12 kk_12 (sv_ns _ (fun _ => rfl) _)) rfl ?_ (a_Mo_both o1) (b_Mo_both o1)
  intro p e R s m args below meth c cells slots Q base ad dC dI cA n0 S hkn hR hf pc n f hcs
  refine sv_lk_all (P := fun pc (x : Nat × sv_F) => sv_cok p l e R s m args below meth c cells slots Q base ad dC dI cA true 2 n0 pc x.1 x.2) ?_ pc (n, f) hcs
  exact List.forall_mem_cons.mpr ⟨(sv_cV S hkn (m_Mo_test l o1 h ho1) ⟨Nat.le_trans (by omega) hR.1, Nat.le_trans (by omega) hR.2⟩ (by decide) hf rfl ((g_Mo_test o1)) (sv_w5 tw_1366 tw_1368 tw_42 tw_65 tw_1369) (by decide +kernel) (sv_dc3 d_Mo_both (pc := 2) rfl rfl)).I,
      List.forall_mem_cons.mpr ⟨(sv_cV S hkn (m_Mo_isSign l) ⟨Nat.le_trans (by omega) hR.1, Nat.le_trans (by omega) hR.2⟩ (by decide) hf rfl (g_Mo_isSign) (sv_w5 tw_1389 tw_1391 tw_47 tw_65 tw_1392) (by decide +kernel) (sv_dc3 d_Mo_both (pc := 13) rfl rfl)).I,
      List.forall_mem_cons.mpr ⟨(sv_cV S hkn (m_Mo_nextToken l) ⟨Nat.le_trans (by omega) hR.1, Nat.le_trans (by omega) hR.2⟩ (by decide) hf rfl (g_Mo_nextToken) (sv_w5 tw_1330 tw_1332 tw_34 tw_65 tw_1333) (by decide +kernel) (sv_dc3 d_Mo_both (pc := 20) rfl rfl)).V,
      List.forall_mem_cons.mpr ⟨(sv_cV S hkn (m_Mo_test l o1 h ho1) ⟨Nat.le_trans (by omega) hR.1, Nat.le_trans (by omega) hR.2⟩ (by decide) hf rfl ((g_Mo_test o1)) (sv_w5 tw_1366 tw_1368 tw_42 tw_65 tw_1369) (by decide +kernel) (sv_dc3 d_Mo_both (pc := 25) rfl rfl)).I,
      List.forall_mem_cons.mpr ⟨(sv_cV S hkn (m_Mo_step l) ⟨Nat.le_trans (by omega) hR.1, Nat.le_trans (by omega) hR.2⟩ (by decide) hf rfl (g_Mo_step) (sv_w5 tw_1382 tw_1384 tw_46 tw_65 tw_1385) (by decide +kernel) (sv_dc3 d_Mo_both (pc := 37) rfl rfl)).V,
      fun _ h => absurd h List.not_mem_nil⟩⟩⟩⟩⟩
noncomputable def f_Mo_either_10 (o1 : Int32 → sv_S → Option (Int32 × sv_S)) : Nat → Int32 → sv_S → Option (Int32 × sv_S)
  | 0, _, _ => none
  | n + 1, x1, σ =>
    sv_b (f_Mo_isSign (124 : Int32) σ) (fun v1 σ2 =>
      sv_if (v1 = 0)
        (sv_g ((1 : Int32) = 0 ∨ (1 : Int32) = 1) (some ((1 : Int32), σ2)))
        (sv_b0 (f_Mo_nextToken σ2) (fun σ3 =>
          sv_b (f_Mo_both o1 x1 σ3) (fun v4 σ5 =>
            sv_if (v4 = 0)
              (sv_g ((0 : Int32) = 0 ∨ (0 : Int32) = 1) (some ((0 : Int32), σ5)))
              (sv_b0 (f_Mo_step (2 : Int32) (124 : Int32) σ5) (fun σ6 =>
                f_Mo_either_10 o1 n x1 σ6))))))
noncomputable def f_Mo_either (o1 : Int32 → sv_S → Option (Int32 × sv_S)) (a1 : Int32) (σ : sv_S) : Option (Int32 × sv_S) :=
  sv_b (f_Mo_both o1 a1 σ) (fun v1 σ2 =>
    sv_if (v1 = 0)
      (sv_g ((0 : Int32) = 0 ∨ (0 : Int32) = 1) (some ((0 : Int32), σ2)))
      (f_Mo_either_10 o1 sv_fu a1 σ2))
noncomputable def n_Mo_either (o1 : Int32 → sv_S → Option (Int32 × sv_S)) : List sv_V → sv_S → Option (Int32 × sv_S)
  | [.inr (.inr (some (30, 0))), .inl a1], σ => f_Mo_either o1 a1 σ
  | _, _ => none
def cd_Mo_either : sv_C := [(0, (.aload_n 0, (sv_N, (1, (0, []))))), (1, (.iload_n 1, (sv_N, (2, (0, []))))), (2, (.invokevirtual 243, (sv_N, (5, (0, []))))), (5, (.ifCond .ne 5, (sv_N, (8, (10, []))))), (8, (.iconst 0, (.inl (0 : Int32), (9, (0, []))))), (9, (.ireturn, (sv_N, (10, (0, []))))), (10, (.aload_n 0, (sv_N, (11, (0, []))))), (11, (.bipush 124, (.inl (124 : Int32), (13, (0, []))))), (13, (.invokevirtual 246, (sv_N, (16, (0, []))))), (16, (.ifCond .eq 27, (sv_N, (19, (43, []))))), (19, (.aload_n 0, (sv_N, (20, (0, []))))), (20, (.invokevirtual 249, (sv_N, (23, (0, []))))), (23, (.aload_n 0, (sv_N, (24, (0, []))))), (24, (.iload_n 1, (sv_N, (25, (0, []))))), (25, (.invokevirtual 243, (sv_N, (28, (0, []))))), (28, (.ifCond .ne 5, (sv_N, (31, (33, []))))), (31, (.iconst 0, (.inl (0 : Int32), (32, (0, []))))), (32, (.ireturn, (sv_N, (33, (0, []))))), (33, (.aload_n 0, (sv_N, (34, (0, []))))), (34, (.iconst 2, (.inl (2 : Int32), (35, (0, []))))), (35, (.bipush 124, (.inl (124 : Int32), (37, (0, []))))), (37, (.invokevirtual 252, (sv_N, (40, (0, []))))), (40, (.goto (-30), (sv_N, (43, (10, []))))), (43, (.iconst 1, (.inl (1 : Int32), (44, (0, []))))), (44, (.ireturn, (sv_N, (45, (0, [])))))]
noncomputable def ev_Mo_either (o1 : Int32 → sv_S → Option (Int32 × sv_S)) : sv_E := (fun i => sv_lk i fl_12, (fun i => sv_lk i kc_12, (fun _ => 0, (true, (fun pc => sv_lk pc [(2, (2, .inl (n_Mo_both o1))), (13, (2, .inl n_Mo_isSign)), (20, (1, .inr (.inl n_Mo_nextToken))), (25, (2, .inl (n_Mo_both o1))), (37, (3, .inr (.inl n_Mo_step)))], none)))))
noncomputable def kk_Mo_either_10 (o1 : Int32 → sv_S → Option (Int32 × sv_S)) (n : Nat) : sv_K (Int32 × sv_S) := fun pc => sv_lk pc [(10, fun lo st σ => match lo, st with
    | [some (.inr (.inr (some (30, 0)))), some (.inl x1)], [] => f_Mo_either_10 o1 n x1 σ
    | _, _ => none)]
set_option maxRecDepth 20000 in
theorem e_Mo_either_10 (o1 : Int32 → sv_S → Option (Int32 × sv_S)) (n : Nat) (x1 : Int32) (σ : sv_S) : sv_ex (ev_Mo_either o1) sv_rZ (kk_Mo_either_10 o1 n) cd_Mo_either 27 10 [some (.inr (.inr (some (30, 0)))), some (.inl x1)] [] σ = f_Mo_either_10 o1 (n + 1) x1 σ := by
  rw [f_Mo_either_10.eq_2]
  delta ev_Mo_either kk_Mo_either_10 n_Mo_both n_Mo_isSign n_Mo_nextToken n_Mo_step
  generalize f_Mo_both = c0
  generalize f_Mo_isSign = c1
  generalize f_Mo_nextToken = c2
  generalize f_Mo_step = c3
  generalize f_Mo_either_10 = c4
  rfl
noncomputable def kk_Mo_either (o1 : Int32 → sv_S → Option (Int32 × sv_S)) : sv_K (Int32 × sv_S) := fun pc => sv_lk pc [(10, fun lo st σ => match lo, st with
    | [some (.inr (.inr (some (30, 0)))), some (.inl x1)], [] => f_Mo_either_10 o1 sv_fu x1 σ
    | _, _ => none)]
set_option maxRecDepth 20000 in
theorem e_Mo_either (o1 : Int32 → sv_S → Option (Int32 × sv_S)) (a1 : Int32) (σ : sv_S) : sv_ex (ev_Mo_either o1) sv_rZ (kk_Mo_either o1) cd_Mo_either 27 0 [some (.inr (.inr (some (30, 0)))), some (.inl a1)] [] σ = f_Mo_either o1 a1 σ := by
  unfold f_Mo_either
  delta ev_Mo_either kk_Mo_either n_Mo_both n_Mo_isSign n_Mo_nextToken n_Mo_step
  generalize f_Mo_both = c0
  generalize f_Mo_isSign = c1
  generalize f_Mo_nextToken = c2
  generalize f_Mo_step = c3
  generalize f_Mo_either_10 = c4
  rfl
theorem d_Mo_either : cd_Mo_either.all (sv_dk cX12_either) = true := by decide +kernel
set_option maxRecDepth 20000 in
theorem w_Mo_either_10 {Γ : sv_Ga} {res : Int32 × sv_S} (o1 : Int32 → sv_S → Option (Int32 × sv_S)) (X : sv_Ok Γ (ev_Mo_either o1) cX12_either sv_rZ res) : ∀ (n : Nat) (x1 : Int32) (σ : sv_S), f_Mo_either_10 o1 n x1 σ = some res → sv_T Γ 10 [some (.inr (.inr (some (30, 0)))), some (.inl x1)] [] σ := by
  intro n
  induction n with
  | zero =>
    intro x1 σ h
    rw [f_Mo_either_10.eq_1] at h
    cases h
  | succ n ih =>
    intro x1 σ h
    refine sv_run X d_Mo_either (K := kk_Mo_either_10 o1 n) (sv_lk_all (P := fun pc (k : sv_Lo → List sv_V → sv_S → Option (Int32 × sv_S)) => ∀ lo st σ, k lo st σ = some res → sv_T Γ pc lo st σ) ?_) _ _ _ _ _ ((e_Mo_either_10 o1 n x1 σ).trans h)
    clear h
    refine List.forall_mem_cons.mpr ⟨fun lo st σ h => ?_, fun _ h => absurd h List.not_mem_nil⟩
    · dsimp only at h
      split at h
      · exact ih _ _ h
      · cases h

set_option maxRecDepth 20000 in
theorem b_Mo_either (o1 : Int32 → sv_S → Option (Int32 × sv_S)) (Γ : sv_Ga) (res : Int32 × sv_S) (X : sv_Ok Γ (ev_Mo_either o1) cX12_either sv_rZ res) (as : List sv_V) (σ : sv_S) (h : n_Mo_either o1 as σ = some res) : sv_T Γ 0 (sv_e0 2 as) [] σ := by
  unfold n_Mo_either at h
  split at h
  · refine sv_run X d_Mo_either (K := kk_Mo_either o1) (sv_lk_all (P := fun pc (k : sv_Lo → List sv_V → sv_S → Option (Int32 × sv_S)) => ∀ lo st σ, k lo st σ = some res → sv_T Γ pc lo st σ) ?_) _ _ _ _ _ ((e_Mo_either o1 _ _).trans h)
    clear h
    refine List.forall_mem_cons.mpr ⟨fun lo st σ h => ?_, fun _ h => absurd h List.not_mem_nil⟩
    · dsimp only at h
      split at h
      · exact w_Mo_either_10 o1 X _ _ _ h
      · cases h
  · cases h
theorem a_Mo_either (o1 : Int32 → sv_S → Option (Int32 × sv_S)) (as : List sv_V) (σ : sv_S) (x : Int32 × sv_S) (h : n_Mo_either o1 as σ = some x) : sv_args 2 (ev_Mo_either o1).2.2.2.1 as := by
  unfold n_Mo_either at h
  split at h
  · exact ⟨Nat.le_of_ble_eq_true rfl, fun _ v hv => by
      simp only [List.mem_cons, List.not_mem_nil, or_false] at hv
      rcases hv with rfl | rfl <;> trivial⟩
  · cases h
theorem g_Mo_either (o1 : Int32 → sv_S → Option (Int32 × sv_S)) (as : List sv_V) (σ : sv_S) (x : Option sv_V × sv_S) (h : sv_gI (n_Mo_either o1) as σ = some x) : ∃ r i as', as = sv_R r i :: as' ∧ sv_kd r i = .inl 12 := by
  obtain ⟨_, _, h, -⟩ := sv_b_some h
  unfold n_Mo_either at h
  split at h
  · exact ⟨_, _, _, rfl, rfl⟩
  · cases h
theorem tw_41 : Cond.selects RX12 yX12_both yX12_both ∈ gw_tbl := gw_at 41 (by decide +kernel) rfl
theorem tw_1362 : Cond.methodLink RX12 243 yX12_both ∈ gw_tbl := gw_at 1362 (by decide +kernel) rfl
theorem tw_1364 : Cond.instanceMethod yX12_both ∈ gw_tbl := gw_at 1364 (by decide +kernel) rfl
theorem tw_1365 : Cond.code yX12_both cX12_both 2 (some .boolean) ∈ gw_tbl := gw_at 1365 (by decide +kernel) rfl
set_option maxRecDepth 20000 in
theorem m_Mo_either (l : Launch) (o1 : Int32 → sv_S → Option (Int32 × sv_S)) (h : Nat) (ho1 : sv_M l yX12_part0 cX12_part0 2 (some .boolean) (sv_gI (n_h_part0 o1)) h) : sv_M l yX12_either cX12_either 2 (some .boolean) (sv_gI (n_Mo_either o1)) (h + 7) := by
  refine sv_mZ (E := (ev_Mo_either o1)) (by decide +kernel) (ln_gen fk_12 kk_12 (sv_ns _ (fun _ => rfl) _)) rfl ?_ (a_Mo_either o1) (b_Mo_either o1)
  intro p e R s m args below meth c cells slots Q base ad dC dI cA n0 S hkn hR hf pc n f hcs
  refine sv_lk_all (P := fun pc (x : Nat × sv_F) => sv_cok p l e R s m args below meth c cells slots Q base ad dC dI cA true 2 n0 pc x.1 x.2) ?_ pc (n, f) hcs
  exact List.forall_mem_cons.mpr ⟨(sv_cV S hkn (m_Mo_both l o1 h ho1) ⟨Nat.le_trans (by omega) hR.1, Nat.le_trans (by omega) hR.2⟩ (by decide) hf rfl ((g_Mo_both o1)) (sv_w5 tw_1362 tw_1364 tw_41 tw_65 tw_1365) (by decide +kernel) (sv_dc3 d_Mo_either (pc := 2) rfl rfl)).I,
      List.forall_mem_cons.mpr ⟨(sv_cV S hkn (m_Mo_isSign l) ⟨Nat.le_trans (by omega) hR.1, Nat.le_trans (by omega) hR.2⟩ (by decide) hf rfl (g_Mo_isSign) (sv_w5 tw_1389 tw_1391 tw_47 tw_65 tw_1392) (by decide +kernel) (sv_dc3 d_Mo_either (pc := 13) rfl rfl)).I,
      List.forall_mem_cons.mpr ⟨(sv_cV S hkn (m_Mo_nextToken l) ⟨Nat.le_trans (by omega) hR.1, Nat.le_trans (by omega) hR.2⟩ (by decide) hf rfl (g_Mo_nextToken) (sv_w5 tw_1330 tw_1332 tw_34 tw_65 tw_1333) (by decide +kernel) (sv_dc3 d_Mo_either (pc := 20) rfl rfl)).V,
      List.forall_mem_cons.mpr ⟨(sv_cV S hkn (m_Mo_both l o1 h ho1) ⟨Nat.le_trans (by omega) hR.1, Nat.le_trans (by omega) hR.2⟩ (by decide) hf rfl ((g_Mo_both o1)) (sv_w5 tw_1362 tw_1364 tw_41 tw_65 tw_1365) (by decide +kernel) (sv_dc3 d_Mo_either (pc := 25) rfl rfl)).I,
      List.forall_mem_cons.mpr ⟨(sv_cV S hkn (m_Mo_step l) ⟨Nat.le_trans (by omega) hR.1, Nat.le_trans (by omega) hR.2⟩ (by decide) hf rfl (g_Mo_step) (sv_w5 tw_1382 tw_1384 tw_46 tw_65 tw_1385) (by decide +kernel) (sv_dc3 d_Mo_either (pc := 37) rfl rfl)).V,
      fun _ h => absurd h List.not_mem_nil⟩⟩⟩⟩⟩
noncomputable def f_Mo_part0_145 (o1 : Int32 → sv_S → Option (Int32 × sv_S)) (x1 : Int32) (σ : sv_S) : Option (Int32 × sv_S) :=
    sv_b (f_Mo_isSign (40 : Int32) σ) (fun v1 σ2 =>
      sv_if (v1 = 0)
        (sv_g ((0 : Int32) = 0 ∨ (0 : Int32) = 1) (some ((0 : Int32), σ2)))
        (sv_if ((σ2 30 0 23) = (8 : Int32))
          (sv_g ((0 : Int32) = 0 ∨ (0 : Int32) = 1) (some ((0 : Int32), σ2)))
          (let σ3 := sv_up σ2 30 0 23 ((σ2 30 0 23) + (1 : Int32))
          sv_b0 (f_Mo_nextToken σ3) (fun σ4 =>
            sv_b (f_Mo_either o1 x1 σ4) (fun v5 σ6 =>
              sv_if (v5 = 0)
                (sv_g ((0 : Int32) = 0 ∨ (0 : Int32) = 1) (some ((0 : Int32), σ6)))
                (sv_b (f_Mo_isSign (41 : Int32) σ6) (fun v7 σ8 =>
                  sv_if (v7 = 0)
                    (sv_g ((0 : Int32) = 0 ∨ (0 : Int32) = 1) (some ((0 : Int32), σ8)))
                    (let σ9 := sv_up σ8 30 0 23 ((σ8 30 0 23) - (1 : Int32))
                    sv_b0 (f_Mo_nextToken σ9) (fun σ10 =>
                      sv_g ((1 : Int32) = 0 ∨ (1 : Int32) = 1) (some ((1 : Int32), σ10)))))))))))
noncomputable def f_Mo_part0_84 (o1 : Int32 → sv_S → Option (Int32 × sv_S)) (x1 : Int32) (σ : sv_S) : Option (Int32 × sv_S) :=
    sv_b (f_Mo_isSign (33 : Int32) σ) (fun v1 σ2 =>
      sv_if (v1 = 0)
        (f_Mo_part0_145 o1 x1 σ2)
        (sv_if ((8 : Int32) ≤ (σ2 30 0 24))
          (f_Mo_part0_145 o1 x1 σ2)
          (let σ3 := sv_up σ2 30 0 24 ((σ2 30 0 24) + (1 : Int32))
          sv_b0 (f_Mo_nextToken σ3) (fun σ4 =>
            sv_b (o1 x1 σ4) (fun v5 σ6 =>
              sv_if (v5 = 0)
                (sv_g ((0 : Int32) = 0 ∨ (0 : Int32) = 1) (some ((0 : Int32), σ6)))
                (let σ7 := sv_up σ6 30 0 24 ((σ6 30 0 24) - (1 : Int32))
                sv_b0 (f_Mo_step (2 : Int32) (33 : Int32) σ7) (fun σ8 =>
                  sv_g ((1 : Int32) = 0 ∨ (1 : Int32) = 1) (some ((1 : Int32), σ8)))))))))
noncomputable def f_Mo_part0 (o1 : Int32 → sv_S → Option (Int32 × sv_S)) (a1 : Int32) (σ : sv_S) : Option (Int32 × sv_S) :=
  sv_if ((σ 30 0 20) = (2 : Int32))
    (sv_b0 (f_Mo_step (0 : Int32) (σ 30 0 21) σ) (fun σ1 =>
      let σ2 := sv_up σ1 30 0 27 ((σ1 30 0 27) + (1 : Int32))
      sv_b0 (f_Mo_nextToken σ2) (fun σ3 =>
        sv_g ((1 : Int32) = 0 ∨ (1 : Int32) = 1) (some ((1 : Int32), σ3)))))
    (sv_if ((σ 30 0 20) = (1 : Int32))
      (sv_if ((σ 30 0 22) = 0)
        (f_Mo_part0_84 o1 a1 σ)
        (sv_b (f_Mo_isName a1 (σ 30 0 22) σ) (fun v4 σ5 =>
          sv_if (v4 = 0)
            (f_Mo_part0_84 o1 a1 σ5)
            (sv_b0 (f_Mo_step (1 : Int32) (σ5 30 0 22) σ5) (fun σ6 =>
              let σ7 := sv_up σ6 30 0 27 ((σ6 30 0 27) + (1 : Int32))
              sv_b0 (f_Mo_nextToken σ7) (fun σ8 =>
                sv_g ((1 : Int32) = 0 ∨ (1 : Int32) = 1) (some ((1 : Int32), σ8))))))))
      (f_Mo_part0_84 o1 a1 σ))
noncomputable def n_Mo_part0 (o1 : Int32 → sv_S → Option (Int32 × sv_S)) : List sv_V → sv_S → Option (Int32 × sv_S)
  | [.inr (.inr (some (30, 0))), .inl a1], σ => f_Mo_part0 o1 a1 σ
  | _, _ => none
def cd_Mo_part0 : sv_C := [(0, (.aload_n 0, (sv_N, (1, (0, []))))), (1, (.getfield 211, (sv_N, (4, (0, []))))), (4, (.iconst 2, (.inl (2 : Int32), (5, (0, []))))), (5, (.if_icmp .ne 28, (sv_N, (8, (33, []))))), (8, (.aload_n 0, (sv_N, (9, (0, []))))), (9, (.iconst 0, (.inl (0 : Int32), (10, (0, []))))), (10, (.aload_n 0, (sv_N, (11, (0, []))))), (11, (.getfield 226, (sv_N, (14, (0, []))))), (14, (.invokevirtual 252, (sv_N, (17, (0, []))))), (17, (.aload_n 0, (sv_N, (18, (0, []))))), (18, (.dup, (sv_N, (19, (0, []))))), (19, (.getfield 267, (sv_N, (22, (0, []))))), (22, (.iconst 1, (.inl (1 : Int32), (23, (0, []))))), (23, (.iadd, (sv_N, (24, (0, []))))), (24, (.putfield 267, (sv_N, (27, (0, []))))), (27, (.aload_n 0, (sv_N, (28, (0, []))))), (28, (.invokevirtual 249, (sv_N, (31, (0, []))))), (31, (.iconst 1, (.inl (1 : Int32), (32, (0, []))))), (32, (.ireturn, (sv_N, (33, (0, []))))), (33, (.aload_n 0, (sv_N, (34, (0, []))))), (34, (.getfield 211, (sv_N, (37, (0, []))))), (37, (.iconst 1, (.inl (1 : Int32), (38, (0, []))))), (38, (.if_icmp .ne 46, (sv_N, (41, (84, []))))), (41, (.aload_n 0, (sv_N, (42, (0, []))))), (42, (.getfield 220, (sv_N, (45, (0, []))))), (45, (.ifCond .eq 39, (sv_N, (48, (84, []))))), (48, (.iload_n 1, (sv_N, (49, (0, []))))), (49, (.aload_n 0, (sv_N, (50, (0, []))))), (50, (.getfield 220, (sv_N, (53, (0, []))))), (53, (.invokestatic 270, (sv_N, (56, (0, []))))), (56, (.ifCond .eq 28, (sv_N, (59, (84, []))))), (59, (.aload_n 0, (sv_N, (60, (0, []))))), (60, (.iconst 1, (.inl (1 : Int32), (61, (0, []))))), (61, (.aload_n 0, (sv_N, (62, (0, []))))), (62, (.getfield 220, (sv_N, (65, (0, []))))), (65, (.invokevirtual 252, (sv_N, (68, (0, []))))), (68, (.aload_n 0, (sv_N, (69, (0, []))))), (69, (.dup, (sv_N, (70, (0, []))))), (70, (.getfield 267, (sv_N, (73, (0, []))))), (73, (.iconst 1, (.inl (1 : Int32), (74, (0, []))))), (74, (.iadd, (sv_N, (75, (0, []))))), (75, (.putfield 267, (sv_N, (78, (0, []))))), (78, (.aload_n 0, (sv_N, (79, (0, []))))), (79, (.invokevirtual 249, (sv_N, (82, (0, []))))), (82, (.iconst 1, (.inl (1 : Int32), (83, (0, []))))), (83, (.ireturn, (sv_N, (84, (0, []))))), (84, (.aload_n 0, (sv_N, (85, (0, []))))), (85, (.bipush 33, (.inl (33 : Int32), (87, (0, []))))), (87, (.invokevirtual 246, (sv_N, (90, (0, []))))), (90, (.ifCond .eq 55, (sv_N, (93, (145, []))))), (93, (.aload_n 0, (sv_N, (94, (0, []))))), (94, (.getfield 273, (sv_N, (97, (0, []))))), (97, (.bipush 8, (.inl (8 : Int32), (99, (0, []))))), (99, (.if_icmp .ge 46, (sv_N, (102, (145, []))))), (102, (.aload_n 0, (sv_N, (103, (0, []))))), (103, (.dup, (sv_N, (104, (0, []))))), (104, (.getfield 273, (sv_N, (107, (0, []))))), (107, (.iconst 1, (.inl (1 : Int32), (108, (0, []))))), (108, (.iadd, (sv_N, (109, (0, []))))), (109, (.putfield 273, (sv_N, (112, (0, []))))), (112, (.aload_n 0, (sv_N, (113, (0, []))))), (113, (.invokevirtual 249, (sv_N, (116, (0, []))))), (116, (.aload_n 0, (sv_N, (117, (0, []))))), (117, (.iload_n 1, (sv_N, (118, (0, []))))), (118, (.invokevirtual 264, (sv_N, (121, (0, []))))), (121, (.ifCond .ne 5, (sv_N, (124, (126, []))))), (124, (.iconst 0, (.inl (0 : Int32), (125, (0, []))))), (125, (.ireturn, (sv_N, (126, (0, []))))), (126, (.aload_n 0, (sv_N, (127, (0, []))))), (127, (.dup, (sv_N, (128, (0, []))))), (128, (.getfield 273, (sv_N, (131, (0, []))))), (131, (.iconst 1, (.inl (1 : Int32), (132, (0, []))))), (132, (.isub, (sv_N, (133, (0, []))))), (133, (.putfield 273, (sv_N, (136, (0, []))))), (136, (.aload_n 0, (sv_N, (137, (0, []))))), (137, (.iconst 2, (.inl (2 : Int32), (138, (0, []))))), (138, (.bipush 33, (.inl (33 : Int32), (140, (0, []))))), (140, (.invokevirtual 252, (sv_N, (143, (0, []))))), (143, (.iconst 1, (.inl (1 : Int32), (144, (0, []))))), (144, (.ireturn, (sv_N, (145, (0, []))))), (145, (.aload_n 0, (sv_N, (146, (0, []))))), (146, (.bipush 40, (.inl (40 : Int32), (148, (0, []))))), (148, (.invokevirtual 246, (sv_N, (151, (0, []))))), (151, (.ifCond .eq 12, (sv_N, (154, (163, []))))), (154, (.aload_n 0, (sv_N, (155, (0, []))))), (155, (.getfield 276, (sv_N, (158, (0, []))))), (158, (.bipush 8, (.inl (8 : Int32), (160, (0, []))))), (160, (.if_icmp .ne 5, (sv_N, (163, (165, []))))), (163, (.iconst 0, (.inl (0 : Int32), (164, (0, []))))), (164, (.ireturn, (sv_N, (165, (0, []))))), (165, (.aload_n 0, (sv_N, (166, (0, []))))), (166, (.dup, (sv_N, (167, (0, []))))), (167, (.getfield 276, (sv_N, (170, (0, []))))), (170, (.iconst 1, (.inl (1 : Int32), (171, (0, []))))), (171, (.iadd, (sv_N, (172, (0, []))))), (172, (.putfield 276, (sv_N, (175, (0, []))))), (175, (.aload_n 0, (sv_N, (176, (0, []))))), (176, (.invokevirtual 249, (sv_N, (179, (0, []))))), (179, (.aload_n 0, (sv_N, (180, (0, []))))), (180, (.iload_n 1, (sv_N, (181, (0, []))))), (181, (.invokevirtual 279, (sv_N, (184, (0, []))))), (184, (.ifCond .eq 12, (sv_N, (187, (196, []))))), (187, (.aload_n 0, (sv_N, (188, (0, []))))), (188, (.bipush 41, (.inl (41 : Int32), (190, (0, []))))), (190, (.invokevirtual 246, (sv_N, (193, (0, []))))), (193, (.ifCond .ne 5, (sv_N, (196, (198, []))))), (196, (.iconst 0, (.inl (0 : Int32), (197, (0, []))))), (197, (.ireturn, (sv_N, (198, (0, []))))), (198, (.aload_n 0, (sv_N, (199, (0, []))))), (199, (.dup, (sv_N, (200, (0, []))))), (200, (.getfield 276, (sv_N, (203, (0, []))))), (203, (.iconst 1, (.inl (1 : Int32), (204, (0, []))))), (204, (.isub, (sv_N, (205, (0, []))))), (205, (.putfield 276, (sv_N, (208, (0, []))))), (208, (.aload_n 0, (sv_N, (209, (0, []))))), (209, (.invokevirtual 249, (sv_N, (212, (0, []))))), (212, (.iconst 1, (.inl (1 : Int32), (213, (0, []))))), (213, (.ireturn, (sv_N, (214, (0, [])))))]
noncomputable def ev_Mo_part0 (o1 : Int32 → sv_S → Option (Int32 × sv_S)) : sv_E := (fun i => sv_lk i fl_12, (fun i => sv_lk i kc_12, (fun _ => 0, (true, (fun pc => sv_lk pc [(14, (3, .inr (.inl n_Mo_step))), (28, (1, .inr (.inl n_Mo_nextToken))), (53, (2, .inl n_Mo_isName)), (65, (3, .inr (.inl n_Mo_step))), (79, (1, .inr (.inl n_Mo_nextToken))), (87, (2, .inl n_Mo_isSign)), (113, (1, .inr (.inl n_Mo_nextToken))), (118, (2, .inl (n_h_part0 o1))), (140, (3, .inr (.inl n_Mo_step))), (148, (2, .inl n_Mo_isSign)), (176, (1, .inr (.inl n_Mo_nextToken))), (181, (2, .inl (n_Mo_either o1))), (190, (2, .inl n_Mo_isSign)), (209, (1, .inr (.inl n_Mo_nextToken)))], none)))))
noncomputable def kk_Mo_part0_145 (o1 : Int32 → sv_S → Option (Int32 × sv_S)) : sv_K (Int32 × sv_S) := fun pc => sv_lk pc []
set_option maxRecDepth 20000 in
theorem e_Mo_part0_145 (o1 : Int32 → sv_S → Option (Int32 × sv_S)) (x1 : Int32) (σ : sv_S) : sv_ex (ev_Mo_part0 o1) sv_rZ (kk_Mo_part0_145 o1) cd_Mo_part0 120 145 [some (.inr (.inr (some (30, 0)))), some (.inl x1)] [] σ = f_Mo_part0_145 o1 x1 σ := by
  unfold f_Mo_part0_145
  delta ev_Mo_part0 kk_Mo_part0_145 n_Mo_step n_Mo_nextToken n_Mo_isName n_Mo_isSign n_h_part0 n_Mo_either
  generalize f_Mo_step = c0
  generalize f_Mo_nextToken = c1
  generalize f_Mo_isName = c2
  generalize f_Mo_isSign = c3
  generalize f_Mo_either = c4
  rfl
noncomputable def kk_Mo_part0_84 (o1 : Int32 → sv_S → Option (Int32 × sv_S)) : sv_K (Int32 × sv_S) := fun pc => sv_lk pc [(145, fun lo st σ => match lo, st with
    | [some (.inr (.inr (some (30, 0)))), some (.inl x1)], [] => f_Mo_part0_145 o1 x1 σ
    | _, _ => none)]
set_option maxRecDepth 20000 in
theorem e_Mo_part0_84 (o1 : Int32 → sv_S → Option (Int32 × sv_S)) (x1 : Int32) (σ : sv_S) : sv_ex (ev_Mo_part0 o1) sv_rZ (kk_Mo_part0_84 o1) cd_Mo_part0 120 84 [some (.inr (.inr (some (30, 0)))), some (.inl x1)] [] σ = f_Mo_part0_84 o1 x1 σ := by
  unfold f_Mo_part0_84
  delta ev_Mo_part0 kk_Mo_part0_84 n_Mo_step n_Mo_nextToken n_Mo_isName n_Mo_isSign n_h_part0 n_Mo_either
  generalize f_Mo_step = c0
  generalize f_Mo_nextToken = c1
  generalize f_Mo_isName = c2
  generalize f_Mo_isSign = c3
  generalize f_Mo_either = c4
  generalize f_Mo_part0_145 = c5
  rfl
noncomputable def kk_Mo_part0 (o1 : Int32 → sv_S → Option (Int32 × sv_S)) : sv_K (Int32 × sv_S) := fun pc => sv_lk pc [(84, fun lo st σ => match lo, st with
    | [some (.inr (.inr (some (30, 0)))), some (.inl x1)], [] => f_Mo_part0_84 o1 x1 σ
    | _, _ => none)]
set_option maxRecDepth 20000 in
theorem e_Mo_part0 (o1 : Int32 → sv_S → Option (Int32 × sv_S)) (a1 : Int32) (σ : sv_S) : sv_ex (ev_Mo_part0 o1) sv_rZ (kk_Mo_part0 o1) cd_Mo_part0 120 0 [some (.inr (.inr (some (30, 0)))), some (.inl a1)] [] σ = f_Mo_part0 o1 a1 σ := by
  unfold f_Mo_part0
  delta ev_Mo_part0 kk_Mo_part0 n_Mo_step n_Mo_nextToken n_Mo_isName n_Mo_isSign n_h_part0 n_Mo_either
  generalize f_Mo_step = c0
  generalize f_Mo_nextToken = c1
  generalize f_Mo_isName = c2
  generalize f_Mo_isSign = c3
  generalize f_Mo_either = c4
  generalize f_Mo_part0_84 = c5
  rfl
theorem d_Mo_part0 : cd_Mo_part0.all (sv_dk cX12_part0) = true := by decide +kernel
set_option maxRecDepth 20000 in
theorem w_Mo_part0_145 {Γ : sv_Ga} {res : Int32 × sv_S} (o1 : Int32 → sv_S → Option (Int32 × sv_S)) (X : sv_Ok Γ (ev_Mo_part0 o1) cX12_part0 sv_rZ res) : ∀ (x1 : Int32) (σ : sv_S), f_Mo_part0_145 o1 x1 σ = some res → sv_T Γ 145 [some (.inr (.inr (some (30, 0)))), some (.inl x1)] [] σ := by
  intro x1 σ h
  refine sv_run X d_Mo_part0 (K := kk_Mo_part0_145 o1) (sv_lk_all (P := fun pc (k : sv_Lo → List sv_V → sv_S → Option (Int32 × sv_S)) => ∀ lo st σ, k lo st σ = some res → sv_T Γ pc lo st σ) ?_) _ _ _ _ _ ((e_Mo_part0_145 o1 x1 σ).trans h)
  clear h
  exact fun _ h => absurd h List.not_mem_nil

set_option maxRecDepth 20000 in
theorem w_Mo_part0_84 {Γ : sv_Ga} {res : Int32 × sv_S} (o1 : Int32 → sv_S → Option (Int32 × sv_S)) (X : sv_Ok Γ (ev_Mo_part0 o1) cX12_part0 sv_rZ res) : ∀ (x1 : Int32) (σ : sv_S), f_Mo_part0_84 o1 x1 σ = some res → sv_T Γ 84 [some (.inr (.inr (some (30, 0)))), some (.inl x1)] [] σ := by
  intro x1 σ h
  refine sv_run X d_Mo_part0 (K := kk_Mo_part0_84 o1) (sv_lk_all (P := fun pc (k : sv_Lo → List sv_V → sv_S → Option (Int32 × sv_S)) => ∀ lo st σ, k lo st σ = some res → sv_T Γ pc lo st σ) ?_) _ _ _ _ _ ((e_Mo_part0_84 o1 x1 σ).trans h)
  clear h
  refine List.forall_mem_cons.mpr ⟨fun lo st σ h => ?_, fun _ h => absurd h List.not_mem_nil⟩
  · dsimp only at h
    split at h
    · exact w_Mo_part0_145 o1 X _ _ h
    · cases h

set_option maxRecDepth 20000 in
theorem b_Mo_part0 (o1 : Int32 → sv_S → Option (Int32 × sv_S)) (Γ : sv_Ga) (res : Int32 × sv_S) (X : sv_Ok Γ (ev_Mo_part0 o1) cX12_part0 sv_rZ res) (as : List sv_V) (σ : sv_S) (h : n_Mo_part0 o1 as σ = some res) : sv_T Γ 0 (sv_e0 2 as) [] σ := by
  unfold n_Mo_part0 at h
  split at h
  · refine sv_run X d_Mo_part0 (K := kk_Mo_part0 o1) (sv_lk_all (P := fun pc (k : sv_Lo → List sv_V → sv_S → Option (Int32 × sv_S)) => ∀ lo st σ, k lo st σ = some res → sv_T Γ pc lo st σ) ?_) _ _ _ _ _ ((e_Mo_part0 o1 _ _).trans h)
    clear h
    refine List.forall_mem_cons.mpr ⟨fun lo st σ h => ?_, fun _ h => absurd h List.not_mem_nil⟩
    · dsimp only at h
      split at h
      · exact w_Mo_part0_84 o1 X _ _ h
      · cases h
  · cases h
theorem a_Mo_part0 (o1 : Int32 → sv_S → Option (Int32 × sv_S)) (as : List sv_V) (σ : sv_S) (x : Int32 × sv_S) (h : n_Mo_part0 o1 as σ = some x) : sv_args 2 (ev_Mo_part0 o1).2.2.2.1 as := by
  unfold n_Mo_part0 at h
  split at h
  · exact ⟨Nat.le_of_ble_eq_true rfl, fun _ v hv => by
      simp only [List.mem_cons, List.not_mem_nil, or_false] at hv
      rcases hv with rfl | rfl <;> trivial⟩
  · cases h
theorem g_Mo_part0 (o1 : Int32 → sv_S → Option (Int32 × sv_S)) (as : List sv_V) (σ : sv_S) (x : Option sv_V × sv_S) (h : sv_gI (n_Mo_part0 o1) as σ = some x) : ∃ r i as', as = sv_R r i :: as' ∧ sv_kd r i = .inl 12 := by
  obtain ⟨_, _, h, -⟩ := sv_b_some h
  unfold n_Mo_part0 at h
  split at h
  · exact ⟨_, _, _, rfl, rfl⟩
  · cases h
theorem tw_40 : Cond.selects RX12 yX12_either yX12_either ∈ gw_tbl := gw_at 40 (by decide +kernel) rfl
theorem tw_1358 : Cond.methodLink RX12 279 yX12_either ∈ gw_tbl := gw_at 1358 (by decide +kernel) rfl
theorem tw_1360 : Cond.instanceMethod yX12_either ∈ gw_tbl := gw_at 1360 (by decide +kernel) rfl
theorem tw_1361 : Cond.code yX12_either cX12_either 2 (some .boolean) ∈ gw_tbl := gw_at 1361 (by decide +kernel) rfl
theorem tw_1386 : Cond.methodLink RX12 270 yX12_isName ∈ gw_tbl := gw_at 1386 (by decide +kernel) rfl
theorem tw_1387 : Cond.static yX12_isName ∈ gw_tbl := gw_at 1387 (by decide +kernel) rfl
theorem tw_1388 : Cond.code yX12_isName cX12_isName 2 (some .boolean) ∈ gw_tbl := gw_at 1388 (by decide +kernel) rfl
set_option maxRecDepth 20000 in
theorem m_Mo_part0 (l : Launch) (o1 : Int32 → sv_S → Option (Int32 × sv_S)) (h : Nat) (ho1 : sv_M l yX12_part0 cX12_part0 2 (some .boolean) (sv_gI (n_h_part0 o1)) h) : sv_M l yX12_part0 cX12_part0 2 (some .boolean) (sv_gI (n_Mo_part0 o1)) (h + 8) := by
  refine sv_mZ (E := (ev_Mo_part0 o1)) (by decide +kernel) (ln_gen fk_12 kk_12 (sv_ns _ (fun _ => rfl) _)) rfl ?_ (a_Mo_part0 o1) (b_Mo_part0 o1)
  intro p e R s m args below meth c cells slots Q base ad dC dI cA n0 S hkn hR hf pc n f hcs
  refine sv_lk_all (P := fun pc (x : Nat × sv_F) => sv_cok p l e R s m args below meth c cells slots Q base ad dC dI cA true 2 n0 pc x.1 x.2) ?_ pc (n, f) hcs
  exact List.forall_mem_cons.mpr ⟨(sv_cV S hkn (m_Mo_step l) ⟨Nat.le_trans (by omega) hR.1, Nat.le_trans (by omega) hR.2⟩ (by decide) hf rfl (g_Mo_step) (sv_w5 tw_1382 tw_1384 tw_46 tw_65 tw_1385) (by decide +kernel) (sv_dc3 d_Mo_part0 (pc := 14) rfl rfl)).V,
      List.forall_mem_cons.mpr ⟨(sv_cV S hkn (m_Mo_nextToken l) ⟨Nat.le_trans (by omega) hR.1, Nat.le_trans (by omega) hR.2⟩ (by decide) hf rfl (g_Mo_nextToken) (sv_w5 tw_1330 tw_1332 tw_34 tw_65 tw_1333) (by decide +kernel) (sv_dc3 d_Mo_part0 (pc := 28) rfl rfl)).V,
      List.forall_mem_cons.mpr ⟨(sv_cS S hkn (m_Mo_isName l) ⟨Nat.le_trans (by omega) hR.1, Nat.le_trans (by omega) hR.2⟩ (by decide) hf (sv_w4 tw_1386 tw_1387 tw_65 tw_1388) (by decide +kernel) (sv_dc3 d_Mo_part0 (pc := 53) rfl rfl)).I,
      List.forall_mem_cons.mpr ⟨(sv_cV S hkn (m_Mo_step l) ⟨Nat.le_trans (by omega) hR.1, Nat.le_trans (by omega) hR.2⟩ (by decide) hf rfl (g_Mo_step) (sv_w5 tw_1382 tw_1384 tw_46 tw_65 tw_1385) (by decide +kernel) (sv_dc3 d_Mo_part0 (pc := 65) rfl rfl)).V,
      List.forall_mem_cons.mpr ⟨(sv_cV S hkn (m_Mo_nextToken l) ⟨Nat.le_trans (by omega) hR.1, Nat.le_trans (by omega) hR.2⟩ (by decide) hf rfl (g_Mo_nextToken) (sv_w5 tw_1330 tw_1332 tw_34 tw_65 tw_1333) (by decide +kernel) (sv_dc3 d_Mo_part0 (pc := 79) rfl rfl)).V,
      List.forall_mem_cons.mpr ⟨(sv_cV S hkn (m_Mo_isSign l) ⟨Nat.le_trans (by omega) hR.1, Nat.le_trans (by omega) hR.2⟩ (by decide) hf rfl (g_Mo_isSign) (sv_w5 tw_1389 tw_1391 tw_47 tw_65 tw_1392) (by decide +kernel) (sv_dc3 d_Mo_part0 (pc := 87) rfl rfl)).I,
      List.forall_mem_cons.mpr ⟨(sv_cV S hkn (m_Mo_nextToken l) ⟨Nat.le_trans (by omega) hR.1, Nat.le_trans (by omega) hR.2⟩ (by decide) hf rfl (g_Mo_nextToken) (sv_w5 tw_1330 tw_1332 tw_34 tw_65 tw_1333) (by decide +kernel) (sv_dc3 d_Mo_part0 (pc := 113) rfl rfl)).V,
      List.forall_mem_cons.mpr ⟨(sv_cV S hkn ho1 ⟨Nat.le_trans (by omega) hR.1, Nat.le_trans (by omega) hR.2⟩ (by decide) hf rfl (gh_part0 o1) (sv_w5 tw_1378 tw_1380 tw_45 tw_65 tw_1381) (by decide +kernel) (sv_dc3 d_Mo_part0 (pc := 118) rfl rfl)).I,
      List.forall_mem_cons.mpr ⟨(sv_cV S hkn (m_Mo_step l) ⟨Nat.le_trans (by omega) hR.1, Nat.le_trans (by omega) hR.2⟩ (by decide) hf rfl (g_Mo_step) (sv_w5 tw_1382 tw_1384 tw_46 tw_65 tw_1385) (by decide +kernel) (sv_dc3 d_Mo_part0 (pc := 140) rfl rfl)).V,
      List.forall_mem_cons.mpr ⟨(sv_cV S hkn (m_Mo_isSign l) ⟨Nat.le_trans (by omega) hR.1, Nat.le_trans (by omega) hR.2⟩ (by decide) hf rfl (g_Mo_isSign) (sv_w5 tw_1389 tw_1391 tw_47 tw_65 tw_1392) (by decide +kernel) (sv_dc3 d_Mo_part0 (pc := 148) rfl rfl)).I,
      List.forall_mem_cons.mpr ⟨(sv_cV S hkn (m_Mo_nextToken l) ⟨Nat.le_trans (by omega) hR.1, Nat.le_trans (by omega) hR.2⟩ (by decide) hf rfl (g_Mo_nextToken) (sv_w5 tw_1330 tw_1332 tw_34 tw_65 tw_1333) (by decide +kernel) (sv_dc3 d_Mo_part0 (pc := 176) rfl rfl)).V,
      List.forall_mem_cons.mpr ⟨(sv_cV S hkn (m_Mo_either l o1 h ho1) ⟨Nat.le_trans (by omega) hR.1, Nat.le_trans (by omega) hR.2⟩ (by decide) hf rfl ((g_Mo_either o1)) (sv_w5 tw_1358 tw_1360 tw_40 tw_65 tw_1361) (by decide +kernel) (sv_dc3 d_Mo_part0 (pc := 181) rfl rfl)).I,
      List.forall_mem_cons.mpr ⟨(sv_cV S hkn (m_Mo_isSign l) ⟨Nat.le_trans (by omega) hR.1, Nat.le_trans (by omega) hR.2⟩ (by decide) hf rfl (g_Mo_isSign) (sv_w5 tw_1389 tw_1391 tw_47 tw_65 tw_1392) (by decide +kernel) (sv_dc3 d_Mo_part0 (pc := 190) rfl rfl)).I,
      List.forall_mem_cons.mpr ⟨(sv_cV S hkn (m_Mo_nextToken l) ⟨Nat.le_trans (by omega) hR.1, Nat.le_trans (by omega) hR.2⟩ (by decide) hf rfl (g_Mo_nextToken) (sv_w5 tw_1330 tw_1332 tw_34 tw_65 tw_1333) (by decide +kernel) (sv_dc3 d_Mo_part0 (pc := 209) rfl rfl)).V,
      fun _ h => absurd h List.not_mem_nil⟩⟩⟩⟩⟩⟩⟩⟩⟩⟩⟩⟩⟩⟩
/-- part0 to a depth -/
noncomputable def r_Mo : Nat → Int32 → sv_S → Option (Int32 × sv_S)
  | 0 => fun _ _ => none
  | d + 1 => f_Mo_part0 (r_Mo d)
theorem mr_Mo (l : Launch) : ∀ d : Nat, sv_M l yX12_part0 cX12_part0 2 (some .boolean) (sv_gI (n_h_part0 (r_Mo d))) (8 * d) := by
  intro d
  induction d with
  | zero =>
    intro base ad dC dI cA as σ r σ' hG
    obtain ⟨_, _, h, -⟩ := sv_b_some hG
    unfold n_h_part0 at h
    split at h <;> cases h
  | succ d ih => exact m_Mo_part0 l (r_Mo d) (8 * d) ih
noncomputable def f_Mo_parse_111 (x1 : Int32) (x2 : Int32) (σ : sv_S) : Option (Int32 × sv_S) :=
    let σ1 := sv_up σ 30 0 17 (0 : Int32)
    sv_if (x2 = 0)
      (some ((-1 : Int32), σ1))
      (some (x1, σ1))
noncomputable def f_Mo_parse_81 (x1 : Int32) (y0 : Int32) (σ : sv_S) : Option (Int32 × sv_S) :=
    sv_if (y0 = 0)
      (f_Mo_parse_111 x1 y0 σ)
      (sv_b0 (f_Mo_nextToken σ) (fun σ1 =>
        sv_b (f_Mo_either (r_Mo 20) x1 σ1) (fun v2 σ3 =>
          sv_if (v2 = 0)
            (f_Mo_parse_111 x1 (0 : Int32) σ3)
            (sv_if ((σ3 30 0 20) = 0)
              (f_Mo_parse_111 x1 (1 : Int32) σ3)
              (f_Mo_parse_111 x1 (0 : Int32) σ3)))))
noncomputable def f_Mo_parse_60 (y0 : Int32) (σ : sv_S) : Option (Int32 × sv_S) :=
    let σ1 := sv_up σ 30 0 26 y0
    sv_b0 (f_Mo_nextToken σ1) (fun σ2 =>
      sv_b (f_Mo_key σ2) (fun v3 σ4 =>
        sv_if (v3 < 0)
          (f_Mo_parse_81 v3 (0 : Int32) σ4)
          (f_Mo_parse_81 v3 (1 : Int32) σ4)))
noncomputable def f_Mo_parse (σ : sv_S) : Option (Int32 × sv_S) :=
  let σ1 := sv_up σ 30 0 19 (0 : Int32)
  let σ2 := sv_up σ1 30 0 20 (3 : Int32)
  let σ3 := sv_up σ2 30 0 23 (0 : Int32)
  let σ4 := sv_up σ3 30 0 24 (0 : Int32)
  let σ5 := sv_up σ4 30 0 25 (0 : Int32)
  let σ6 := sv_up σ5 30 0 27 (0 : Int32)
  sv_g (sv_in (1 : Int32) 3086) (sv_if ((14 : Int32) ≤ (σ6 31 0 ((1 : Int32).toNatClampNeg)))
    (f_Mo_parse_60 (2886 : Int32) σ6)
    (sv_g (sv_in (1 : Int32) 3086) (sv_b (f_Mo_textAt (σ6 31 0 ((1 : Int32).toNatClampNeg)) σ6) (fun v7 σ8 =>
      f_Mo_parse_60 (v7 + (4 : Int32)) σ8))))
noncomputable def n_Mo_parse : List sv_V → sv_S → Option (Int32 × sv_S)
  | [.inr (.inr (some (30, 0)))], σ => f_Mo_parse σ
  | _, _ => none
def cd_Mo_parse : sv_C := [(0, (.aload_n 0, (sv_N, (1, (0, []))))), (1, (.iconst 0, (.inl (0 : Int32), (2, (0, []))))), (2, (.putfield 208, (sv_N, (5, (0, []))))), (5, (.aload_n 0, (sv_N, (6, (0, []))))), (6, (.iconst 3, (.inl (3 : Int32), (7, (0, []))))), (7, (.putfield 211, (sv_N, (10, (0, []))))), (10, (.aload_n 0, (sv_N, (11, (0, []))))), (11, (.iconst 0, (.inl (0 : Int32), (12, (0, []))))), (12, (.putfield 276, (sv_N, (15, (0, []))))), (15, (.aload_n 0, (sv_N, (16, (0, []))))), (16, (.iconst 0, (.inl (0 : Int32), (17, (0, []))))), (17, (.putfield 273, (sv_N, (20, (0, []))))), (20, (.aload_n 0, (sv_N, (21, (0, []))))), (21, (.iconst 0, (.inl (0 : Int32), (22, (0, []))))), (22, (.putfield 240, (sv_N, (25, (0, []))))), (25, (.aload_n 0, (sv_N, (26, (0, []))))), (26, (.iconst 0, (.inl (0 : Int32), (27, (0, []))))), (27, (.putfield 267, (sv_N, (30, (0, []))))), (30, (.aload_n 0, (sv_N, (31, (0, []))))), (31, (.aload_n 0, (sv_N, (32, (0, []))))), (32, (.getfield 7, (sv_N, (35, (0, []))))), (35, (.iconst 1, (.inl (1 : Int32), (36, (0, []))))), (36, (.iaload, (sv_N, (37, (0, []))))), (37, (.bipush 14, (.inl (14 : Int32), (39, (0, []))))), (39, (.if_icmp .ge 18, (sv_N, (42, (57, []))))), (42, (.aload_n 0, (sv_N, (43, (0, []))))), (43, (.aload_n 0, (sv_N, (44, (0, []))))), (44, (.getfield 7, (sv_N, (47, (0, []))))), (47, (.iconst 1, (.inl (1 : Int32), (48, (0, []))))), (48, (.iaload, (sv_N, (49, (0, []))))), (49, (.invokevirtual 282, (sv_N, (52, (0, []))))), (52, (.iconst 4, (.inl (4 : Int32), (53, (0, []))))), (53, (.iadd, (sv_N, (54, (0, []))))), (54, (.goto 6, (sv_N, (57, (60, []))))), (57, (.sipush 2886, (.inl (2886 : Int32), (60, (0, []))))), (60, (.putfield 237, (sv_N, (63, (0, []))))), (63, (.aload_n 0, (sv_N, (64, (0, []))))), (64, (.invokevirtual 249, (sv_N, (67, (0, []))))), (67, (.aload_n 0, (sv_N, (68, (0, []))))), (68, (.invokevirtual 285, (sv_N, (71, (0, []))))), (71, (.istore_n 1, (sv_N, (72, (0, []))))), (72, (.iload_n 1, (sv_N, (73, (0, []))))), (73, (.ifCond .lt 7, (sv_N, (76, (80, []))))), (76, (.iconst 1, (.inl (1 : Int32), (77, (0, []))))), (77, (.goto 4, (sv_N, (80, (81, []))))), (80, (.iconst 0, (.inl (0 : Int32), (81, (0, []))))), (81, (.istore_n 2, (sv_N, (82, (0, []))))), (82, (.iload_n 2, (sv_N, (83, (0, []))))), (83, (.ifCond .eq 28, (sv_N, (86, (111, []))))), (86, (.aload_n 0, (sv_N, (87, (0, []))))), (87, (.invokevirtual 249, (sv_N, (90, (0, []))))), (90, (.aload_n 0, (sv_N, (91, (0, []))))), (91, (.iload_n 1, (sv_N, (92, (0, []))))), (92, (.invokevirtual 279, (sv_N, (95, (0, []))))), (95, (.ifCond .eq 14, (sv_N, (98, (109, []))))), (98, (.aload_n 0, (sv_N, (99, (0, []))))), (99, (.getfield 211, (sv_N, (102, (0, []))))), (102, (.ifCond .ne 7, (sv_N, (105, (109, []))))), (105, (.iconst 1, (.inl (1 : Int32), (106, (0, []))))), (106, (.goto 4, (sv_N, (109, (110, []))))), (109, (.iconst 0, (.inl (0 : Int32), (110, (0, []))))), (110, (.istore_n 2, (sv_N, (111, (0, []))))), (111, (.aload_n 0, (sv_N, (112, (0, []))))), (112, (.iconst 0, (.inl (0 : Int32), (113, (0, []))))), (113, (.putfield 197, (sv_N, (116, (0, []))))), (116, (.iload_n 2, (sv_N, (117, (0, []))))), (117, (.ifCond .eq 7, (sv_N, (120, (124, []))))), (120, (.iload_n 1, (sv_N, (121, (0, []))))), (121, (.goto 4, (sv_N, (124, (125, []))))), (124, (.iconst (-1), (.inl (-1 : Int32), (125, (0, []))))), (125, (.ireturn, (sv_N, (126, (0, [])))))]
noncomputable def ev_Mo_parse : sv_E := (fun i => sv_lk i fl_12, (fun i => sv_lk i kc_12, (fun _ => 0, (true, (fun pc => sv_lk pc [(49, (2, .inl n_Mo_textAt)), (64, (1, .inr (.inl n_Mo_nextToken))), (68, (1, .inl n_Mo_key)), (87, (1, .inr (.inl n_Mo_nextToken))), (92, (2, .inl (n_Mo_either (r_Mo 20))))], none)))))
noncomputable def kk_Mo_parse_111 : sv_K (Int32 × sv_S) := fun pc => sv_lk pc []
set_option maxRecDepth 20000 in
theorem e_Mo_parse_111 (x1 : Int32) (x2 : Int32) (σ : sv_S) : sv_ex ev_Mo_parse sv_rI (kk_Mo_parse_111) cd_Mo_parse 73 111 [some (.inr (.inr (some (30, 0)))), some (.inl x1), some (.inl x2)] [] σ = f_Mo_parse_111 x1 x2 σ := by
  unfold f_Mo_parse_111
  delta ev_Mo_parse kk_Mo_parse_111 n_Mo_textAt n_Mo_nextToken n_Mo_key n_Mo_either
  generalize f_Mo_textAt = c0
  generalize f_Mo_nextToken = c1
  generalize f_Mo_key = c2
  generalize f_Mo_either = c3
  generalize r_Mo = c4
  rfl
noncomputable def kk_Mo_parse_81 : sv_K (Int32 × sv_S) := fun pc => sv_lk pc [(111, fun lo st σ => match lo, st with
    | [some (.inr (.inr (some (30, 0)))), some (.inl x1), some (.inl x2)], [] => f_Mo_parse_111 x1 x2 σ
    | _, _ => none)]
set_option maxRecDepth 20000 in
theorem e_Mo_parse_81 (x1 : Int32) (y0 : Int32) (z2 : Option sv_V) (σ : sv_S) : sv_ex ev_Mo_parse sv_rI (kk_Mo_parse_81) cd_Mo_parse 73 81 [some (.inr (.inr (some (30, 0)))), some (.inl x1), z2] [.inl y0] σ = f_Mo_parse_81 x1 y0 σ := by
  unfold f_Mo_parse_81
  delta ev_Mo_parse kk_Mo_parse_81 n_Mo_textAt n_Mo_nextToken n_Mo_key n_Mo_either
  generalize f_Mo_textAt = c0
  generalize f_Mo_nextToken = c1
  generalize f_Mo_key = c2
  generalize f_Mo_either = c3
  generalize r_Mo = c4
  generalize f_Mo_parse_111 = c5
  rfl
noncomputable def kk_Mo_parse_60 : sv_K (Int32 × sv_S) := fun pc => sv_lk pc [(81, fun lo st σ => match lo, st with
    | [some (.inr (.inr (some (30, 0)))), some (.inl x1), _], [.inl y0] => f_Mo_parse_81 x1 y0 σ
    | _, _ => none)]
set_option maxRecDepth 20000 in
theorem e_Mo_parse_60 (y0 : Int32) (z1 z2 : Option sv_V) (σ : sv_S) : sv_ex ev_Mo_parse sv_rI (kk_Mo_parse_60) cd_Mo_parse 73 60 [some (.inr (.inr (some (30, 0)))), z1, z2] [.inl y0, .inr (.inr (some (30, 0)))] σ = f_Mo_parse_60 y0 σ := by
  unfold f_Mo_parse_60
  delta ev_Mo_parse kk_Mo_parse_60 n_Mo_textAt n_Mo_nextToken n_Mo_key n_Mo_either
  generalize f_Mo_textAt = c0
  generalize f_Mo_nextToken = c1
  generalize f_Mo_key = c2
  generalize f_Mo_either = c3
  generalize r_Mo = c4
  generalize f_Mo_parse_81 = c5
  rfl
noncomputable def kk_Mo_parse : sv_K (Int32 × sv_S) := fun pc => sv_lk pc [(60, fun lo st σ => match lo, st with
    | [some (.inr (.inr (some (30, 0)))), _, _], [.inl y0, .inr (.inr (some (30, 0)))] => f_Mo_parse_60 y0 σ
    | _, _ => none)]
set_option maxRecDepth 20000 in
theorem e_Mo_parse (σ : sv_S) : sv_ex ev_Mo_parse sv_rI kk_Mo_parse cd_Mo_parse 73 0 [some (.inr (.inr (some (30, 0)))), none, none] [] σ = f_Mo_parse σ := by
  unfold f_Mo_parse
  delta ev_Mo_parse kk_Mo_parse n_Mo_textAt n_Mo_nextToken n_Mo_key n_Mo_either
  generalize f_Mo_textAt = c0
  generalize f_Mo_nextToken = c1
  generalize f_Mo_key = c2
  generalize f_Mo_either = c3
  generalize r_Mo = c4
  generalize f_Mo_parse_60 = c5
  rfl
theorem d_Mo_parse : cd_Mo_parse.all (sv_dk cX12_parse) = true := by decide +kernel
set_option maxRecDepth 20000 in
theorem w_Mo_parse_111 {Γ : sv_Ga} {res : Int32 × sv_S} (X : sv_Ok Γ ev_Mo_parse cX12_parse sv_rI res) : ∀ (x1 : Int32) (x2 : Int32) (σ : sv_S), f_Mo_parse_111 x1 x2 σ = some res → sv_T Γ 111 [some (.inr (.inr (some (30, 0)))), some (.inl x1), some (.inl x2)] [] σ := by
  intro x1 x2 σ h
  refine sv_run X d_Mo_parse (K := kk_Mo_parse_111) (sv_lk_all (P := fun pc (k : sv_Lo → List sv_V → sv_S → Option (Int32 × sv_S)) => ∀ lo st σ, k lo st σ = some res → sv_T Γ pc lo st σ) ?_) _ _ _ _ _ ((e_Mo_parse_111 x1 x2 σ).trans h)
  clear h
  exact fun _ h => absurd h List.not_mem_nil

set_option maxRecDepth 20000 in
theorem w_Mo_parse_81 {Γ : sv_Ga} {res : Int32 × sv_S} (X : sv_Ok Γ ev_Mo_parse cX12_parse sv_rI res) : ∀ (x1 : Int32) (y0 : Int32) (z2 : Option sv_V) (σ : sv_S), f_Mo_parse_81 x1 y0 σ = some res → sv_T Γ 81 [some (.inr (.inr (some (30, 0)))), some (.inl x1), z2] [.inl y0] σ := by
  intro x1 y0 z2 σ h
  refine sv_run X d_Mo_parse (K := kk_Mo_parse_81) (sv_lk_all (P := fun pc (k : sv_Lo → List sv_V → sv_S → Option (Int32 × sv_S)) => ∀ lo st σ, k lo st σ = some res → sv_T Γ pc lo st σ) ?_) _ _ _ _ _ ((e_Mo_parse_81 x1 y0 z2 σ).trans h)
  clear h
  refine List.forall_mem_cons.mpr ⟨fun lo st σ h => ?_, fun _ h => absurd h List.not_mem_nil⟩
  · dsimp only at h
    split at h
    · exact w_Mo_parse_111 X _ _ _ h
    · cases h

set_option maxRecDepth 20000 in
theorem w_Mo_parse_60 {Γ : sv_Ga} {res : Int32 × sv_S} (X : sv_Ok Γ ev_Mo_parse cX12_parse sv_rI res) : ∀ (y0 : Int32) (z1 z2 : Option sv_V) (σ : sv_S), f_Mo_parse_60 y0 σ = some res → sv_T Γ 60 [some (.inr (.inr (some (30, 0)))), z1, z2] [.inl y0, .inr (.inr (some (30, 0)))] σ := by
  intro y0 z1 z2 σ h
  refine sv_run X d_Mo_parse (K := kk_Mo_parse_60) (sv_lk_all (P := fun pc (k : sv_Lo → List sv_V → sv_S → Option (Int32 × sv_S)) => ∀ lo st σ, k lo st σ = some res → sv_T Γ pc lo st σ) ?_) _ _ _ _ _ ((e_Mo_parse_60 y0 z1 z2 σ).trans h)
  clear h
  refine List.forall_mem_cons.mpr ⟨fun lo st σ h => ?_, fun _ h => absurd h List.not_mem_nil⟩
  · dsimp only at h
    split at h
    · exact w_Mo_parse_81 X _ _ _ _ h
    · cases h

set_option maxRecDepth 20000 in
theorem b_Mo_parse (Γ : sv_Ga) (res : Int32 × sv_S) (X : sv_Ok Γ ev_Mo_parse cX12_parse sv_rI res) (as : List sv_V) (σ : sv_S) (h : n_Mo_parse as σ = some res) : sv_T Γ 0 (sv_e0 3 as) [] σ := by
  unfold n_Mo_parse at h
  split at h
  · refine sv_run X d_Mo_parse (K := kk_Mo_parse) (sv_lk_all (P := fun pc (k : sv_Lo → List sv_V → sv_S → Option (Int32 × sv_S)) => ∀ lo st σ, k lo st σ = some res → sv_T Γ pc lo st σ) ?_) _ _ _ _ _ ((e_Mo_parse _).trans h)
    clear h
    refine List.forall_mem_cons.mpr ⟨fun lo st σ h => ?_, fun _ h => absurd h List.not_mem_nil⟩
    · dsimp only at h
      split at h
      · exact w_Mo_parse_60 X _ _ _ _ h
      · cases h
  · cases h
theorem a_Mo_parse (as : List sv_V) (σ : sv_S) (x : Int32 × sv_S) (h : n_Mo_parse as σ = some x) : sv_args 3 ev_Mo_parse.2.2.2.1 as := by
  unfold n_Mo_parse at h
  split at h
  · exact ⟨Nat.le_of_ble_eq_true rfl, fun _ v hv => by
      simp only [List.mem_cons, List.not_mem_nil, or_false] at hv
      rcases hv with rfl <;> trivial⟩
  · cases h
theorem g_Mo_parse (as : List sv_V) (σ : sv_S) (x : Option sv_V × sv_S) (h : sv_gI n_Mo_parse as σ = some x) : ∃ r i as', as = sv_R r i :: as' ∧ sv_kd r i = .inl 12 := by
  obtain ⟨_, _, h, -⟩ := sv_b_some h
  unfold n_Mo_parse at h
  split at h
  · exact ⟨_, _, _, rfl, rfl⟩
  · cases h
theorem tw_37 : Cond.selects RX12 yX12_key yX12_key ∈ gw_tbl := gw_at 37 (by decide +kernel) rfl
theorem tw_1346 : Cond.methodLink RX12 285 yX12_key ∈ gw_tbl := gw_at 1346 (by decide +kernel) rfl
theorem tw_1348 : Cond.instanceMethod yX12_key ∈ gw_tbl := gw_at 1348 (by decide +kernel) rfl
theorem tw_1349 : Cond.code yX12_key cX12_key 1 (some .int) ∈ gw_tbl := gw_at 1349 (by decide +kernel) rfl
set_option maxRecDepth 20000 in
theorem m_Mo_parse (l : Launch) : sv_M l yX12_parse cX12_parse 3 (some .int) (sv_gI n_Mo_parse) 168 := by
  refine sv_mI (E := ev_Mo_parse) (by decide +kernel) (ln_gen fk_12 kk_12 (sv_ns _ (fun _ => rfl) _)) rfl ?_ a_Mo_parse b_Mo_parse
  intro p e R s m args below meth c cells slots Q base ad dC dI cA n0 S hkn hR hf pc n f hcs
  refine sv_lk_all (P := fun pc (x : Nat × sv_F) => sv_cok p l e R s m args below meth c cells slots Q base ad dC dI cA true 3 n0 pc x.1 x.2) ?_ pc (n, f) hcs
  exact List.forall_mem_cons.mpr ⟨(sv_cV S hkn (m_Mo_textAt l) ⟨Nat.le_trans (by decide) hR.1, Nat.le_trans (by decide) hR.2⟩ (by decide) hf rfl (g_Mo_textAt) (sv_w5 tw_1141 tw_1143 tw_15 tw_65 tw_1144) (by decide +kernel) (sv_dc3 d_Mo_parse (pc := 49) rfl rfl)).I,
      List.forall_mem_cons.mpr ⟨(sv_cV S hkn (m_Mo_nextToken l) ⟨Nat.le_trans (by decide) hR.1, Nat.le_trans (by decide) hR.2⟩ (by decide) hf rfl (g_Mo_nextToken) (sv_w5 tw_1330 tw_1332 tw_34 tw_65 tw_1333) (by decide +kernel) (sv_dc3 d_Mo_parse (pc := 64) rfl rfl)).V,
      List.forall_mem_cons.mpr ⟨(sv_cV S hkn (m_Mo_key l) ⟨Nat.le_trans (by decide) hR.1, Nat.le_trans (by decide) hR.2⟩ (by decide) hf rfl (g_Mo_key) (sv_w5 tw_1346 tw_1348 tw_37 tw_65 tw_1349) (by decide +kernel) (sv_dc3 d_Mo_parse (pc := 68) rfl rfl)).I,
      List.forall_mem_cons.mpr ⟨(sv_cV S hkn (m_Mo_nextToken l) ⟨Nat.le_trans (by decide) hR.1, Nat.le_trans (by decide) hR.2⟩ (by decide) hf rfl (g_Mo_nextToken) (sv_w5 tw_1330 tw_1332 tw_34 tw_65 tw_1333) (by decide +kernel) (sv_dc3 d_Mo_parse (pc := 87) rfl rfl)).V,
      List.forall_mem_cons.mpr ⟨(sv_cV S hkn (m_Mo_either l (r_Mo 20) (8 * 20) (mr_Mo l 20)) ⟨Nat.le_trans (by decide) hR.1, Nat.le_trans (by decide) hR.2⟩ (by decide) hf rfl ((g_Mo_either (r_Mo 20))) (sv_w5 tw_1358 tw_1360 tw_40 tw_65 tw_1361) (by decide +kernel) (sv_dc3 d_Mo_parse (pc := 92) rfl rfl)).I,
      fun _ h => absurd h List.not_mem_nil⟩⟩⟩⟩⟩
noncomputable def f_Mo_text (σ : sv_S) : Option (Int32 × sv_S) :=
  sv_b (f_Mo_parse σ) (fun v1 σ2 =>
    sv_if (0 ≤ v1)
      (sv_g (sv_in (1 : Int32) 3086) (sv_if ((σ2 31 0 ((1 : Int32).toNatClampNeg)) = (14 : Int32))
        (some ((-1000000003 : Int32), σ2))
        (sv_g (sv_in (1 : Int32) 3086) (sv_b (f_Mo_textAt (σ2 31 0 ((1 : Int32).toNatClampNeg)) σ2) (fun v3 σ4 =>
          sv_g (sv_in (v3 + (0 : Int32)) 3086) (sv_g (sv_in (v3 + (1 : Int32)) 3086) (sv_g (sv_in (v3 + (2 : Int32)) 3086) (sv_g (sv_in (1 : Int32) 3086) (sv_g (sv_in (1 : Int32) 3086) (sv_g (sv_in (1 : Int32) 3086) (some (((sv_up (sv_up (sv_up (sv_up σ4 31 0 ((v3 + (0 : Int32)).toNatClampNeg) v1) 31 0 ((v3 + (1 : Int32)).toNatClampNeg) ((sv_up σ4 31 0 ((v3 + (0 : Int32)).toNatClampNeg) v1) 30 0 27)) 31 0 ((v3 + (2 : Int32)).toNatClampNeg) ((sv_up (sv_up σ4 31 0 ((v3 + (0 : Int32)).toNatClampNeg) v1) 31 0 ((v3 + (1 : Int32)).toNatClampNeg) ((sv_up σ4 31 0 ((v3 + (0 : Int32)).toNatClampNeg) v1) 30 0 27)) 30 0 25)) 31 0 ((1 : Int32).toNatClampNeg) (((sv_up (sv_up (sv_up σ4 31 0 ((v3 + (0 : Int32)).toNatClampNeg) v1) 31 0 ((v3 + (1 : Int32)).toNatClampNeg) ((sv_up σ4 31 0 ((v3 + (0 : Int32)).toNatClampNeg) v1) 30 0 27)) 31 0 ((v3 + (2 : Int32)).toNatClampNeg) ((sv_up (sv_up σ4 31 0 ((v3 + (0 : Int32)).toNatClampNeg) v1) 31 0 ((v3 + (1 : Int32)).toNatClampNeg) ((sv_up σ4 31 0 ((v3 + (0 : Int32)).toNatClampNeg) v1) 30 0 27)) 30 0 25)) 31 0 ((1 : Int32).toNatClampNeg)) + (1 : Int32))) 31 0 ((1 : Int32).toNatClampNeg)) - (1 : Int32), sv_up (sv_up (sv_up (sv_up σ4 31 0 ((v3 + (0 : Int32)).toNatClampNeg) v1) 31 0 ((v3 + (1 : Int32)).toNatClampNeg) ((sv_up σ4 31 0 ((v3 + (0 : Int32)).toNatClampNeg) v1) 30 0 27)) 31 0 ((v3 + (2 : Int32)).toNatClampNeg) ((sv_up (sv_up σ4 31 0 ((v3 + (0 : Int32)).toNatClampNeg) v1) 31 0 ((v3 + (1 : Int32)).toNatClampNeg) ((sv_up σ4 31 0 ((v3 + (0 : Int32)).toNatClampNeg) v1) 30 0 27)) 30 0 25)) 31 0 ((1 : Int32).toNatClampNeg) (((sv_up (sv_up (sv_up σ4 31 0 ((v3 + (0 : Int32)).toNatClampNeg) v1) 31 0 ((v3 + (1 : Int32)).toNatClampNeg) ((sv_up σ4 31 0 ((v3 + (0 : Int32)).toNatClampNeg) v1) 30 0 27)) 31 0 ((v3 + (2 : Int32)).toNatClampNeg) ((sv_up (sv_up σ4 31 0 ((v3 + (0 : Int32)).toNatClampNeg) v1) 31 0 ((v3 + (1 : Int32)).toNatClampNeg) ((sv_up σ4 31 0 ((v3 + (0 : Int32)).toNatClampNeg) v1) 30 0 27)) 30 0 25)) 31 0 ((1 : Int32).toNatClampNeg)) + (1 : Int32))))))))))))))
      (some ((-100 : Int32) - (σ2 30 0 18), σ2)))
noncomputable def n_Mo_text : List sv_V → sv_S → Option (Int32 × sv_S)
  | [.inr (.inr (some (30, 0)))], σ => f_Mo_text σ
  | _, _ => none
def cd_Mo_text : sv_C := [(0, (.aload_n 0, (sv_N, (1, (0, []))))), (1, (.invokevirtual 288, (sv_N, (4, (0, []))))), (4, (.istore_n 1, (sv_N, (5, (0, []))))), (5, (.iload_n 1, (sv_N, (6, (0, []))))), (6, (.ifCond .ge 11, (sv_N, (9, (17, []))))), (9, (.bipush (-100), (.inl (-100 : Int32), (11, (0, []))))), (11, (.aload_n 0, (sv_N, (12, (0, []))))), (12, (.getfield 214, (sv_N, (15, (0, []))))), (15, (.isub, (sv_N, (16, (0, []))))), (16, (.ireturn, (sv_N, (17, (0, []))))), (17, (.aload_n 0, (sv_N, (18, (0, []))))), (18, (.getfield 7, (sv_N, (21, (0, []))))), (21, (.iconst 1, (.inl (1 : Int32), (22, (0, []))))), (22, (.iaload, (sv_N, (23, (0, []))))), (23, (.bipush 14, (.inl (14 : Int32), (25, (0, []))))), (25, (.if_icmp .ne 6, (sv_N, (28, (31, []))))), (28, (.ldc 85, (sv_N, (30, (0, []))))), (30, (.ireturn, (sv_N, (31, (0, []))))), (31, (.aload_n 0, (sv_N, (32, (0, []))))), (32, (.aload_n 0, (sv_N, (33, (0, []))))), (33, (.getfield 7, (sv_N, (36, (0, []))))), (36, (.iconst 1, (.inl (1 : Int32), (37, (0, []))))), (37, (.iaload, (sv_N, (38, (0, []))))), (38, (.invokevirtual 282, (sv_N, (41, (0, []))))), (41, (.istore_n 2, (sv_N, (42, (0, []))))), (42, (.aload_n 0, (sv_N, (43, (0, []))))), (43, (.getfield 7, (sv_N, (46, (0, []))))), (46, (.iload_n 2, (sv_N, (47, (0, []))))), (47, (.iconst 0, (.inl (0 : Int32), (48, (0, []))))), (48, (.iadd, (sv_N, (49, (0, []))))), (49, (.iload_n 1, (sv_N, (50, (0, []))))), (50, (.iastore, (sv_N, (51, (0, []))))), (51, (.aload_n 0, (sv_N, (52, (0, []))))), (52, (.getfield 7, (sv_N, (55, (0, []))))), (55, (.iload_n 2, (sv_N, (56, (0, []))))), (56, (.iconst 1, (.inl (1 : Int32), (57, (0, []))))), (57, (.iadd, (sv_N, (58, (0, []))))), (58, (.aload_n 0, (sv_N, (59, (0, []))))), (59, (.getfield 267, (sv_N, (62, (0, []))))), (62, (.iastore, (sv_N, (63, (0, []))))), (63, (.aload_n 0, (sv_N, (64, (0, []))))), (64, (.getfield 7, (sv_N, (67, (0, []))))), (67, (.iload_n 2, (sv_N, (68, (0, []))))), (68, (.iconst 2, (.inl (2 : Int32), (69, (0, []))))), (69, (.iadd, (sv_N, (70, (0, []))))), (70, (.aload_n 0, (sv_N, (71, (0, []))))), (71, (.getfield 240, (sv_N, (74, (0, []))))), (74, (.iastore, (sv_N, (75, (0, []))))), (75, (.aload_n 0, (sv_N, (76, (0, []))))), (76, (.getfield 7, (sv_N, (79, (0, []))))), (79, (.iconst 1, (.inl (1 : Int32), (80, (0, []))))), (80, (.dup2, (sv_N, (81, (0, []))))), (81, (.iaload, (sv_N, (82, (0, []))))), (82, (.iconst 1, (.inl (1 : Int32), (83, (0, []))))), (83, (.iadd, (sv_N, (84, (0, []))))), (84, (.iastore, (sv_N, (85, (0, []))))), (85, (.aload_n 0, (sv_N, (86, (0, []))))), (86, (.getfield 7, (sv_N, (89, (0, []))))), (89, (.iconst 1, (.inl (1 : Int32), (90, (0, []))))), (90, (.iaload, (sv_N, (91, (0, []))))), (91, (.iconst 1, (.inl (1 : Int32), (92, (0, []))))), (92, (.isub, (sv_N, (93, (0, []))))), (93, (.ireturn, (sv_N, (94, (0, [])))))]
noncomputable def ev_Mo_text : sv_E := (fun i => sv_lk i fl_12, (fun i => sv_lk i kc_12, (fun _ => 0, (true, (fun pc => sv_lk pc [(1, (1, .inl n_Mo_parse)), (38, (2, .inl n_Mo_textAt))], none)))))
noncomputable def kk_Mo_text : sv_K (Int32 × sv_S) := fun pc => sv_lk pc []
set_option maxRecDepth 20000 in
theorem e_Mo_text (σ : sv_S) : sv_ex ev_Mo_text sv_rI kk_Mo_text cd_Mo_text 65 0 [some (.inr (.inr (some (30, 0)))), none, none] [] σ = f_Mo_text σ := by
  unfold f_Mo_text
  delta ev_Mo_text kk_Mo_text n_Mo_parse n_Mo_textAt
  generalize f_Mo_parse = c0
  generalize f_Mo_textAt = c1
  rfl
theorem d_Mo_text : cd_Mo_text.all (sv_dk cX12_text) = true := by decide +kernel
set_option maxRecDepth 20000 in
theorem b_Mo_text (Γ : sv_Ga) (res : Int32 × sv_S) (X : sv_Ok Γ ev_Mo_text cX12_text sv_rI res) (as : List sv_V) (σ : sv_S) (h : n_Mo_text as σ = some res) : sv_T Γ 0 (sv_e0 3 as) [] σ := by
  unfold n_Mo_text at h
  split at h
  · refine sv_run X d_Mo_text (K := kk_Mo_text) (sv_lk_all (P := fun pc (k : sv_Lo → List sv_V → sv_S → Option (Int32 × sv_S)) => ∀ lo st σ, k lo st σ = some res → sv_T Γ pc lo st σ) ?_) _ _ _ _ _ ((e_Mo_text _).trans h)
    clear h
    exact fun _ h => absurd h List.not_mem_nil
  · cases h
theorem a_Mo_text (as : List sv_V) (σ : sv_S) (x : Int32 × sv_S) (h : n_Mo_text as σ = some x) : sv_args 3 ev_Mo_text.2.2.2.1 as := by
  unfold n_Mo_text at h
  split at h
  · exact ⟨Nat.le_of_ble_eq_true rfl, fun _ v hv => by
      simp only [List.mem_cons, List.not_mem_nil, or_false] at hv
      rcases hv with rfl <;> trivial⟩
  · cases h
theorem g_Mo_text (as : List sv_V) (σ : sv_S) (x : Option sv_V × sv_S) (h : sv_gI n_Mo_text as σ = some x) : ∃ r i as', as = sv_R r i :: as' ∧ sv_kd r i = .inl 12 := by
  obtain ⟨_, _, h, -⟩ := sv_b_some h
  unfold n_Mo_text at h
  split at h
  · exact ⟨_, _, _, rfl, rfl⟩
  · cases h
theorem tw_33 : Cond.selects RX12 yX12_parse yX12_parse ∈ gw_tbl := gw_at 33 (by decide +kernel) rfl
theorem tw_1326 : Cond.methodLink RX12 288 yX12_parse ∈ gw_tbl := gw_at 1326 (by decide +kernel) rfl
theorem tw_1328 : Cond.instanceMethod yX12_parse ∈ gw_tbl := gw_at 1328 (by decide +kernel) rfl
theorem tw_1329 : Cond.code yX12_parse cX12_parse 3 (some .int) ∈ gw_tbl := gw_at 1329 (by decide +kernel) rfl
set_option maxRecDepth 20000 in
theorem m_Mo_text (l : Launch) : sv_M l yX12_text cX12_text 3 (some .int) (sv_gI n_Mo_text) 169 := by
  refine sv_mI (E := ev_Mo_text) (by decide +kernel) (ln_gen fk_12 kk_12 (sv_ns _ (fun _ => rfl) _)) rfl ?_ a_Mo_text b_Mo_text
  intro p e R s m args below meth c cells slots Q base ad dC dI cA n0 S hkn hR hf pc n f hcs
  refine sv_lk_all (P := fun pc (x : Nat × sv_F) => sv_cok p l e R s m args below meth c cells slots Q base ad dC dI cA true 3 n0 pc x.1 x.2) ?_ pc (n, f) hcs
  exact List.forall_mem_cons.mpr ⟨(sv_cV S hkn (m_Mo_parse l) ⟨Nat.le_trans (by decide) hR.1, Nat.le_trans (by decide) hR.2⟩ (by decide) hf rfl (g_Mo_parse) (sv_w5 tw_1326 tw_1328 tw_33 tw_65 tw_1329) (by decide +kernel) (sv_dc3 d_Mo_text (pc := 1) rfl rfl)).I,
      List.forall_mem_cons.mpr ⟨(sv_cV S hkn (m_Mo_textAt l) ⟨Nat.le_trans (by decide) hR.1, Nat.le_trans (by decide) hR.2⟩ (by decide) hf rfl (g_Mo_textAt) (sv_w5 tw_1141 tw_1143 tw_15 tw_65 tw_1144) (by decide +kernel) (sv_dc3 d_Mo_text (pc := 38) rfl rfl)).I,
      fun _ h => absurd h List.not_mem_nil⟩⟩
