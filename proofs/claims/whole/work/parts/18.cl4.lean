noncomputable def f_On_trim (a1 : Int32) (σ : sv_S) : Option (Int32 × sv_S) :=
  sv_b (f_On_isWithin a1 (0 : Int32) (σ 8 0 1) σ) (fun v1 σ2 =>
    sv_if (v1 = 0)
      (some ((-1000000001 : Int32), σ2))
      (let σ3 := sv_up σ2 8 0 1 a1
      some (a1, σ3)))
noncomputable def n_On_trim : List sv_V → sv_S → Option (Int32 × sv_S)
  | [.inr (.inr (some (0, 0))), .inl a1], σ => f_On_trim a1 σ
  | _, _ => none
def cd_On_trim : sv_C := [(0, (.iload_n 1, (sv_N, (1, (0, []))))), (1, (.iconst 0, (.inl (0 : Int32), (2, (0, []))))), (2, (.aload_n 0, (sv_N, (3, (0, []))))), (3, (.getfield 45, (sv_N, (6, (0, []))))), (6, (.getfield 232, (sv_N, (9, (0, []))))), (9, (.invokestatic 83, (sv_N, (12, (0, []))))), (12, (.ifCond .ne 6, (sv_N, (15, (18, []))))), (15, (.ldc 87, (sv_N, (17, (0, []))))), (17, (.ireturn, (sv_N, (18, (0, []))))), (18, (.aload_n 0, (sv_N, (19, (0, []))))), (19, (.getfield 45, (sv_N, (22, (0, []))))), (22, (.iload_n 1, (sv_N, (23, (0, []))))), (23, (.putfield 232, (sv_N, (26, (0, []))))), (26, (.iload_n 1, (sv_N, (27, (0, []))))), (27, (.ireturn, (sv_N, (28, (0, [])))))]
noncomputable def ev_On_trim : sv_E := (fun i => sv_lk i fl_11, (fun i => sv_lk i kc_11, (fun i => bif Nat.beq i 166 then 1 else 0, (true, (fun pc => sv_lk pc [(9, (3, .inl n_On_isWithin))], none)))))
noncomputable def kk_On_trim : sv_K (Int32 × sv_S) := fun pc => sv_lk pc []
set_option maxRecDepth 20000 in
theorem e_On_trim (a1 : Int32) (σ : sv_S) : sv_ex ev_On_trim sv_rI kk_On_trim cd_On_trim 17 0 [some (.inr (.inr (some (0, 0)))), some (.inl a1)] [] σ = f_On_trim a1 σ := by
  unfold f_On_trim
  delta ev_On_trim kk_On_trim n_On_isWithin
  generalize f_On_isWithin = c0
  rfl
theorem d_On_trim : cd_On_trim.all (sv_dk cX11_trim) = true := by decide +kernel
set_option maxRecDepth 20000 in
theorem b_On_trim (Γ : sv_Ga) (res : Int32 × sv_S) (X : sv_Ok Γ ev_On_trim cX11_trim sv_rI res) (as : List sv_V) (σ : sv_S) (h : n_On_trim as σ = some res) : sv_T Γ 0 (sv_e0 2 as) [] σ := by
  unfold n_On_trim at h
  split at h
  · refine sv_run X d_On_trim (K := kk_On_trim) (sv_lk_all (P := fun pc (k : sv_Lo → List sv_V → sv_S → Option (Int32 × sv_S)) => ∀ lo st σ, k lo st σ = some res → sv_T Γ pc lo st σ) ?_) _ _ _ _ _ ((e_On_trim _ _).trans h)
    clear h
    exact fun _ h => absurd h List.not_mem_nil
  · cases h
theorem a_On_trim (as : List sv_V) (σ : sv_S) (x : Int32 × sv_S) (h : n_On_trim as σ = some x) : sv_args 2 ev_On_trim.2.2.2.1 as := by
  unfold n_On_trim at h
  split at h
  · exact ⟨Nat.le_of_ble_eq_true rfl, fun _ v hv => by
      simp only [List.mem_cons, List.not_mem_nil, or_false] at hv
      rcases hv with rfl | rfl <;> trivial⟩
  · cases h
theorem g_On_trim (as : List sv_V) (σ : sv_S) (x : Option sv_V × sv_S) (h : sv_gI n_On_trim as σ = some x) : ∃ r i as', as = sv_R r i :: as' ∧ sv_kd r i = .inl 11 := by
  obtain ⟨_, _, h, -⟩ := sv_b_some h
  unfold n_On_trim at h
  split at h
  · exact ⟨_, _, _, rfl, rfl⟩
  · cases h

set_option maxRecDepth 20000 in
theorem m_On_trim (l : Launch) : sv_M l yX11_trim cX11_trim 2 (some .int) (sv_gI n_On_trim) 1 := by
  refine sv_mI (E := ev_On_trim) (by decide +kernel) (ln_gen fk_11 kk_11 gk_11) rfl ?_ a_On_trim b_On_trim
  intro p e R s m args below meth c cells slots Q base ad dC dI cA n0 S hkn hR hf pc n f hcs
  refine sv_lk_all (P := fun pc (x : Nat × sv_F) => sv_cok p l e R s m args below meth c cells slots Q base ad dC dI cA true 2 n0 pc x.1 x.2) ?_ pc (n, f) hcs
  exact List.forall_mem_cons.mpr ⟨(sv_cS S hkn (m_On_isWithin l) ⟨Nat.le_trans (by decide) hR.1, Nat.le_trans (by decide) hR.2⟩ (by decide) hf (sv_w4 tw_327 tw_328 tw_53 tw_329) (by decide +kernel) (sv_dc3 d_On_trim (pc := 9) rfl rfl)).I,
      fun _ h => absurd h List.not_mem_nil⟩
noncomputable def f_On_textTold (a1 : Int32) (a2 : Int32) (σ : sv_S) : Option (Int32 × sv_S) :=
  sv_b (f_On_isWithin a1 (0 : Int32) ((σ 1 0 8) - (1 : Int32)) σ) (fun v1 σ2 =>
    sv_if (v1 = 0)
      (some ((-1000000001 : Int32), σ2))
      (sv_b (f_On_isWithin a2 (0 : Int32) (1 : Int32) σ2) (fun v3 σ4 =>
        sv_if (v3 = 0)
          (some ((-1000000001 : Int32), σ4))
          (sv_g (sv_in a1 14) (sv_tx (σ4 4 0 (a1.toNatClampNeg)) (sv_if (a2 = 0)
            (none)
            (none)) (fun t5 => sv_g (t5 < sv_ct σ4) (sv_if (a2 = 0)
            (some (σ4 18 t5 0, σ4))
            (some (σ4 18 t5 1, σ4)))))))))
noncomputable def n_On_textTold : List sv_V → sv_S → Option (Int32 × sv_S)
  | [.inr (.inr (some (0, 0))), .inl a1, .inl a2], σ => f_On_textTold a1 a2 σ
  | _, _ => none
def cd_On_textTold : sv_C := [(0, (.iload_n 1, (sv_N, (1, (0, []))))), (1, (.iconst 0, (.inl (0 : Int32), (2, (0, []))))), (2, (.aload_n 0, (sv_N, (3, (0, []))))), (3, (.getfield 30, (sv_N, (6, (0, []))))), (6, (.getfield 244, (sv_N, (9, (0, []))))), (9, (.iconst 1, (.inl (1 : Int32), (10, (0, []))))), (10, (.isub, (sv_N, (11, (0, []))))), (11, (.invokestatic 83, (sv_N, (14, (0, []))))), (14, (.ifCond .eq 12, (sv_N, (17, (26, []))))), (17, (.iload_n 2, (sv_N, (18, (0, []))))), (18, (.iconst 0, (.inl (0 : Int32), (19, (0, []))))), (19, (.iconst 1, (.inl (1 : Int32), (20, (0, []))))), (20, (.invokestatic 83, (sv_N, (23, (0, []))))), (23, (.ifCond .ne 6, (sv_N, (26, (29, []))))), (26, (.ldc 87, (sv_N, (28, (0, []))))), (28, (.ireturn, (sv_N, (29, (0, []))))), (29, (.aload_n 0, (sv_N, (30, (0, []))))), (30, (.getfield 30, (sv_N, (33, (0, []))))), (33, (.getfield 255, (sv_N, (36, (0, []))))), (36, (.iload_n 1, (sv_N, (37, (0, []))))), (37, (.aaload, (sv_N, (38, (0, []))))), (38, (.astore_n 3, (sv_N, (39, (0, []))))), (39, (.iload_n 2, (sv_N, (40, (0, []))))), (40, (.ifCond .ne 10, (sv_N, (43, (50, []))))), (43, (.aload_n 3, (sv_N, (44, (0, []))))), (44, (.getfield 259, (sv_N, (47, (0, []))))), (47, (.goto 7, (sv_N, (50, (54, []))))), (50, (.aload_n 3, (sv_N, (51, (0, []))))), (51, (.getfield 262, (sv_N, (54, (0, []))))), (54, (.ireturn, (sv_N, (55, (0, [])))))]
noncomputable def ev_On_textTold : sv_E := (fun i => sv_lk i fl_11, (fun i => sv_lk i kc_11, (fun i => bif Nat.beq i 166 then 1 else 0, (true, (fun pc => sv_lk pc [(11, (3, .inl n_On_isWithin)), (20, (3, .inl n_On_isWithin))], none)))))
noncomputable def kk_On_textTold : sv_K (Int32 × sv_S) := fun pc => sv_lk pc []
set_option maxRecDepth 20000 in
theorem e_On_textTold (a1 : Int32) (a2 : Int32) (σ : sv_S) : sv_ex ev_On_textTold sv_rI kk_On_textTold cd_On_textTold 32 0 [some (.inr (.inr (some (0, 0)))), some (.inl a1), some (.inl a2), none] [] σ = f_On_textTold a1 a2 σ := by
  unfold f_On_textTold
  delta ev_On_textTold kk_On_textTold n_On_isWithin
  generalize f_On_isWithin = c0
  rfl
theorem d_On_textTold : cd_On_textTold.all (sv_dk cX11_textTold) = true := by decide +kernel
set_option maxRecDepth 20000 in
theorem b_On_textTold (Γ : sv_Ga) (res : Int32 × sv_S) (X : sv_Ok Γ ev_On_textTold cX11_textTold sv_rI res) (as : List sv_V) (σ : sv_S) (h : n_On_textTold as σ = some res) : sv_T Γ 0 (sv_e0 4 as) [] σ := by
  unfold n_On_textTold at h
  split at h
  · refine sv_run X d_On_textTold (K := kk_On_textTold) (sv_lk_all (P := fun pc (k : sv_Lo → List sv_V → sv_S → Option (Int32 × sv_S)) => ∀ lo st σ, k lo st σ = some res → sv_T Γ pc lo st σ) ?_) _ _ _ _ _ ((e_On_textTold _ _ _).trans h)
    clear h
    exact fun _ h => absurd h List.not_mem_nil
  · cases h
theorem a_On_textTold (as : List sv_V) (σ : sv_S) (x : Int32 × sv_S) (h : n_On_textTold as σ = some x) : sv_args 4 ev_On_textTold.2.2.2.1 as := by
  unfold n_On_textTold at h
  split at h
  · exact ⟨Nat.le_of_ble_eq_true rfl, fun _ v hv => by
      simp only [List.mem_cons, List.not_mem_nil, or_false] at hv
      rcases hv with rfl | rfl | rfl <;> trivial⟩
  · cases h
theorem g_On_textTold (as : List sv_V) (σ : sv_S) (x : Option sv_V × sv_S) (h : sv_gI n_On_textTold as σ = some x) : ∃ r i as', as = sv_R r i :: as' ∧ sv_kd r i = .inl 11 := by
  obtain ⟨_, _, h, -⟩ := sv_b_some h
  unfold n_On_textTold at h
  split at h
  · exact ⟨_, _, _, rfl, rfl⟩
  · cases h

set_option maxRecDepth 20000 in
theorem m_On_textTold (l : Launch) : sv_M l yX11_textTold cX11_textTold 4 (some .int) (sv_gI n_On_textTold) 1 := by
  refine sv_mI (E := ev_On_textTold) (by decide +kernel) (ln_gen fk_11 kk_11 gk_11) rfl ?_ a_On_textTold b_On_textTold
  intro p e R s m args below meth c cells slots Q base ad dC dI cA n0 S hkn hR hf pc n f hcs
  refine sv_lk_all (P := fun pc (x : Nat × sv_F) => sv_cok p l e R s m args below meth c cells slots Q base ad dC dI cA true 4 n0 pc x.1 x.2) ?_ pc (n, f) hcs
  exact List.forall_mem_cons.mpr ⟨(sv_cS S hkn (m_On_isWithin l) ⟨Nat.le_trans (by decide) hR.1, Nat.le_trans (by decide) hR.2⟩ (by decide) hf (sv_w4 tw_327 tw_328 tw_53 tw_329) (by decide +kernel) (sv_dc3 d_On_textTold (pc := 11) rfl rfl)).I,
      List.forall_mem_cons.mpr ⟨(sv_cS S hkn (m_On_isWithin l) ⟨Nat.le_trans (by decide) hR.1, Nat.le_trans (by decide) hR.2⟩ (by decide) hf (sv_w4 tw_327 tw_328 tw_53 tw_329) (by decide +kernel) (sv_dc3 d_On_textTold (pc := 20) rfl rfl)).I,
      fun _ h => absurd h List.not_mem_nil⟩⟩
noncomputable def f_On_why (a1 : Int32) (σ : sv_S) : Option (Int32 × sv_S) :=
  sv_b (f_On_isWithin a1 (0 : Int32) (2 : Int32) σ) (fun v1 σ2 =>
    sv_if (v1 = 0)
      (some ((-1000000001 : Int32), σ2))
      (sv_g (sv_in a1 3) (sv_if (0 ≤ (σ2 5 0 (a1.toNatClampNeg)))
        (sv_g (sv_in a1 3) (some (σ2 5 0 (a1.toNatClampNeg), σ2)))
        (some ((-1000000005 : Int32), σ2)))))
noncomputable def n_On_why : List sv_V → sv_S → Option (Int32 × sv_S)
  | [.inr (.inr (some (0, 0))), .inl a1], σ => f_On_why a1 σ
  | _, _ => none
def cd_On_why : sv_C := [(0, (.iload_n 1, (sv_N, (1, (0, []))))), (1, (.iconst 0, (.inl (0 : Int32), (2, (0, []))))), (2, (.iconst 2, (.inl (2 : Int32), (3, (0, []))))), (3, (.invokestatic 83, (sv_N, (6, (0, []))))), (6, (.ifCond .ne 6, (sv_N, (9, (12, []))))), (9, (.ldc 87, (sv_N, (11, (0, []))))), (11, (.ireturn, (sv_N, (12, (0, []))))), (12, (.aload_n 0, (sv_N, (13, (0, []))))), (13, (.getfield 30, (sv_N, (16, (0, []))))), (16, (.getfield 265, (sv_N, (19, (0, []))))), (19, (.iload_n 1, (sv_N, (20, (0, []))))), (20, (.iaload, (sv_N, (21, (0, []))))), (21, (.ifCond .ge 8, (sv_N, (24, (29, []))))), (24, (.ldc 124, (sv_N, (26, (0, []))))), (26, (.goto 12, (sv_N, (29, (38, []))))), (29, (.aload_n 0, (sv_N, (30, (0, []))))), (30, (.getfield 30, (sv_N, (33, (0, []))))), (33, (.getfield 265, (sv_N, (36, (0, []))))), (36, (.iload_n 1, (sv_N, (37, (0, []))))), (37, (.iaload, (sv_N, (38, (0, []))))), (38, (.ireturn, (sv_N, (39, (0, [])))))]
noncomputable def ev_On_why : sv_E := (fun i => sv_lk i fl_11, (fun i => sv_lk i kc_11, (fun i => bif Nat.beq i 166 then 1 else 0, (true, (fun pc => sv_lk pc [(3, (3, .inl n_On_isWithin))], none)))))
noncomputable def kk_On_why : sv_K (Int32 × sv_S) := fun pc => sv_lk pc []
set_option maxRecDepth 20000 in
theorem e_On_why (a1 : Int32) (σ : sv_S) : sv_ex ev_On_why sv_rI kk_On_why cd_On_why 23 0 [some (.inr (.inr (some (0, 0)))), some (.inl a1)] [] σ = f_On_why a1 σ := by
  unfold f_On_why
  delta ev_On_why kk_On_why n_On_isWithin
  generalize f_On_isWithin = c0
  rfl
theorem d_On_why : cd_On_why.all (sv_dk cX11_why) = true := by decide +kernel
set_option maxRecDepth 20000 in
theorem b_On_why (Γ : sv_Ga) (res : Int32 × sv_S) (X : sv_Ok Γ ev_On_why cX11_why sv_rI res) (as : List sv_V) (σ : sv_S) (h : n_On_why as σ = some res) : sv_T Γ 0 (sv_e0 2 as) [] σ := by
  unfold n_On_why at h
  split at h
  · refine sv_run X d_On_why (K := kk_On_why) (sv_lk_all (P := fun pc (k : sv_Lo → List sv_V → sv_S → Option (Int32 × sv_S)) => ∀ lo st σ, k lo st σ = some res → sv_T Γ pc lo st σ) ?_) _ _ _ _ _ ((e_On_why _ _).trans h)
    clear h
    exact fun _ h => absurd h List.not_mem_nil
  · cases h
theorem a_On_why (as : List sv_V) (σ : sv_S) (x : Int32 × sv_S) (h : n_On_why as σ = some x) : sv_args 2 ev_On_why.2.2.2.1 as := by
  unfold n_On_why at h
  split at h
  · exact ⟨Nat.le_of_ble_eq_true rfl, fun _ v hv => by
      simp only [List.mem_cons, List.not_mem_nil, or_false] at hv
      rcases hv with rfl | rfl <;> trivial⟩
  · cases h
theorem g_On_why (as : List sv_V) (σ : sv_S) (x : Option sv_V × sv_S) (h : sv_gI n_On_why as σ = some x) : ∃ r i as', as = sv_R r i :: as' ∧ sv_kd r i = .inl 11 := by
  obtain ⟨_, _, h, -⟩ := sv_b_some h
  unfold n_On_why at h
  split at h
  · exact ⟨_, _, _, rfl, rfl⟩
  · cases h

set_option maxRecDepth 20000 in
theorem m_On_why (l : Launch) : sv_M l yX11_why cX11_why 2 (some .int) (sv_gI n_On_why) 1 := by
  refine sv_mI (E := ev_On_why) (by decide +kernel) (ln_gen fk_11 kk_11 gk_11) rfl ?_ a_On_why b_On_why
  intro p e R s m args below meth c cells slots Q base ad dC dI cA n0 S hkn hR hf pc n f hcs
  refine sv_lk_all (P := fun pc (x : Nat × sv_F) => sv_cok p l e R s m args below meth c cells slots Q base ad dC dI cA true 2 n0 pc x.1 x.2) ?_ pc (n, f) hcs
  exact List.forall_mem_cons.mpr ⟨(sv_cS S hkn (m_On_isWithin l) ⟨Nat.le_trans (by decide) hR.1, Nat.le_trans (by decide) hR.2⟩ (by decide) hf (sv_w4 tw_327 tw_328 tw_53 tw_329) (by decide +kernel) (sv_dc3 d_On_why (pc := 3) rfl rfl)).I,
      fun _ h => absurd h List.not_mem_nil⟩
noncomputable def f_On_sheet_29 (x1 : Int32) (x2 : Int32) (y0 : Int32) (σ : sv_S) : Option (Int32 × sv_S) :=
    sv_if (y0 ≤ (24 : Int32))
      (sv_if (0 ≤ y0)
        (sv_g (sv_in x1 4) (sv_b0 (f_Sh_begin (4 * 0 + (x1.toNatClampNeg)) x2 y0 σ) (fun σ1 =>
          some (y0, σ1))))
        (some ((-1000000014 : Int32), σ)))
      (some ((-1000000001 : Int32), σ))
noncomputable def f_On_sheet (a1 : Int32) (a2 : Int32) (a3 : Int32) (σ : sv_S) : Option (Int32 × sv_S) :=
  sv_b (f_On_isSheet a1 σ) (fun v1 σ2 =>
    sv_if (v1 = 0)
      (some ((-1000000001 : Int32), σ2))
      (sv_b (f_On_isWithin a2 (-1 : Int32) (1 : Int32) σ2) (fun v3 σ4 =>
        sv_if (v3 = 0)
          (some ((-1000000001 : Int32), σ4))
          (sv_if (a2 = (-1 : Int32))
            (f_On_sheet_29 a1 a2 (0 : Int32) σ4)
            (f_On_sheet_29 a1 a2 a3 σ4)))))
noncomputable def n_On_sheet : List sv_V → sv_S → Option (Int32 × sv_S)
  | [.inr (.inr (some (0, 0))), .inl a1, .inl a2, .inl a3], σ => f_On_sheet a1 a2 a3 σ
  | _, _ => none
def cd_On_sheet : sv_C := [(0, (.iload_n 1, (sv_N, (1, (0, []))))), (1, (.invokestatic 207, (sv_N, (4, (0, []))))), (4, (.ifCond .eq 12, (sv_N, (7, (16, []))))), (7, (.iload_n 2, (sv_N, (8, (0, []))))), (8, (.iconst (-1), (.inl (-1 : Int32), (9, (0, []))))), (9, (.iconst 1, (.inl (1 : Int32), (10, (0, []))))), (10, (.invokestatic 83, (sv_N, (13, (0, []))))), (13, (.ifCond .ne 6, (sv_N, (16, (19, []))))), (16, (.ldc 87, (sv_N, (18, (0, []))))), (18, (.ireturn, (sv_N, (19, (0, []))))), (19, (.iload_n 2, (sv_N, (20, (0, []))))), (20, (.iconst (-1), (.inl (-1 : Int32), (21, (0, []))))), (21, (.if_icmp .ne 7, (sv_N, (24, (28, []))))), (24, (.iconst 0, (.inl (0 : Int32), (25, (0, []))))), (25, (.goto 4, (sv_N, (28, (29, []))))), (28, (.iload_n 3, (sv_N, (29, (0, []))))), (29, (.istore 4, (sv_N, (31, (0, []))))), (31, (.iload 4, (sv_N, (33, (0, []))))), (33, (.bipush 24, (.inl (24 : Int32), (35, (0, []))))), (35, (.if_icmp .le 6, (sv_N, (38, (41, []))))), (38, (.ldc 87, (sv_N, (40, (0, []))))), (40, (.ireturn, (sv_N, (41, (0, []))))), (41, (.iload 4, (sv_N, (43, (0, []))))), (43, (.ifCond .ge 7, (sv_N, (46, (50, []))))), (46, (.ldc_w 268, (sv_N, (49, (0, []))))), (49, (.ireturn, (sv_N, (50, (0, []))))), (50, (.aload_n 0, (sv_N, (51, (0, []))))), (51, (.getfield 51, (sv_N, (54, (0, []))))), (54, (.iload_n 1, (sv_N, (55, (0, []))))), (55, (.aaload, (sv_N, (56, (0, []))))), (56, (.iload_n 2, (sv_N, (57, (0, []))))), (57, (.iload 4, (sv_N, (59, (0, []))))), (59, (.invokevirtual 269, (sv_N, (62, (0, []))))), (62, (.iload 4, (sv_N, (64, (0, []))))), (64, (.ireturn, (sv_N, (65, (0, [])))))]
noncomputable def ev_On_sheet : sv_E := (fun i => sv_lk i fl_11, (fun i => sv_lk i kc_11, (fun i => bif Nat.beq i 166 then 1 else 0, (true, (fun pc => sv_lk pc [(1, (1, .inl n_On_isSheet)), (10, (3, .inl n_On_isWithin)), (59, (3, .inr (.inl n_Sh_begin)))], none)))))
noncomputable def kk_On_sheet_29 : sv_K (Int32 × sv_S) := fun pc => sv_lk pc []
set_option maxRecDepth 20000 in
theorem e_On_sheet_29 (x1 : Int32) (x2 : Int32) (y0 : Int32) (z3 z4 : Option sv_V) (σ : sv_S) : sv_ex ev_On_sheet sv_rI (kk_On_sheet_29) cd_On_sheet 37 29 [some (.inr (.inr (some (0, 0)))), some (.inl x1), some (.inl x2), z3, z4] [.inl y0] σ = f_On_sheet_29 x1 x2 y0 σ := by
  unfold f_On_sheet_29
  delta ev_On_sheet kk_On_sheet_29 n_On_isSheet n_On_isWithin n_Sh_begin
  generalize f_On_isSheet = c0
  generalize f_On_isWithin = c1
  generalize f_Sh_begin = c2
  rfl
noncomputable def kk_On_sheet : sv_K (Int32 × sv_S) := fun pc => sv_lk pc [(29, fun lo st σ => match lo, st with
    | [some (.inr (.inr (some (0, 0)))), some (.inl x1), some (.inl x2), _, _], [.inl y0] => f_On_sheet_29 x1 x2 y0 σ
    | _, _ => none)]
set_option maxRecDepth 20000 in
theorem e_On_sheet (a1 : Int32) (a2 : Int32) (a3 : Int32) (σ : sv_S) : sv_ex ev_On_sheet sv_rI kk_On_sheet cd_On_sheet 37 0 [some (.inr (.inr (some (0, 0)))), some (.inl a1), some (.inl a2), some (.inl a3), none] [] σ = f_On_sheet a1 a2 a3 σ := by
  unfold f_On_sheet
  delta ev_On_sheet kk_On_sheet n_On_isSheet n_On_isWithin n_Sh_begin
  generalize f_On_isSheet = c0
  generalize f_On_isWithin = c1
  generalize f_Sh_begin = c2
  generalize f_On_sheet_29 = c3
  rfl
theorem d_On_sheet : cd_On_sheet.all (sv_dk cX11_sheet) = true := by decide +kernel
set_option maxRecDepth 20000 in
theorem w_On_sheet_29 {Γ : sv_Ga} {res : Int32 × sv_S} (X : sv_Ok Γ ev_On_sheet cX11_sheet sv_rI res) : ∀ (x1 : Int32) (x2 : Int32) (y0 : Int32) (z3 z4 : Option sv_V) (σ : sv_S), f_On_sheet_29 x1 x2 y0 σ = some res → sv_T Γ 29 [some (.inr (.inr (some (0, 0)))), some (.inl x1), some (.inl x2), z3, z4] [.inl y0] σ := by
  intro x1 x2 y0 z3 z4 σ h
  refine sv_run X d_On_sheet (K := kk_On_sheet_29) (sv_lk_all (P := fun pc (k : sv_Lo → List sv_V → sv_S → Option (Int32 × sv_S)) => ∀ lo st σ, k lo st σ = some res → sv_T Γ pc lo st σ) ?_) _ _ _ _ _ ((e_On_sheet_29 x1 x2 y0 z3 z4 σ).trans h)
  clear h
  exact fun _ h => absurd h List.not_mem_nil

set_option maxRecDepth 20000 in
theorem b_On_sheet (Γ : sv_Ga) (res : Int32 × sv_S) (X : sv_Ok Γ ev_On_sheet cX11_sheet sv_rI res) (as : List sv_V) (σ : sv_S) (h : n_On_sheet as σ = some res) : sv_T Γ 0 (sv_e0 5 as) [] σ := by
  unfold n_On_sheet at h
  split at h
  · refine sv_run X d_On_sheet (K := kk_On_sheet) (sv_lk_all (P := fun pc (k : sv_Lo → List sv_V → sv_S → Option (Int32 × sv_S)) => ∀ lo st σ, k lo st σ = some res → sv_T Γ pc lo st σ) ?_) _ _ _ _ _ ((e_On_sheet _ _ _ _).trans h)
    clear h
    refine List.forall_mem_cons.mpr ⟨fun lo st σ h => ?_, fun _ h => absurd h List.not_mem_nil⟩
    · dsimp only at h
      split at h
      · exact w_On_sheet_29 X _ _ _ _ _ _ h
      · cases h
  · cases h
theorem a_On_sheet (as : List sv_V) (σ : sv_S) (x : Int32 × sv_S) (h : n_On_sheet as σ = some x) : sv_args 5 ev_On_sheet.2.2.2.1 as := by
  unfold n_On_sheet at h
  split at h
  · exact ⟨Nat.le_of_ble_eq_true rfl, fun _ v hv => by
      simp only [List.mem_cons, List.not_mem_nil, or_false] at hv
      rcases hv with rfl | rfl | rfl | rfl <;> trivial⟩
  · cases h
theorem g_On_sheet (as : List sv_V) (σ : sv_S) (x : Option sv_V × sv_S) (h : sv_gI n_On_sheet as σ = some x) : ∃ r i as', as = sv_R r i :: as' ∧ sv_kd r i = .inl 11 := by
  obtain ⟨_, _, h, -⟩ := sv_b_some h
  unfold n_On_sheet at h
  split at h
  · exact ⟨_, _, _, rfl, rfl⟩
  · cases h
theorem tw_904 : Cond.methodLink RX11 269 yX6_begin ∈ gw_tbl := gw_at 904 (by decide +kernel) rfl
theorem tw_905 : Cond.instanceMethod yX6_begin ∈ gw_tbl := gw_at 905 (by decide +kernel) rfl
theorem tw_906 : Cond.selects RX6 yX6_begin yX6_begin ∈ gw_tbl := gw_at 906 (by decide +kernel) rfl
theorem tw_907 : Cond.code yX6_begin cX6_begin 3 none ∈ gw_tbl := gw_at 907 (by decide +kernel) rfl
set_option maxRecDepth 20000 in
theorem m_On_sheet (l : Launch) : sv_M l yX11_sheet cX11_sheet 5 (some .int) (sv_gI n_On_sheet) 2 := by
  refine sv_mI (E := ev_On_sheet) (by decide +kernel) (ln_gen fk_11 kk_11 gk_11) rfl ?_ a_On_sheet b_On_sheet
  intro p e R s m args below meth c cells slots Q base ad dC dI cA n0 S hkn hR hf pc n f hcs
  refine sv_lk_all (P := fun pc (x : Nat × sv_F) => sv_cok p l e R s m args below meth c cells slots Q base ad dC dI cA true 5 n0 pc x.1 x.2) ?_ pc (n, f) hcs
  exact List.forall_mem_cons.mpr ⟨(sv_cS S hkn (m_On_isSheet l) ⟨Nat.le_trans (by decide) hR.1, Nat.le_trans (by decide) hR.2⟩ (by decide) hf (sv_w4 tw_623 tw_624 tw_53 tw_625) (by decide +kernel) (sv_dc3 d_On_sheet (pc := 1) rfl rfl)).I,
      List.forall_mem_cons.mpr ⟨(sv_cS S hkn (m_On_isWithin l) ⟨Nat.le_trans (by decide) hR.1, Nat.le_trans (by decide) hR.2⟩ (by decide) hf (sv_w4 tw_327 tw_328 tw_53 tw_329) (by decide +kernel) (sv_dc3 d_On_sheet (pc := 10) rfl rfl)).I,
      List.forall_mem_cons.mpr ⟨(sv_cV S hkn (m_Sh_begin l) ⟨Nat.le_trans (by decide) hR.1, Nat.le_trans (by decide) hR.2⟩ (by decide) hf rfl (g_Sh_begin) (sv_w5 tw_904 tw_905 tw_906 tw_64 tw_907) (by decide +kernel) (sv_dc3 d_On_sheet (pc := 59) rfl rfl)).V,
      fun _ h => absurd h List.not_mem_nil⟩⟩⟩
noncomputable def f_On_mark_92 (x2 : Int32) (x3 : Int32) (x4 : Nat) (σ : sv_S) : Option (Int32 × sv_S) :=
    sv_g (sv_in x2 24) (some ((1 : Int32), sv_up σ 13 x4 (x2.toNatClampNeg) x3))
noncomputable def f_On_mark (a1 : Int32) (a2 : Int32) (a3 : Int32) (σ : sv_S) : Option (Int32 × sv_S) :=
  sv_b (f_On_isSheet a1 σ) (fun v1 σ2 =>
    sv_if (v1 = 0)
      (some ((-1000000001 : Int32), σ2))
      (sv_g (sv_in a1 4) (sv_b (f_Sh_isMissing (4 * 0 + (a1.toNatClampNeg)) σ2) (fun v3 σ4 =>
        sv_if (v3 = 0)
          (sv_b (f_Sh_hasPlace (4 * 0 + (a1.toNatClampNeg)) a2 σ4) (fun v5 σ6 =>
            sv_if (v5 = 0)
              (some ((-1000000013 : Int32), σ6))
              (sv_if ((σ6 12 (4 * 0 + (a1.toNatClampNeg)) 0) = 0)
                (sv_if (a3 = (-1000000005 : Int32))
                  (some ((-1000000012 : Int32), σ6))
                  (sv_g (sv_in a2 24) (some ((1 : Int32), sv_up σ6 13 (4 * 0 + (a1.toNatClampNeg)) (a2.toNatClampNeg) (a3.toInt16.toInt32)))))
                (sv_if (a3 = (-1000000005 : Int32))
                  (f_On_mark_92 a2 a3 (4 * 0 + (a1.toNatClampNeg)) σ6)
                  (sv_b (f_On_isWithin a3 (-99999 : Int32) (99999 : Int32) σ6) (fun v7 σ8 =>
                    sv_if (v7 = 0)
                      (some ((-1000000001 : Int32), σ8))
                      (f_On_mark_92 a2 a3 (4 * 0 + (a1.toNatClampNeg)) σ8)))))))
          (some ((-1000000011 : Int32), σ4))))))
noncomputable def n_On_mark : List sv_V → sv_S → Option (Int32 × sv_S)
  | [.inr (.inr (some (0, 0))), .inl a1, .inl a2, .inl a3], σ => f_On_mark a1 a2 a3 σ
  | _, _ => none
def cd_On_mark : sv_C := [(0, (.iload_n 1, (sv_N, (1, (0, []))))), (1, (.invokestatic 207, (sv_N, (4, (0, []))))), (4, (.ifCond .ne 6, (sv_N, (7, (10, []))))), (7, (.ldc 87, (sv_N, (9, (0, []))))), (9, (.ireturn, (sv_N, (10, (0, []))))), (10, (.aload_n 0, (sv_N, (11, (0, []))))), (11, (.getfield 51, (sv_N, (14, (0, []))))), (14, (.iload_n 1, (sv_N, (15, (0, []))))), (15, (.aaload, (sv_N, (16, (0, []))))), (16, (.astore 4, (sv_N, (18, (0, []))))), (18, (.aload 4, (sv_N, (20, (0, []))))), (20, (.invokevirtual 210, (sv_N, (23, (0, []))))), (23, (.ifCond .eq 6, (sv_N, (26, (29, []))))), (26, (.ldc 214, (sv_N, (28, (0, []))))), (28, (.ireturn, (sv_N, (29, (0, []))))), (29, (.aload 4, (sv_N, (31, (0, []))))), (31, (.iload_n 2, (sv_N, (32, (0, []))))), (32, (.invokevirtual 273, (sv_N, (35, (0, []))))), (35, (.ifCond .ne 7, (sv_N, (38, (42, []))))), (38, (.ldc_w 276, (sv_N, (41, (0, []))))), (41, (.ireturn, (sv_N, (42, (0, []))))), (42, (.aload 4, (sv_N, (44, (0, []))))), (44, (.getfield 277, (sv_N, (47, (0, []))))), (47, (.ifCond .ne 23, (sv_N, (50, (70, []))))), (50, (.iload_n 3, (sv_N, (51, (0, []))))), (51, (.ldc 124, (sv_N, (53, (0, []))))), (53, (.if_icmp .ne 6, (sv_N, (56, (59, []))))), (56, (.ldc 153, (sv_N, (58, (0, []))))), (58, (.ireturn, (sv_N, (59, (0, []))))), (59, (.aload 4, (sv_N, (61, (0, []))))), (61, (.getfield 280, (sv_N, (64, (0, []))))), (64, (.iload_n 2, (sv_N, (65, (0, []))))), (65, (.iload_n 3, (sv_N, (66, (0, []))))), (66, (.i2s, (sv_N, (67, (0, []))))), (67, (.iastore, (sv_N, (68, (0, []))))), (68, (.iconst 1, (.inl (1 : Int32), (69, (0, []))))), (69, (.ireturn, (sv_N, (70, (0, []))))), (70, (.iload_n 3, (sv_N, (71, (0, []))))), (71, (.ldc 124, (sv_N, (73, (0, []))))), (73, (.if_icmp .eq 19, (sv_N, (76, (92, []))))), (76, (.iload_n 3, (sv_N, (77, (0, []))))), (77, (.ldc_w 283, (sv_N, (80, (0, []))))), (80, (.ldc_w 284, (sv_N, (83, (0, []))))), (83, (.invokestatic 83, (sv_N, (86, (0, []))))), (86, (.ifCond .ne 6, (sv_N, (89, (92, []))))), (89, (.ldc 87, (sv_N, (91, (0, []))))), (91, (.ireturn, (sv_N, (92, (0, []))))), (92, (.aload 4, (sv_N, (94, (0, []))))), (94, (.getfield 280, (sv_N, (97, (0, []))))), (97, (.iload_n 2, (sv_N, (98, (0, []))))), (98, (.iload_n 3, (sv_N, (99, (0, []))))), (99, (.iastore, (sv_N, (100, (0, []))))), (100, (.iconst 1, (.inl (1 : Int32), (101, (0, []))))), (101, (.ireturn, (sv_N, (102, (0, [])))))]
noncomputable def ev_On_mark : sv_E := (fun i => sv_lk i fl_11, (fun i => sv_lk i kc_11, (fun i => bif Nat.beq i 166 then 1 else 0, (true, (fun pc => sv_lk pc [(1, (1, .inl n_On_isSheet)), (20, (1, .inl n_Sh_isMissing)), (32, (2, .inl n_Sh_hasPlace)), (83, (3, .inl n_On_isWithin))], none)))))
noncomputable def kk_On_mark_92 : sv_K (Int32 × sv_S) := fun pc => sv_lk pc []
set_option maxRecDepth 20000 in
theorem e_On_mark_92 (x2 : Int32) (x3 : Int32) (x4 : Nat) (z0 z1 : Option sv_V) (σ : sv_S) : sv_ex ev_On_mark sv_rI (kk_On_mark_92) cd_On_mark 56 92 [z0, z1, some (.inl x2), some (.inl x3), some (.inr (.inr (some (12, x4))))] [] σ = f_On_mark_92 x2 x3 x4 σ := by
  unfold f_On_mark_92
  delta ev_On_mark kk_On_mark_92 n_On_isSheet n_Sh_isMissing n_Sh_hasPlace n_On_isWithin
  generalize f_On_isSheet = c0
  generalize f_Sh_isMissing = c1
  generalize f_Sh_hasPlace = c2
  generalize f_On_isWithin = c3
  rfl
noncomputable def kk_On_mark : sv_K (Int32 × sv_S) := fun pc => sv_lk pc [(92, fun lo st σ => match lo, st with
    | [_, _, some (.inl x2), some (.inl x3), some (.inr (.inr (some (12, x4))))], [] => f_On_mark_92 x2 x3 x4 σ
    | _, _ => none)]
set_option maxRecDepth 20000 in
theorem e_On_mark (a1 : Int32) (a2 : Int32) (a3 : Int32) (σ : sv_S) : sv_ex ev_On_mark sv_rI kk_On_mark cd_On_mark 56 0 [some (.inr (.inr (some (0, 0)))), some (.inl a1), some (.inl a2), some (.inl a3), none] [] σ = f_On_mark a1 a2 a3 σ := by
  unfold f_On_mark
  delta ev_On_mark kk_On_mark n_On_isSheet n_Sh_isMissing n_Sh_hasPlace n_On_isWithin
  generalize f_On_isSheet = c0
  generalize f_Sh_isMissing = c1
  generalize f_Sh_hasPlace = c2
  generalize f_On_isWithin = c3
  generalize f_On_mark_92 = c4
  rfl
theorem d_On_mark : cd_On_mark.all (sv_dk cX11_mark) = true := by decide +kernel
set_option maxRecDepth 20000 in
theorem w_On_mark_92 {Γ : sv_Ga} {res : Int32 × sv_S} (X : sv_Ok Γ ev_On_mark cX11_mark sv_rI res) : ∀ (x2 : Int32) (x3 : Int32) (x4 : Nat) (z0 z1 : Option sv_V) (σ : sv_S), f_On_mark_92 x2 x3 x4 σ = some res → sv_T Γ 92 [z0, z1, some (.inl x2), some (.inl x3), some (.inr (.inr (some (12, x4))))] [] σ := by
  intro x2 x3 x4 z0 z1 σ h
  refine sv_run X d_On_mark (K := kk_On_mark_92) (sv_lk_all (P := fun pc (k : sv_Lo → List sv_V → sv_S → Option (Int32 × sv_S)) => ∀ lo st σ, k lo st σ = some res → sv_T Γ pc lo st σ) ?_) _ _ _ _ _ ((e_On_mark_92 x2 x3 x4 z0 z1 σ).trans h)
  clear h
  exact fun _ h => absurd h List.not_mem_nil

set_option maxRecDepth 20000 in
theorem b_On_mark (Γ : sv_Ga) (res : Int32 × sv_S) (X : sv_Ok Γ ev_On_mark cX11_mark sv_rI res) (as : List sv_V) (σ : sv_S) (h : n_On_mark as σ = some res) : sv_T Γ 0 (sv_e0 5 as) [] σ := by
  unfold n_On_mark at h
  split at h
  · refine sv_run X d_On_mark (K := kk_On_mark) (sv_lk_all (P := fun pc (k : sv_Lo → List sv_V → sv_S → Option (Int32 × sv_S)) => ∀ lo st σ, k lo st σ = some res → sv_T Γ pc lo st σ) ?_) _ _ _ _ _ ((e_On_mark _ _ _ _).trans h)
    clear h
    refine List.forall_mem_cons.mpr ⟨fun lo st σ h => ?_, fun _ h => absurd h List.not_mem_nil⟩
    · dsimp only at h
      split at h
      · exact w_On_mark_92 X _ _ _ _ _ _ h
      · cases h
  · cases h
theorem a_On_mark (as : List sv_V) (σ : sv_S) (x : Int32 × sv_S) (h : n_On_mark as σ = some x) : sv_args 5 ev_On_mark.2.2.2.1 as := by
  unfold n_On_mark at h
  split at h
  · exact ⟨Nat.le_of_ble_eq_true rfl, fun _ v hv => by
      simp only [List.mem_cons, List.not_mem_nil, or_false] at hv
      rcases hv with rfl | rfl | rfl | rfl <;> trivial⟩
  · cases h
theorem g_On_mark (as : List sv_V) (σ : sv_S) (x : Option sv_V × sv_S) (h : sv_gI n_On_mark as σ = some x) : ∃ r i as', as = sv_R r i :: as' ∧ sv_kd r i = .inl 11 := by
  obtain ⟨_, _, h, -⟩ := sv_b_some h
  unfold n_On_mark at h
  split at h
  · exact ⟨_, _, _, rfl, rfl⟩
  · cases h
theorem tw_913 : Cond.methodLink RX11 273 yX6_hasPlace ∈ gw_tbl := gw_at 913 (by decide +kernel) rfl
set_option maxRecDepth 20000 in
theorem m_On_mark (l : Launch) : sv_M l yX11_mark cX11_mark 5 (some .int) (sv_gI n_On_mark) 1 := by
  refine sv_mI (E := ev_On_mark) (by decide +kernel) (ln_gen fk_11 kk_11 gk_11) rfl ?_ a_On_mark b_On_mark
  intro p e R s m args below meth c cells slots Q base ad dC dI cA n0 S hkn hR hf pc n f hcs
  refine sv_lk_all (P := fun pc (x : Nat × sv_F) => sv_cok p l e R s m args below meth c cells slots Q base ad dC dI cA true 5 n0 pc x.1 x.2) ?_ pc (n, f) hcs
  exact List.forall_mem_cons.mpr ⟨(sv_cS S hkn (m_On_isSheet l) ⟨Nat.le_trans (by decide) hR.1, Nat.le_trans (by decide) hR.2⟩ (by decide) hf (sv_w4 tw_623 tw_624 tw_53 tw_625) (by decide +kernel) (sv_dc3 d_On_mark (pc := 1) rfl rfl)).I,
      List.forall_mem_cons.mpr ⟨(sv_cV S hkn (m_Sh_isMissing l) ⟨Nat.le_trans (by decide) hR.1, Nat.le_trans (by decide) hR.2⟩ (by decide) hf rfl (g_Sh_isMissing) (sv_w5 tw_626 tw_627 tw_628 tw_64 tw_629) (by decide +kernel) (sv_dc3 d_On_mark (pc := 20) rfl rfl)).I,
      List.forall_mem_cons.mpr ⟨(sv_cV S hkn (m_Sh_hasPlace l) ⟨Nat.le_trans (by decide) hR.1, Nat.le_trans (by decide) hR.2⟩ (by decide) hf rfl (g_Sh_hasPlace) (sv_w5 tw_913 tw_644 tw_645 tw_64 tw_646) (by decide +kernel) (sv_dc3 d_On_mark (pc := 32) rfl rfl)).I,
      List.forall_mem_cons.mpr ⟨(sv_cS S hkn (m_On_isWithin l) ⟨Nat.le_trans (by decide) hR.1, Nat.le_trans (by decide) hR.2⟩ (by decide) hf (sv_w4 tw_327 tw_328 tw_53 tw_329) (by decide +kernel) (sv_dc3 d_On_mark (pc := 83) rfl rfl)).I,
      fun _ h => absurd h List.not_mem_nil⟩⟩⟩⟩
noncomputable def f_On_pour_32 : Nat → Nat → Int32 → Int32 → sv_S → Option (Int32 × sv_S)
  | 0, _, _, _, _ => none
  | n + 1, x2, x3, x4, σ =>
    sv_if ((σ 1 0 4) ≤ x4)
      (some (x3, σ))
      (sv_b (f_Sh_hasNumber x2 x4 σ) (fun v1 σ2 =>
        sv_if (v1 = 0)
          (f_On_pour_32 n x2 x3 (x4 + (1 : Int32)) σ2)
          (sv_g (sv_in x4 24) (sv_b (f_On_withinStarts (σ2 13 x2 (x4.toNatClampNeg)) σ2) (fun v3 σ4 =>
            sv_g (sv_in x4 10) (sv_if ((σ4 2 (10 * 0 + (x4.toNatClampNeg)) 1) = v3)
              (f_On_pour_32 n x2 x3 (x4 + (1 : Int32)) σ4)
              (sv_g (sv_in x4 10) (let σ5 := sv_up σ4 2 (10 * 0 + (x4.toNatClampNeg)) 1 v3
              f_On_pour_32 n x2 (x3 + (1 : Int32)) (x4 + (1 : Int32)) σ5))))))))
noncomputable def f_On_pour (a1 : Int32) (σ : sv_S) : Option (Int32 × sv_S) :=
  sv_b (f_On_isSheet a1 σ) (fun v1 σ2 =>
    sv_if (v1 = 0)
      (some ((-1000000001 : Int32), σ2))
      (sv_g (sv_in a1 4) (sv_b (f_Sh_isMissing (4 * 0 + (a1.toNatClampNeg)) σ2) (fun v3 σ4 =>
        sv_if (v3 = 0)
          (f_On_pour_32 sv_fu (4 * 0 + (a1.toNatClampNeg)) (0 : Int32) (0 : Int32) σ4)
          (some ((-1000000011 : Int32), σ4))))))
noncomputable def n_On_pour : List sv_V → sv_S → Option (Int32 × sv_S)
  | [.inr (.inr (some (0, 0))), .inl a1], σ => f_On_pour a1 σ
  | _, _ => none
def cd_On_pour : sv_C := [(0, (.iload_n 1, (sv_N, (1, (0, []))))), (1, (.invokestatic 207, (sv_N, (4, (0, []))))), (4, (.ifCond .ne 6, (sv_N, (7, (10, []))))), (7, (.ldc 87, (sv_N, (9, (0, []))))), (9, (.ireturn, (sv_N, (10, (0, []))))), (10, (.aload_n 0, (sv_N, (11, (0, []))))), (11, (.getfield 51, (sv_N, (14, (0, []))))), (14, (.iload_n 1, (sv_N, (15, (0, []))))), (15, (.aaload, (sv_N, (16, (0, []))))), (16, (.astore_n 2, (sv_N, (17, (0, []))))), (17, (.aload_n 2, (sv_N, (18, (0, []))))), (18, (.invokevirtual 210, (sv_N, (21, (0, []))))), (21, (.ifCond .eq 6, (sv_N, (24, (27, []))))), (24, (.ldc 214, (sv_N, (26, (0, []))))), (26, (.ireturn, (sv_N, (27, (0, []))))), (27, (.iconst 0, (.inl (0 : Int32), (28, (0, []))))), (28, (.istore_n 3, (sv_N, (29, (0, []))))), (29, (.iconst 0, (.inl (0 : Int32), (30, (0, []))))), (30, (.istore 4, (sv_N, (32, (0, []))))), (32, (.iload 4, (sv_N, (34, (0, []))))), (34, (.aload_n 0, (sv_N, (35, (0, []))))), (35, (.getfield 30, (sv_N, (38, (0, []))))), (38, (.getfield 88, (sv_N, (41, (0, []))))), (41, (.if_icmp .ge 66, (sv_N, (44, (107, []))))), (44, (.aload_n 2, (sv_N, (45, (0, []))))), (45, (.iload 4, (sv_N, (47, (0, []))))), (47, (.invokevirtual 285, (sv_N, (50, (0, []))))), (50, (.ifCond .eq 51, (sv_N, (53, (101, []))))), (53, (.aload_n 2, (sv_N, (54, (0, []))))), (54, (.getfield 280, (sv_N, (57, (0, []))))), (57, (.iload 4, (sv_N, (59, (0, []))))), (59, (.iaload, (sv_N, (60, (0, []))))), (60, (.invokestatic 288, (sv_N, (63, (0, []))))), (63, (.istore 5, (sv_N, (65, (0, []))))), (65, (.aload_n 0, (sv_N, (66, (0, []))))), (66, (.getfield 30, (sv_N, (69, (0, []))))), (69, (.getfield 100, (sv_N, (72, (0, []))))), (72, (.iload 4, (sv_N, (74, (0, []))))), (74, (.aaload, (sv_N, (75, (0, []))))), (75, (.getfield 106, (sv_N, (78, (0, []))))), (78, (.iload 5, (sv_N, (80, (0, []))))), (80, (.if_icmp .eq 21, (sv_N, (83, (101, []))))), (83, (.aload_n 0, (sv_N, (84, (0, []))))), (84, (.getfield 30, (sv_N, (87, (0, []))))), (87, (.getfield 100, (sv_N, (90, (0, []))))), (90, (.iload 4, (sv_N, (92, (0, []))))), (92, (.aaload, (sv_N, (93, (0, []))))), (93, (.iload 5, (sv_N, (95, (0, []))))), (95, (.putfield 106, (sv_N, (98, (0, []))))), (98, (.iinc 3 1, (.inl (1 : Int32), (101, (0, []))))), (101, (.iinc 4 1, (.inl (1 : Int32), (104, (0, []))))), (104, (.goto (-72), (sv_N, (107, (32, []))))), (107, (.iload_n 3, (sv_N, (108, (0, []))))), (108, (.ireturn, (sv_N, (109, (0, [])))))]
noncomputable def ev_On_pour : sv_E := (fun i => sv_lk i fl_11, (fun i => sv_lk i kc_11, (fun i => bif Nat.beq i 166 then 1 else 0, (true, (fun pc => sv_lk pc [(1, (1, .inl n_On_isSheet)), (18, (1, .inl n_Sh_isMissing)), (47, (2, .inl n_Sh_hasNumber)), (60, (1, .inl n_On_withinStarts))], none)))))
noncomputable def kk_On_pour_32 (n : Nat) : sv_K (Int32 × sv_S) := fun pc => sv_lk pc [(32, fun lo st σ => match lo, st with
    | [some (.inr (.inr (some (0, 0)))), _, some (.inr (.inr (some (12, x2)))), some (.inl x3), some (.inl x4), _], [] => f_On_pour_32 n x2 x3 x4 σ
    | _, _ => none)]
set_option maxRecDepth 20000 in
theorem e_On_pour_32 (n : Nat) (x2 : Nat) (x3 : Int32) (x4 : Int32) (z1 z5 : Option sv_V) (σ : sv_S) : sv_ex ev_On_pour sv_rI (kk_On_pour_32 n) cd_On_pour 56 32 [some (.inr (.inr (some (0, 0)))), z1, some (.inr (.inr (some (12, x2)))), some (.inl x3), some (.inl x4), z5] [] σ = f_On_pour_32 (n + 1) x2 x3 x4 σ := by
  rw [f_On_pour_32.eq_2]
  delta ev_On_pour kk_On_pour_32 n_On_isSheet n_Sh_isMissing n_Sh_hasNumber n_On_withinStarts
  generalize f_On_isSheet = c0
  generalize f_Sh_isMissing = c1
  generalize f_Sh_hasNumber = c2
  generalize f_On_withinStarts = c3
  generalize f_On_pour_32 = c4
  rfl
noncomputable def kk_On_pour : sv_K (Int32 × sv_S) := fun pc => sv_lk pc [(32, fun lo st σ => match lo, st with
    | [some (.inr (.inr (some (0, 0)))), _, some (.inr (.inr (some (12, x2)))), some (.inl x3), some (.inl x4), _], [] => f_On_pour_32 sv_fu x2 x3 x4 σ
    | _, _ => none)]
set_option maxRecDepth 20000 in
theorem e_On_pour (a1 : Int32) (σ : sv_S) : sv_ex ev_On_pour sv_rI kk_On_pour cd_On_pour 56 0 [some (.inr (.inr (some (0, 0)))), some (.inl a1), none, none, none, none] [] σ = f_On_pour a1 σ := by
  unfold f_On_pour
  delta ev_On_pour kk_On_pour n_On_isSheet n_Sh_isMissing n_Sh_hasNumber n_On_withinStarts
  generalize f_On_isSheet = c0
  generalize f_Sh_isMissing = c1
  generalize f_Sh_hasNumber = c2
  generalize f_On_withinStarts = c3
  generalize f_On_pour_32 = c4
  rfl
theorem d_On_pour : cd_On_pour.all (sv_dk cX11_pour) = true := by decide +kernel
set_option maxRecDepth 20000 in
theorem w_On_pour_32 {Γ : sv_Ga} {res : Int32 × sv_S} (X : sv_Ok Γ ev_On_pour cX11_pour sv_rI res) : ∀ (n : Nat) (x2 : Nat) (x3 : Int32) (x4 : Int32) (z1 z5 : Option sv_V) (σ : sv_S), f_On_pour_32 n x2 x3 x4 σ = some res → sv_T Γ 32 [some (.inr (.inr (some (0, 0)))), z1, some (.inr (.inr (some (12, x2)))), some (.inl x3), some (.inl x4), z5] [] σ := by
  intro n
  induction n with
  | zero =>
    intro x2 x3 x4 z1 z5 σ h
    rw [f_On_pour_32.eq_1] at h
    cases h
  | succ n ih =>
    intro x2 x3 x4 z1 z5 σ h
    refine sv_run X d_On_pour (K := kk_On_pour_32 n) (sv_lk_all (P := fun pc (k : sv_Lo → List sv_V → sv_S → Option (Int32 × sv_S)) => ∀ lo st σ, k lo st σ = some res → sv_T Γ pc lo st σ) ?_) _ _ _ _ _ ((e_On_pour_32 n x2 x3 x4 z1 z5 σ).trans h)
    clear h
    refine List.forall_mem_cons.mpr ⟨fun lo st σ h => ?_, fun _ h => absurd h List.not_mem_nil⟩
    · dsimp only at h
      split at h
      · exact ih _ _ _ _ _ _ h
      · cases h

set_option maxRecDepth 20000 in
theorem b_On_pour (Γ : sv_Ga) (res : Int32 × sv_S) (X : sv_Ok Γ ev_On_pour cX11_pour sv_rI res) (as : List sv_V) (σ : sv_S) (h : n_On_pour as σ = some res) : sv_T Γ 0 (sv_e0 6 as) [] σ := by
  unfold n_On_pour at h
  split at h
  · refine sv_run X d_On_pour (K := kk_On_pour) (sv_lk_all (P := fun pc (k : sv_Lo → List sv_V → sv_S → Option (Int32 × sv_S)) => ∀ lo st σ, k lo st σ = some res → sv_T Γ pc lo st σ) ?_) _ _ _ _ _ ((e_On_pour _ _).trans h)
    clear h
    refine List.forall_mem_cons.mpr ⟨fun lo st σ h => ?_, fun _ h => absurd h List.not_mem_nil⟩
    · dsimp only at h
      split at h
      · exact w_On_pour_32 X _ _ _ _ _ _ _ h
      · cases h
  · cases h
theorem a_On_pour (as : List sv_V) (σ : sv_S) (x : Int32 × sv_S) (h : n_On_pour as σ = some x) : sv_args 6 ev_On_pour.2.2.2.1 as := by
  unfold n_On_pour at h
  split at h
  · exact ⟨Nat.le_of_ble_eq_true rfl, fun _ v hv => by
      simp only [List.mem_cons, List.not_mem_nil, or_false] at hv
      rcases hv with rfl | rfl <;> trivial⟩
  · cases h
theorem g_On_pour (as : List sv_V) (σ : sv_S) (x : Option sv_V × sv_S) (h : sv_gI n_On_pour as σ = some x) : ∃ r i as', as = sv_R r i :: as' ∧ sv_kd r i = .inl 11 := by
  obtain ⟨_, _, h, -⟩ := sv_b_some h
  unfold n_On_pour at h
  split at h
  · exact ⟨_, _, _, rfl, rfl⟩
  · cases h
theorem tw_921 : Cond.methodLink RX11 288 yX11_withinStarts ∈ gw_tbl := gw_at 921 (by decide +kernel) rfl
set_option maxRecDepth 20000 in
theorem m_On_pour (l : Launch) : sv_M l yX11_pour cX11_pour 6 (some .int) (sv_gI n_On_pour) 2 := by
  refine sv_mI (E := ev_On_pour) (by decide +kernel) (ln_gen fk_11 kk_11 gk_11) rfl ?_ a_On_pour b_On_pour
  intro p e R s m args below meth c cells slots Q base ad dC dI cA n0 S hkn hR hf pc n f hcs
  refine sv_lk_all (P := fun pc (x : Nat × sv_F) => sv_cok p l e R s m args below meth c cells slots Q base ad dC dI cA true 6 n0 pc x.1 x.2) ?_ pc (n, f) hcs
  exact List.forall_mem_cons.mpr ⟨(sv_cS S hkn (m_On_isSheet l) ⟨Nat.le_trans (by decide) hR.1, Nat.le_trans (by decide) hR.2⟩ (by decide) hf (sv_w4 tw_623 tw_624 tw_53 tw_625) (by decide +kernel) (sv_dc3 d_On_pour (pc := 1) rfl rfl)).I,
      List.forall_mem_cons.mpr ⟨(sv_cV S hkn (m_Sh_isMissing l) ⟨Nat.le_trans (by decide) hR.1, Nat.le_trans (by decide) hR.2⟩ (by decide) hf rfl (g_Sh_isMissing) (sv_w5 tw_626 tw_627 tw_628 tw_64 tw_629) (by decide +kernel) (sv_dc3 d_On_pour (pc := 18) rfl rfl)).I,
      List.forall_mem_cons.mpr ⟨(sv_cV S hkn (m_Sh_hasNumber l) ⟨Nat.le_trans (by decide) hR.1, Nat.le_trans (by decide) hR.2⟩ (by decide) hf rfl (g_Sh_hasNumber) (sv_w5 tw_639 tw_640 tw_641 tw_64 tw_642) (by decide +kernel) (sv_dc3 d_On_pour (pc := 47) rfl rfl)).I,
      List.forall_mem_cons.mpr ⟨(sv_cS S hkn (m_On_withinStarts l) ⟨Nat.le_trans (by decide) hR.1, Nat.le_trans (by decide) hR.2⟩ (by decide) hf (sv_w4 tw_921 tw_401 tw_53 tw_402) (by decide +kernel) (sv_dc3 d_On_pour (pc := 60) rfl rfl)).I,
      fun _ h => absurd h List.not_mem_nil⟩⟩⟩⟩
noncomputable def f_On_reads_85 (k42 : Int32 → Nat → Int32 → sv_S → Option (Int32 × sv_S)) (x2 : Int32) (x3 : Nat) (x4 : Int32) (σ : sv_S) : Option (Int32 × sv_S) :=
    sv_b (f_Li_passOne 2 σ) (fun v1 σ2 =>
      k42 x2 x3 (x4 + (1 : Int32)) σ2)
noncomputable def f_On_reads_42 : Nat → Int32 → Nat → Int32 → sv_S → Option (Int32 × sv_S)
  | 0, _, _, _, _ => none
  | n + 1, x2, x3, x4, σ =>
    sv_if ((σ 12 x3 1) ≤ x4)
      (some ((-1000000005 : Int32), σ))
      (sv_b (f_Sh_hasNumber x3 x4 σ) (fun v1 σ2 =>
        sv_if (v1 = 0)
          (f_On_reads_85 (f_On_reads_42 n) x2 x3 x4 σ2)
          (sv_g (sv_in x4 24) (sv_g (sv_in x2 10) (sv_if ((σ2 13 x3 (x4.toNatClampNeg)) = (σ2 2 (10 * 2 + (x2.toNatClampNeg)) 2))
            (f_On_reads_85 (f_On_reads_42 n) x2 x3 x4 σ2)
            (some (x4, σ2)))))))
noncomputable def f_On_reads (a1 : Int32) (a2 : Int32) (σ : sv_S) : Option (Int32 × sv_S) :=
  sv_b (f_On_isSheet a1 σ) (fun v1 σ2 =>
    sv_if (v1 = 0)
      (some ((-1000000001 : Int32), σ2))
      (sv_b (f_On_isDrummer a2 σ2) (fun v3 σ4 =>
        sv_if (v3 = 0)
          (some ((-1000000001 : Int32), σ4))
          (sv_g (sv_in a1 4) (sv_b (f_Sh_isMissing (4 * 0 + (a1.toNatClampNeg)) σ4) (fun v5 σ6 =>
            sv_if (v5 = 0)
              (sv_b0 (f_On_think σ6) (fun σ7 =>
                f_On_reads_42 sv_fu a2 (4 * 0 + (a1.toNatClampNeg)) (0 : Int32) σ7))
              (some ((-1000000011 : Int32), σ6))))))))
noncomputable def n_On_reads : List sv_V → sv_S → Option (Int32 × sv_S)
  | [.inr (.inr (some (0, 0))), .inl a1, .inl a2], σ => f_On_reads a1 a2 σ
  | _, _ => none
def cd_On_reads : sv_C := [(0, (.iload_n 1, (sv_N, (1, (0, []))))), (1, (.invokestatic 207, (sv_N, (4, (0, []))))), (4, (.ifCond .eq 11, (sv_N, (7, (15, []))))), (7, (.aload_n 0, (sv_N, (8, (0, []))))), (8, (.iload_n 2, (sv_N, (9, (0, []))))), (9, (.invokevirtual 97, (sv_N, (12, (0, []))))), (12, (.ifCond .ne 6, (sv_N, (15, (18, []))))), (15, (.ldc 87, (sv_N, (17, (0, []))))), (17, (.ireturn, (sv_N, (18, (0, []))))), (18, (.aload_n 0, (sv_N, (19, (0, []))))), (19, (.getfield 51, (sv_N, (22, (0, []))))), (22, (.iload_n 1, (sv_N, (23, (0, []))))), (23, (.aaload, (sv_N, (24, (0, []))))), (24, (.astore_n 3, (sv_N, (25, (0, []))))), (25, (.aload_n 3, (sv_N, (26, (0, []))))), (26, (.invokevirtual 210, (sv_N, (29, (0, []))))), (29, (.ifCond .eq 6, (sv_N, (32, (35, []))))), (32, (.ldc 214, (sv_N, (34, (0, []))))), (34, (.ireturn, (sv_N, (35, (0, []))))), (35, (.aload_n 0, (sv_N, (36, (0, []))))), (36, (.invokevirtual 186, (sv_N, (39, (0, []))))), (39, (.iconst 0, (.inl (0 : Int32), (40, (0, []))))), (40, (.istore 4, (sv_N, (42, (0, []))))), (42, (.iload 4, (sv_N, (44, (0, []))))), (44, (.aload_n 3, (sv_N, (45, (0, []))))), (45, (.getfield 291, (sv_N, (48, (0, []))))), (48, (.if_icmp .ge 51, (sv_N, (51, (99, []))))), (51, (.aload_n 3, (sv_N, (52, (0, []))))), (52, (.iload 4, (sv_N, (54, (0, []))))), (54, (.invokevirtual 285, (sv_N, (57, (0, []))))), (57, (.ifCond .eq 28, (sv_N, (60, (85, []))))), (60, (.aload_n 3, (sv_N, (61, (0, []))))), (61, (.getfield 280, (sv_N, (64, (0, []))))), (64, (.iload 4, (sv_N, (66, (0, []))))), (66, (.iaload, (sv_N, (67, (0, []))))), (67, (.aload_n 0, (sv_N, (68, (0, []))))), (68, (.getfield 39, (sv_N, (71, (0, []))))), (71, (.getfield 100, (sv_N, (74, (0, []))))), (74, (.iload_n 2, (sv_N, (75, (0, []))))), (75, (.aaload, (sv_N, (76, (0, []))))), (76, (.getfield 109, (sv_N, (79, (0, []))))), (79, (.if_icmp .eq 6, (sv_N, (82, (85, []))))), (82, (.iload 4, (sv_N, (84, (0, []))))), (84, (.ireturn, (sv_N, (85, (0, []))))), (85, (.aload_n 0, (sv_N, (86, (0, []))))), (86, (.getfield 39, (sv_N, (89, (0, []))))), (89, (.invokevirtual 189, (sv_N, (92, (0, []))))), (92, (.pop, (sv_N, (93, (0, []))))), (93, (.iinc 4 1, (.inl (1 : Int32), (96, (0, []))))), (96, (.goto (-54), (sv_N, (99, (42, []))))), (99, (.ldc 124, (sv_N, (101, (0, []))))), (101, (.ireturn, (sv_N, (102, (0, [])))))]
noncomputable def ev_On_reads : sv_E := (fun i => sv_lk i fl_11, (fun i => sv_lk i kc_11, (fun i => bif Nat.beq i 166 then 1 else 0, (true, (fun pc => sv_lk pc [(1, (1, .inl n_On_isSheet)), (9, (2, .inl n_On_isDrummer)), (26, (1, .inl n_Sh_isMissing)), (36, (1, .inr (.inl n_On_think))), (54, (2, .inl n_Sh_hasNumber)), (89, (1, .inl n_Li_passOne))], none)))))
noncomputable def kk_On_reads_85 (k42 : Int32 → Nat → Int32 → sv_S → Option (Int32 × sv_S)) : sv_K (Int32 × sv_S) := fun pc => sv_lk pc [(42, fun lo st σ => match lo, st with
    | [some (.inr (.inr (some (0, 0)))), _, some (.inl x2), some (.inr (.inr (some (12, x3)))), some (.inl x4)], [] => k42 x2 x3 x4 σ
    | _, _ => none)]
set_option maxRecDepth 20000 in
theorem e_On_reads_85 (k42 : Int32 → Nat → Int32 → sv_S → Option (Int32 × sv_S)) (x2 : Int32) (x3 : Nat) (x4 : Int32) (z1 : Option sv_V) (σ : sv_S) : sv_ex ev_On_reads sv_rI (kk_On_reads_85 k42) cd_On_reads 54 85 [some (.inr (.inr (some (0, 0)))), z1, some (.inl x2), some (.inr (.inr (some (12, x3)))), some (.inl x4)] [] σ = f_On_reads_85 k42 x2 x3 x4 σ := by
  unfold f_On_reads_85
  delta ev_On_reads kk_On_reads_85 n_On_isSheet n_On_isDrummer n_Sh_isMissing n_On_think n_Sh_hasNumber n_Li_passOne
  generalize f_On_isSheet = c0
  generalize f_On_isDrummer = c1
  generalize f_Sh_isMissing = c2
  generalize f_On_think = c3
  generalize f_Sh_hasNumber = c4
  generalize f_Li_passOne = c5
  generalize f_On_reads_42 = c6
  rfl
noncomputable def kk_On_reads_42 (n : Nat) : sv_K (Int32 × sv_S) := fun pc => sv_lk pc [(85, fun lo st σ => match lo, st with
    | [some (.inr (.inr (some (0, 0)))), _, some (.inl x2), some (.inr (.inr (some (12, x3)))), some (.inl x4)], [] => f_On_reads_85 (f_On_reads_42 n) x2 x3 x4 σ
    | _, _ => none)]
set_option maxRecDepth 20000 in
theorem e_On_reads_42 (n : Nat) (x2 : Int32) (x3 : Nat) (x4 : Int32) (z1 : Option sv_V) (σ : sv_S) : sv_ex ev_On_reads sv_rI (kk_On_reads_42 n) cd_On_reads 54 42 [some (.inr (.inr (some (0, 0)))), z1, some (.inl x2), some (.inr (.inr (some (12, x3)))), some (.inl x4)] [] σ = f_On_reads_42 (n + 1) x2 x3 x4 σ := by
  rw [f_On_reads_42.eq_2]
  delta ev_On_reads kk_On_reads_42 n_On_isSheet n_On_isDrummer n_Sh_isMissing n_On_think n_Sh_hasNumber n_Li_passOne
  generalize f_On_isSheet = c0
  generalize f_On_isDrummer = c1
  generalize f_Sh_isMissing = c2
  generalize f_On_think = c3
  generalize f_Sh_hasNumber = c4
  generalize f_Li_passOne = c5
  generalize f_On_reads_85 = c6
  generalize f_On_reads_42 = c7
  rfl
noncomputable def kk_On_reads : sv_K (Int32 × sv_S) := fun pc => sv_lk pc [(42, fun lo st σ => match lo, st with
    | [some (.inr (.inr (some (0, 0)))), _, some (.inl x2), some (.inr (.inr (some (12, x3)))), some (.inl x4)], [] => f_On_reads_42 sv_fu x2 x3 x4 σ
    | _, _ => none)]
set_option maxRecDepth 20000 in
theorem e_On_reads (a1 : Int32) (a2 : Int32) (σ : sv_S) : sv_ex ev_On_reads sv_rI kk_On_reads cd_On_reads 54 0 [some (.inr (.inr (some (0, 0)))), some (.inl a1), some (.inl a2), none, none] [] σ = f_On_reads a1 a2 σ := by
  unfold f_On_reads
  delta ev_On_reads kk_On_reads n_On_isSheet n_On_isDrummer n_Sh_isMissing n_On_think n_Sh_hasNumber n_Li_passOne
  generalize f_On_isSheet = c0
  generalize f_On_isDrummer = c1
  generalize f_Sh_isMissing = c2
  generalize f_On_think = c3
  generalize f_Sh_hasNumber = c4
  generalize f_Li_passOne = c5
  generalize f_On_reads_42 = c6
  rfl
theorem d_On_reads : cd_On_reads.all (sv_dk cX11_reads) = true := by decide +kernel
set_option maxRecDepth 20000 in
theorem w_On_reads_85 {Γ : sv_Ga} {res : Int32 × sv_S} (X : sv_Ok Γ ev_On_reads cX11_reads sv_rI res) (k42 : Int32 → Nat → Int32 → sv_S → Option (Int32 × sv_S)) (h42 : ∀ (x2 : Int32) (x3 : Nat) (x4 : Int32) (z1 : Option sv_V) (σ : sv_S), k42 x2 x3 x4 σ = some res → sv_T Γ 42 [some (.inr (.inr (some (0, 0)))), z1, some (.inl x2), some (.inr (.inr (some (12, x3)))), some (.inl x4)] [] σ) : ∀ (x2 : Int32) (x3 : Nat) (x4 : Int32) (z1 : Option sv_V) (σ : sv_S), f_On_reads_85 k42 x2 x3 x4 σ = some res → sv_T Γ 85 [some (.inr (.inr (some (0, 0)))), z1, some (.inl x2), some (.inr (.inr (some (12, x3)))), some (.inl x4)] [] σ := by
  intro x2 x3 x4 z1 σ h
  refine sv_run X d_On_reads (K := kk_On_reads_85 k42) (sv_lk_all (P := fun pc (k : sv_Lo → List sv_V → sv_S → Option (Int32 × sv_S)) => ∀ lo st σ, k lo st σ = some res → sv_T Γ pc lo st σ) ?_) _ _ _ _ _ ((e_On_reads_85 k42 x2 x3 x4 z1 σ).trans h)
  clear h
  refine List.forall_mem_cons.mpr ⟨fun lo st σ h => ?_, fun _ h => absurd h List.not_mem_nil⟩
  · dsimp only at h
    split at h
    · exact h42 _ _ _ _ _ h
    · cases h

set_option maxRecDepth 20000 in
theorem w_On_reads_42 {Γ : sv_Ga} {res : Int32 × sv_S} (X : sv_Ok Γ ev_On_reads cX11_reads sv_rI res) : ∀ (n : Nat) (x2 : Int32) (x3 : Nat) (x4 : Int32) (z1 : Option sv_V) (σ : sv_S), f_On_reads_42 n x2 x3 x4 σ = some res → sv_T Γ 42 [some (.inr (.inr (some (0, 0)))), z1, some (.inl x2), some (.inr (.inr (some (12, x3)))), some (.inl x4)] [] σ := by
  intro n
  induction n with
  | zero =>
    intro x2 x3 x4 z1 σ h
    rw [f_On_reads_42.eq_1] at h
    cases h
  | succ n ih =>
    intro x2 x3 x4 z1 σ h
    refine sv_run X d_On_reads (K := kk_On_reads_42 n) (sv_lk_all (P := fun pc (k : sv_Lo → List sv_V → sv_S → Option (Int32 × sv_S)) => ∀ lo st σ, k lo st σ = some res → sv_T Γ pc lo st σ) ?_) _ _ _ _ _ ((e_On_reads_42 n x2 x3 x4 z1 σ).trans h)
    clear h
    refine List.forall_mem_cons.mpr ⟨fun lo st σ h => ?_, fun _ h => absurd h List.not_mem_nil⟩
    · dsimp only at h
      split at h
      · exact w_On_reads_85 X _ ih _ _ _ _ _ h
      · cases h

set_option maxRecDepth 20000 in
theorem b_On_reads (Γ : sv_Ga) (res : Int32 × sv_S) (X : sv_Ok Γ ev_On_reads cX11_reads sv_rI res) (as : List sv_V) (σ : sv_S) (h : n_On_reads as σ = some res) : sv_T Γ 0 (sv_e0 5 as) [] σ := by
  unfold n_On_reads at h
  split at h
  · refine sv_run X d_On_reads (K := kk_On_reads) (sv_lk_all (P := fun pc (k : sv_Lo → List sv_V → sv_S → Option (Int32 × sv_S)) => ∀ lo st σ, k lo st σ = some res → sv_T Γ pc lo st σ) ?_) _ _ _ _ _ ((e_On_reads _ _ _).trans h)
    clear h
    refine List.forall_mem_cons.mpr ⟨fun lo st σ h => ?_, fun _ h => absurd h List.not_mem_nil⟩
    · dsimp only at h
      split at h
      · exact w_On_reads_42 X _ _ _ _ _ _ h
      · cases h
  · cases h
theorem a_On_reads (as : List sv_V) (σ : sv_S) (x : Int32 × sv_S) (h : n_On_reads as σ = some x) : sv_args 5 ev_On_reads.2.2.2.1 as := by
  unfold n_On_reads at h
  split at h
  · exact ⟨Nat.le_of_ble_eq_true rfl, fun _ v hv => by
      simp only [List.mem_cons, List.not_mem_nil, or_false] at hv
      rcases hv with rfl | rfl | rfl <;> trivial⟩
  · cases h
theorem g_On_reads (as : List sv_V) (σ : sv_S) (x : Option sv_V × sv_S) (h : sv_gI n_On_reads as σ = some x) : ∃ r i as', as = sv_R r i :: as' ∧ sv_kd r i = .inl 11 := by
  obtain ⟨_, _, h, -⟩ := sv_b_some h
  unfold n_On_reads at h
  split at h
  · exact ⟨_, _, _, rfl, rfl⟩
  · cases h

set_option maxRecDepth 20000 in
theorem m_On_reads (l : Launch) : sv_M l yX11_reads cX11_reads 5 (some .int) (sv_gI n_On_reads) 5 := by
  refine sv_mI (E := ev_On_reads) (by decide +kernel) (ln_gen fk_11 kk_11 gk_11) rfl ?_ a_On_reads b_On_reads
  intro p e R s m args below meth c cells slots Q base ad dC dI cA n0 S hkn hR hf pc n f hcs
  refine sv_lk_all (P := fun pc (x : Nat × sv_F) => sv_cok p l e R s m args below meth c cells slots Q base ad dC dI cA true 5 n0 pc x.1 x.2) ?_ pc (n, f) hcs
  exact List.forall_mem_cons.mpr ⟨(sv_cS S hkn (m_On_isSheet l) ⟨Nat.le_trans (by decide) hR.1, Nat.le_trans (by decide) hR.2⟩ (by decide) hf (sv_w4 tw_623 tw_624 tw_53 tw_625) (by decide +kernel) (sv_dc3 d_On_reads (pc := 1) rfl rfl)).I,
      List.forall_mem_cons.mpr ⟨(sv_cV S hkn (m_On_isDrummer l) ⟨Nat.le_trans (by decide) hR.1, Nat.le_trans (by decide) hR.2⟩ (by decide) hf rfl (g_On_isDrummer) (sv_w5 tw_348 tw_350 tw_0 tw_53 tw_351) (by decide +kernel) (sv_dc3 d_On_reads (pc := 9) rfl rfl)).I,
      List.forall_mem_cons.mpr ⟨(sv_cV S hkn (m_Sh_isMissing l) ⟨Nat.le_trans (by decide) hR.1, Nat.le_trans (by decide) hR.2⟩ (by decide) hf rfl (g_Sh_isMissing) (sv_w5 tw_626 tw_627 tw_628 tw_64 tw_629) (by decide +kernel) (sv_dc3 d_On_reads (pc := 26) rfl rfl)).I,
      List.forall_mem_cons.mpr ⟨(sv_cV S hkn (m_On_think l) ⟨Nat.le_trans (by decide) hR.1, Nat.le_trans (by decide) hR.2⟩ (by decide) hf rfl (g_On_think) (sv_w5 tw_548 tw_550 tw_1 tw_53 tw_551) (by decide +kernel) (sv_dc3 d_On_reads (pc := 36) rfl rfl)).V,
      List.forall_mem_cons.mpr ⟨(sv_cV S hkn (m_Sh_hasNumber l) ⟨Nat.le_trans (by decide) hR.1, Nat.le_trans (by decide) hR.2⟩ (by decide) hf rfl (g_Sh_hasNumber) (sv_w5 tw_639 tw_640 tw_641 tw_64 tw_642) (by decide +kernel) (sv_dc3 d_On_reads (pc := 54) rfl rfl)).I,
      List.forall_mem_cons.mpr ⟨(sv_cV S hkn (m_Li_passOne l) ⟨Nat.le_trans (by decide) hR.1, Nat.le_trans (by decide) hR.2⟩ (by decide) hf rfl (g_Li_passOne) (sv_w5 tw_563 tw_530 tw_531 tw_60 tw_532) (by decide +kernel) (sv_dc3 d_On_reads (pc := 89) rfl rfl)).I,
      fun _ h => absurd h List.not_mem_nil⟩⟩⟩⟩⟩⟩
noncomputable def f_On_copy (a1 : Int32) (a2 : Int32) (a3 : Int32) (a4 : Int32) (a5 : Int32) (σ : sv_S) : Option (Int32 × sv_S) :=
  sv_b (f_On_isSheet a1 σ) (fun v1 σ2 =>
    sv_if (v1 = 0)
      (some ((-1000000001 : Int32), σ2))
      (sv_b (f_On_isSheet a3 σ2) (fun v3 σ4 =>
        sv_if (v3 = 0)
          (some ((-1000000001 : Int32), σ4))
          (sv_g (sv_in a1 4) (sv_g (sv_in a3 4) (sv_b (f_Sh_isMissing (4 * 0 + (a1.toNatClampNeg)) σ4) (fun v5 σ6 =>
            sv_if (v5 = 0)
              (sv_b (f_Sh_isMissing (4 * 0 + (a3.toNatClampNeg)) σ6) (fun v7 σ8 =>
                sv_if (v7 = 0)
                  (sv_if ((σ8 12 (4 * 0 + (a1.toNatClampNeg)) 0) = (σ8 12 (4 * 0 + (a3.toNatClampNeg)) 0))
                    (sv_b (f_Sh_hasPlaces (4 * 0 + (a1.toNatClampNeg)) a2 a5 σ8) (fun v9 σ10 =>
                      sv_if (v9 = 0)
                        (some ((-1000000013 : Int32), σ10))
                        (sv_b (f_Sh_hasPlaces (4 * 0 + (a3.toNatClampNeg)) a4 a5 σ10) (fun v11 σ12 =>
                          sv_if (v11 = 0)
                            (some ((-1000000013 : Int32), σ12))
                            (sv_b0 (f_ac13 (4 * 0 + (a1.toNatClampNeg)) a2 (4 * 0 + (a3.toNatClampNeg)) a4 a5 σ12) (fun σ13 =>
                              some (a5, σ13)))))))
                    (some ((-1000000012 : Int32), σ8)))
                  (some ((-1000000011 : Int32), σ8))))
              (some ((-1000000011 : Int32), σ6)))))))))
noncomputable def n_On_copy : List sv_V → sv_S → Option (Int32 × sv_S)
  | [.inr (.inr (some (0, 0))), .inl a1, .inl a2, .inl a3, .inl a4, .inl a5], σ => f_On_copy a1 a2 a3 a4 a5 σ
  | _, _ => none
def cd_On_copy : sv_C := [(0, (.iload_n 1, (sv_N, (1, (0, []))))), (1, (.invokestatic 207, (sv_N, (4, (0, []))))), (4, (.ifCond .eq 10, (sv_N, (7, (14, []))))), (7, (.iload_n 3, (sv_N, (8, (0, []))))), (8, (.invokestatic 207, (sv_N, (11, (0, []))))), (11, (.ifCond .ne 6, (sv_N, (14, (17, []))))), (14, (.ldc 87, (sv_N, (16, (0, []))))), (16, (.ireturn, (sv_N, (17, (0, []))))), (17, (.aload_n 0, (sv_N, (18, (0, []))))), (18, (.getfield 51, (sv_N, (21, (0, []))))), (21, (.iload_n 1, (sv_N, (22, (0, []))))), (22, (.aaload, (sv_N, (23, (0, []))))), (23, (.astore 6, (sv_N, (25, (0, []))))), (25, (.aload_n 0, (sv_N, (26, (0, []))))), (26, (.getfield 51, (sv_N, (29, (0, []))))), (29, (.iload_n 3, (sv_N, (30, (0, []))))), (30, (.aaload, (sv_N, (31, (0, []))))), (31, (.astore 7, (sv_N, (33, (0, []))))), (33, (.aload 6, (sv_N, (35, (0, []))))), (35, (.invokevirtual 210, (sv_N, (38, (0, []))))), (38, (.ifCond .ne 11, (sv_N, (41, (49, []))))), (41, (.aload 7, (sv_N, (43, (0, []))))), (43, (.invokevirtual 210, (sv_N, (46, (0, []))))), (46, (.ifCond .eq 6, (sv_N, (49, (52, []))))), (49, (.ldc 214, (sv_N, (51, (0, []))))), (51, (.ireturn, (sv_N, (52, (0, []))))), (52, (.aload 6, (sv_N, (54, (0, []))))), (54, (.getfield 277, (sv_N, (57, (0, []))))), (57, (.aload 7, (sv_N, (59, (0, []))))), (59, (.getfield 277, (sv_N, (62, (0, []))))), (62, (.if_icmp .eq 6, (sv_N, (65, (68, []))))), (65, (.ldc 153, (sv_N, (67, (0, []))))), (67, (.ireturn, (sv_N, (68, (0, []))))), (68, (.aload 6, (sv_N, (70, (0, []))))), (70, (.iload_n 2, (sv_N, (71, (0, []))))), (71, (.iload 5, (sv_N, (73, (0, []))))), (73, (.invokevirtual 292, (sv_N, (76, (0, []))))), (76, (.ifCond .eq 15, (sv_N, (79, (91, []))))), (79, (.aload 7, (sv_N, (81, (0, []))))), (81, (.iload 4, (sv_N, (83, (0, []))))), (83, (.iload 5, (sv_N, (85, (0, []))))), (85, (.invokevirtual 292, (sv_N, (88, (0, []))))), (88, (.ifCond .ne 7, (sv_N, (91, (95, []))))), (91, (.ldc_w 276, (sv_N, (94, (0, []))))), (94, (.ireturn, (sv_N, (95, (0, []))))), (95, (.aload 6, (sv_N, (97, (0, []))))), (97, (.getfield 280, (sv_N, (100, (0, []))))), (100, (.iload_n 2, (sv_N, (101, (0, []))))), (101, (.aload 7, (sv_N, (103, (0, []))))), (103, (.getfield 280, (sv_N, (106, (0, []))))), (106, (.iload 4, (sv_N, (108, (0, []))))), (108, (.iload 5, (sv_N, (110, (0, []))))), (110, (.invokestatic 295, (sv_N, (113, (0, []))))), (113, (.iload 5, (sv_N, (115, (0, []))))), (115, (.ireturn, (sv_N, (116, (0, [])))))]
noncomputable def ev_On_copy : sv_E := (fun i => sv_lk i fl_11, (fun i => sv_lk i kc_11, (fun i => bif Nat.beq i 166 then 1 else 0, (true, (fun pc => sv_lk pc [(1, (1, .inl n_On_isSheet)), (8, (1, .inl n_On_isSheet)), (35, (1, .inl n_Sh_isMissing)), (43, (1, .inl n_Sh_isMissing)), (73, (3, .inl n_Sh_hasPlaces)), (85, (3, .inl n_Sh_hasPlaces)), (110, (5, .inr (.inl n_ac13)))], none)))))
noncomputable def kk_On_copy : sv_K (Int32 × sv_S) := fun pc => sv_lk pc []
set_option maxRecDepth 20000 in
theorem e_On_copy (a1 : Int32) (a2 : Int32) (a3 : Int32) (a4 : Int32) (a5 : Int32) (σ : sv_S) : sv_ex ev_On_copy sv_rI kk_On_copy cd_On_copy 57 0 [some (.inr (.inr (some (0, 0)))), some (.inl a1), some (.inl a2), some (.inl a3), some (.inl a4), some (.inl a5), none, none] [] σ = f_On_copy a1 a2 a3 a4 a5 σ := by
  unfold f_On_copy
  delta ev_On_copy kk_On_copy n_On_isSheet n_Sh_isMissing n_Sh_hasPlaces n_ac13
  generalize f_On_isSheet = c0
  generalize f_Sh_isMissing = c1
  generalize f_Sh_hasPlaces = c2
  generalize f_ac13 = c3
  rfl
theorem d_On_copy : cd_On_copy.all (sv_dk cX11_copy) = true := by decide +kernel
set_option maxRecDepth 20000 in
theorem b_On_copy (Γ : sv_Ga) (res : Int32 × sv_S) (X : sv_Ok Γ ev_On_copy cX11_copy sv_rI res) (as : List sv_V) (σ : sv_S) (h : n_On_copy as σ = some res) : sv_T Γ 0 (sv_e0 8 as) [] σ := by
  unfold n_On_copy at h
  split at h
  · refine sv_run X d_On_copy (K := kk_On_copy) (sv_lk_all (P := fun pc (k : sv_Lo → List sv_V → sv_S → Option (Int32 × sv_S)) => ∀ lo st σ, k lo st σ = some res → sv_T Γ pc lo st σ) ?_) _ _ _ _ _ ((e_On_copy _ _ _ _ _ _).trans h)
    clear h
    exact fun _ h => absurd h List.not_mem_nil
  · cases h
theorem a_On_copy (as : List sv_V) (σ : sv_S) (x : Int32 × sv_S) (h : n_On_copy as σ = some x) : sv_args 8 ev_On_copy.2.2.2.1 as := by
  unfold n_On_copy at h
  split at h
  · exact ⟨Nat.le_of_ble_eq_true rfl, fun _ v hv => by
      simp only [List.mem_cons, List.not_mem_nil, or_false] at hv
      rcases hv with rfl | rfl | rfl | rfl | rfl | rfl <;> trivial⟩
  · cases h
theorem g_On_copy (as : List sv_V) (σ : sv_S) (x : Option sv_V × sv_S) (h : sv_gI n_On_copy as σ = some x) : ∃ r i as', as = sv_R r i :: as' ∧ sv_kd r i = .inl 11 := by
  obtain ⟨_, _, h, -⟩ := sv_b_some h
  unfold n_On_copy at h
  split at h
  · exact ⟨_, _, _, rfl, rfl⟩
  · cases h
theorem tw_930 : Cond.methodLink RX11 292 yX6_hasPlaces ∈ gw_tbl := gw_at 930 (by decide +kernel) rfl
theorem tw_931 : Cond.instanceMethod yX6_hasPlaces ∈ gw_tbl := gw_at 931 (by decide +kernel) rfl
theorem tw_932 : Cond.selects RX6 yX6_hasPlaces yX6_hasPlaces ∈ gw_tbl := gw_at 932 (by decide +kernel) rfl
theorem tw_933 : Cond.code yX6_hasPlaces cX6_hasPlaces 3 (some .boolean) ∈ gw_tbl := gw_at 933 (by decide +kernel) rfl
theorem tw_934 : Cond.methodLink RX11 295 arraycopyName ∈ gw_tbl := gw_at 934 (by decide +kernel) rfl
set_option maxRecDepth 20000 in
theorem m_On_copy (l : Launch) : sv_M l yX11_copy cX11_copy 8 (some .int) (sv_gI n_On_copy) 1 := by
  refine sv_mI (E := ev_On_copy) (by decide +kernel) (ln_gen fk_11 kk_11 gk_11) rfl ?_ a_On_copy b_On_copy
  intro p e R s m args below meth c cells slots Q base ad dC dI cA n0 S hkn hR hf pc n f hcs
  refine sv_lk_all (P := fun pc (x : Nat × sv_F) => sv_cok p l e R s m args below meth c cells slots Q base ad dC dI cA true 8 n0 pc x.1 x.2) ?_ pc (n, f) hcs
  exact List.forall_mem_cons.mpr ⟨(sv_cS S hkn (m_On_isSheet l) ⟨Nat.le_trans (by decide) hR.1, Nat.le_trans (by decide) hR.2⟩ (by decide) hf (sv_w4 tw_623 tw_624 tw_53 tw_625) (by decide +kernel) (sv_dc3 d_On_copy (pc := 1) rfl rfl)).I,
      List.forall_mem_cons.mpr ⟨(sv_cS S hkn (m_On_isSheet l) ⟨Nat.le_trans (by decide) hR.1, Nat.le_trans (by decide) hR.2⟩ (by decide) hf (sv_w4 tw_623 tw_624 tw_53 tw_625) (by decide +kernel) (sv_dc3 d_On_copy (pc := 8) rfl rfl)).I,
      List.forall_mem_cons.mpr ⟨(sv_cV S hkn (m_Sh_isMissing l) ⟨Nat.le_trans (by decide) hR.1, Nat.le_trans (by decide) hR.2⟩ (by decide) hf rfl (g_Sh_isMissing) (sv_w5 tw_626 tw_627 tw_628 tw_64 tw_629) (by decide +kernel) (sv_dc3 d_On_copy (pc := 35) rfl rfl)).I,
      List.forall_mem_cons.mpr ⟨(sv_cV S hkn (m_Sh_isMissing l) ⟨Nat.le_trans (by decide) hR.1, Nat.le_trans (by decide) hR.2⟩ (by decide) hf rfl (g_Sh_isMissing) (sv_w5 tw_626 tw_627 tw_628 tw_64 tw_629) (by decide +kernel) (sv_dc3 d_On_copy (pc := 43) rfl rfl)).I,
      List.forall_mem_cons.mpr ⟨(sv_cV S hkn (m_Sh_hasPlaces l) ⟨Nat.le_trans (by decide) hR.1, Nat.le_trans (by decide) hR.2⟩ (by decide) hf rfl (g_Sh_hasPlaces) (sv_w5 tw_930 tw_931 tw_932 tw_64 tw_933) (by decide +kernel) (sv_dc3 d_On_copy (pc := 73) rfl rfl)).I,
      List.forall_mem_cons.mpr ⟨(sv_cV S hkn (m_Sh_hasPlaces l) ⟨Nat.le_trans (by decide) hR.1, Nat.le_trans (by decide) hR.2⟩ (by decide) hf rfl (g_Sh_hasPlaces) (sv_w5 tw_930 tw_931 tw_932 tw_64 tw_933) (by decide +kernel) (sv_dc3 d_On_copy (pc := 85) rfl rfl)).I,
      List.forall_mem_cons.mpr ⟨(sv_acopy S hkn (q := 13) (fun _ => rfl) ⟨Nat.le_trans (by decide) hR.1, Nat.le_trans (by decide) hR.2⟩ (sv_w4 tw_934 tw_562 tw_561 tw_68) (sv_dc3 d_On_copy (pc := 110) rfl rfl) h_ac13).V,
      fun _ h => absurd h List.not_mem_nil⟩⟩⟩⟩⟩⟩⟩
noncomputable def f_On_isSlot (a0 : Int32) (σ : sv_S) : Option (Int32 × sv_S) :=
  sv_if (a0 < 0)
    (sv_g ((0 : Int32) = 0 ∨ (0 : Int32) = 1) (some ((0 : Int32), σ)))
    (sv_if ((5 : Int32) ≤ a0)
      (sv_g ((0 : Int32) = 0 ∨ (0 : Int32) = 1) (some ((0 : Int32), σ)))
      (sv_g ((1 : Int32) = 0 ∨ (1 : Int32) = 1) (some ((1 : Int32), σ))))
noncomputable def n_On_isSlot : List sv_V → sv_S → Option (Int32 × sv_S)
  | [.inl a0], σ => f_On_isSlot a0 σ
  | _, _ => none
def cd_On_isSlot : sv_C := [(0, (.iload_n 0, (sv_N, (1, (0, []))))), (1, (.ifCond .lt 12, (sv_N, (4, (13, []))))), (4, (.iload_n 0, (sv_N, (5, (0, []))))), (5, (.iconst 5, (.inl (5 : Int32), (6, (0, []))))), (6, (.if_icmp .ge 7, (sv_N, (9, (13, []))))), (9, (.iconst 1, (.inl (1 : Int32), (10, (0, []))))), (10, (.goto 4, (sv_N, (13, (14, []))))), (13, (.iconst 0, (.inl (0 : Int32), (14, (0, []))))), (14, (.ireturn, (sv_N, (15, (0, [])))))]
noncomputable def ev_On_isSlot : sv_E := (fun i => sv_lk i fl_11, (fun i => sv_lk i kc_11, (fun i => bif Nat.beq i 166 then 1 else 0, (true, (fun pc => sv_lk pc [], none)))))
noncomputable def kk_On_isSlot : sv_K (Int32 × sv_S) := fun pc => sv_lk pc []
set_option maxRecDepth 20000 in
theorem e_On_isSlot (a0 : Int32) (σ : sv_S) : sv_ex ev_On_isSlot sv_rZ kk_On_isSlot cd_On_isSlot 11 0 [some (.inl a0)] [] σ = f_On_isSlot a0 σ := by
  unfold f_On_isSlot
  delta ev_On_isSlot kk_On_isSlot
  rfl
theorem d_On_isSlot : cd_On_isSlot.all (sv_dk cX11_isSlot) = true := by decide +kernel
set_option maxRecDepth 20000 in
theorem b_On_isSlot (Γ : sv_Ga) (res : Int32 × sv_S) (X : sv_Ok Γ ev_On_isSlot cX11_isSlot sv_rZ res) (as : List sv_V) (σ : sv_S) (h : n_On_isSlot as σ = some res) : sv_T Γ 0 (sv_e0 1 as) [] σ := by
  unfold n_On_isSlot at h
  split at h
  · refine sv_run X d_On_isSlot (K := kk_On_isSlot) (sv_lk_all (P := fun pc (k : sv_Lo → List sv_V → sv_S → Option (Int32 × sv_S)) => ∀ lo st σ, k lo st σ = some res → sv_T Γ pc lo st σ) ?_) _ _ _ _ _ ((e_On_isSlot _ _).trans h)
    clear h
    exact fun _ h => absurd h List.not_mem_nil
  · cases h
theorem a_On_isSlot (as : List sv_V) (σ : sv_S) (x : Int32 × sv_S) (h : n_On_isSlot as σ = some x) : sv_args 1 ev_On_isSlot.2.2.2.1 as := by
  unfold n_On_isSlot at h
  split at h
  · exact ⟨Nat.le_of_ble_eq_true rfl, fun _ v hv => by
      simp only [List.mem_cons, List.not_mem_nil, or_false] at hv
      rcases hv with rfl <;> trivial⟩
  · cases h

set_option maxRecDepth 20000 in
theorem m_On_isSlot (l : Launch) : sv_M l yX11_isSlot cX11_isSlot 1 (some .boolean) (sv_gI n_On_isSlot) 0 := by
  refine sv_mZ (E := ev_On_isSlot) (by decide +kernel) (ln_gen fk_11 kk_11 gk_11) rfl ?_ a_On_isSlot b_On_isSlot
  intro p e R s m args below meth c cells slots Q base ad dC dI cA n0 S hkn hR hf pc n f hcs
  refine sv_lk_all (P := fun pc (x : Nat × sv_F) => sv_cok p l e R s m args below meth c cells slots Q base ad dC dI cA true 1 n0 pc x.1 x.2) ?_ pc (n, f) hcs
  exact fun _ h => absurd h List.not_mem_nil
noncomputable def f_On_lay_64 (x1 : Int32) (x2 : Int32) (x3 : Int32) (σ : sv_S) : Option (Int32 × sv_S) :=
    sv_g (sv_in x1 5) (sv_g (sv_in x1 5) (sv_if (x2 = (1 : Int32))
      (sv_g (sv_in x1 5) (sv_g (sv_in x3 10) (sv_b0 (f_Dr_setAs (10 * 3 + (x1.toNatClampNeg)) (10 * 0 + (x3.toNatClampNeg)) (sv_up σ 14 0 (x1.toNatClampNeg) x2)) (fun σ1 =>
        some (σ 14 0 (x1.toNatClampNeg), σ1)))))
      (sv_if (x2 = (2 : Int32))
        (sv_g (sv_in x1 5) (sv_g (sv_in x3 4) (sv_b0 (f_Sh_fillAs (4 * 1 + (x1.toNatClampNeg)) (4 * 0 + (x3.toNatClampNeg)) (sv_up σ 14 0 (x1.toNatClampNeg) x2)) (fun σ2 =>
          some (σ 14 0 (x1.toNatClampNeg), σ2)))))
        (sv_g (sv_in x1 5) (some (σ 14 0 (x1.toNatClampNeg), sv_up (sv_up σ 14 0 (x1.toNatClampNeg) x2) 15 0 (x1.toNatClampNeg) x3))))))
noncomputable def f_On_lay_44 (x1 : Int32) (x2 : Int32) (x3 : Int32) (σ : sv_S) : Option (Int32 × sv_S) :=
    sv_if (x2 = (2 : Int32))
      (sv_g (sv_in x3 4) (sv_b (f_Sh_isMissing (4 * 0 + (x3.toNatClampNeg)) σ) (fun v1 σ2 =>
        sv_if (v1 = 0)
          (f_On_lay_64 x1 x2 x3 σ2)
          (some ((-1000000011 : Int32), σ2)))))
      (f_On_lay_64 x1 x2 x3 σ)
noncomputable def f_On_lay_29 (x1 : Int32) (x2 : Int32) (x3 : Int32) (σ : sv_S) : Option (Int32 × sv_S) :=
    sv_if (x2 = (2 : Int32))
      (sv_b (f_On_isSheet x3 σ) (fun v1 σ2 =>
        sv_if (v1 = 0)
          (some ((-1000000001 : Int32), σ2))
          (f_On_lay_44 x1 x2 x3 σ2)))
      (f_On_lay_44 x1 x2 x3 σ)
noncomputable def f_On_lay (a1 : Int32) (a2 : Int32) (a3 : Int32) (σ : sv_S) : Option (Int32 × sv_S) :=
  sv_b (f_On_isSlot a1 σ) (fun v1 σ2 =>
    sv_if (v1 = 0)
      (some ((-1000000001 : Int32), σ2))
      (sv_b (f_On_isWithin a2 (0 : Int32) (3 : Int32) σ2) (fun v3 σ4 =>
        sv_if (v3 = 0)
          (some ((-1000000001 : Int32), σ4))
          (sv_if (a2 = (1 : Int32))
            (sv_b (f_On_isDrummer a3 σ4) (fun v5 σ6 =>
              sv_if (v5 = 0)
                (some ((-1000000001 : Int32), σ6))
                (f_On_lay_29 a1 a2 a3 σ6)))
            (f_On_lay_29 a1 a2 a3 σ4)))))
noncomputable def n_On_lay : List sv_V → sv_S → Option (Int32 × sv_S)
  | [.inr (.inr (some (0, 0))), .inl a1, .inl a2, .inl a3], σ => f_On_lay a1 a2 a3 σ
  | _, _ => none
def cd_On_lay : sv_C := [(0, (.iload_n 1, (sv_N, (1, (0, []))))), (1, (.invokestatic 301, (sv_N, (4, (0, []))))), (4, (.ifCond .eq 37, (sv_N, (7, (41, []))))), (7, (.iload_n 2, (sv_N, (8, (0, []))))), (8, (.iconst 0, (.inl (0 : Int32), (9, (0, []))))), (9, (.iconst 3, (.inl (3 : Int32), (10, (0, []))))), (10, (.invokestatic 83, (sv_N, (13, (0, []))))), (13, (.ifCond .eq 28, (sv_N, (16, (41, []))))), (16, (.iload_n 2, (sv_N, (17, (0, []))))), (17, (.iconst 1, (.inl (1 : Int32), (18, (0, []))))), (18, (.if_icmp .ne 11, (sv_N, (21, (29, []))))), (21, (.aload_n 0, (sv_N, (22, (0, []))))), (22, (.iload_n 3, (sv_N, (23, (0, []))))), (23, (.invokevirtual 97, (sv_N, (26, (0, []))))), (26, (.ifCond .eq 15, (sv_N, (29, (41, []))))), (29, (.iload_n 2, (sv_N, (30, (0, []))))), (30, (.iconst 2, (.inl (2 : Int32), (31, (0, []))))), (31, (.if_icmp .ne 13, (sv_N, (34, (44, []))))), (34, (.iload_n 3, (sv_N, (35, (0, []))))), (35, (.invokestatic 207, (sv_N, (38, (0, []))))), (38, (.ifCond .ne 6, (sv_N, (41, (44, []))))), (41, (.ldc 87, (sv_N, (43, (0, []))))), (43, (.ireturn, (sv_N, (44, (0, []))))), (44, (.iload_n 2, (sv_N, (45, (0, []))))), (45, (.iconst 2, (.inl (2 : Int32), (46, (0, []))))), (46, (.if_icmp .ne 18, (sv_N, (49, (64, []))))), (49, (.aload_n 0, (sv_N, (50, (0, []))))), (50, (.getfield 51, (sv_N, (53, (0, []))))), (53, (.iload_n 3, (sv_N, (54, (0, []))))), (54, (.aaload, (sv_N, (55, (0, []))))), (55, (.invokevirtual 210, (sv_N, (58, (0, []))))), (58, (.ifCond .eq 6, (sv_N, (61, (64, []))))), (61, (.ldc 214, (sv_N, (63, (0, []))))), (63, (.ireturn, (sv_N, (64, (0, []))))), (64, (.aload_n 0, (sv_N, (65, (0, []))))), (65, (.getfield 56, (sv_N, (68, (0, []))))), (68, (.iload_n 1, (sv_N, (69, (0, []))))), (69, (.iaload, (sv_N, (70, (0, []))))), (70, (.istore 4, (sv_N, (72, (0, []))))), (72, (.aload_n 0, (sv_N, (73, (0, []))))), (73, (.getfield 56, (sv_N, (76, (0, []))))), (76, (.iload_n 1, (sv_N, (77, (0, []))))), (77, (.iload_n 2, (sv_N, (78, (0, []))))), (78, (.iastore, (sv_N, (79, (0, []))))), (79, (.iload_n 2, (sv_N, (80, (0, []))))), (80, (.iconst 1, (.inl (1 : Int32), (81, (0, []))))), (81, (.if_icmp .ne 24, (sv_N, (84, (105, []))))), (84, (.aload_n 0, (sv_N, (85, (0, []))))), (85, (.getfield 65, (sv_N, (88, (0, []))))), (88, (.iload_n 1, (sv_N, (89, (0, []))))), (89, (.aaload, (sv_N, (90, (0, []))))), (90, (.aload_n 0, (sv_N, (91, (0, []))))), (91, (.getfield 30, (sv_N, (94, (0, []))))), (94, (.getfield 100, (sv_N, (97, (0, []))))), (97, (.iload_n 3, (sv_N, (98, (0, []))))), (98, (.aaload, (sv_N, (99, (0, []))))), (99, (.invokevirtual 304, (sv_N, (102, (0, []))))), (102, (.goto 33, (sv_N, (105, (135, []))))), (105, (.iload_n 2, (sv_N, (106, (0, []))))), (106, (.iconst 2, (.inl (2 : Int32), (107, (0, []))))), (107, (.if_icmp .ne 21, (sv_N, (110, (128, []))))), (110, (.aload_n 0, (sv_N, (111, (0, []))))), (111, (.getfield 69, (sv_N, (114, (0, []))))), (114, (.iload_n 1, (sv_N, (115, (0, []))))), (115, (.aaload, (sv_N, (116, (0, []))))), (116, (.aload_n 0, (sv_N, (117, (0, []))))), (117, (.getfield 51, (sv_N, (120, (0, []))))), (120, (.iload_n 3, (sv_N, (121, (0, []))))), (121, (.aaload, (sv_N, (122, (0, []))))), (122, (.invokevirtual 308, (sv_N, (125, (0, []))))), (125, (.goto 10, (sv_N, (128, (135, []))))), (128, (.aload_n 0, (sv_N, (129, (0, []))))), (129, (.getfield 60, (sv_N, (132, (0, []))))), (132, (.iload_n 1, (sv_N, (133, (0, []))))), (133, (.iload_n 3, (sv_N, (134, (0, []))))), (134, (.iastore, (sv_N, (135, (0, []))))), (135, (.iload 4, (sv_N, (137, (0, []))))), (137, (.ireturn, (sv_N, (138, (0, [])))))]
noncomputable def ev_On_lay : sv_E := (fun i => sv_lk i fl_11, (fun i => sv_lk i kc_11, (fun i => bif Nat.beq i 166 then 1 else 0, (true, (fun pc => sv_lk pc [(1, (1, .inl n_On_isSlot)), (10, (3, .inl n_On_isWithin)), (23, (2, .inl n_On_isDrummer)), (35, (1, .inl n_On_isSheet)), (55, (1, .inl n_Sh_isMissing)), (99, (2, .inr (.inl n_Dr_setAs))), (122, (2, .inr (.inl n_Sh_fillAs)))], none)))))
noncomputable def kk_On_lay_64 : sv_K (Int32 × sv_S) := fun pc => sv_lk pc []
set_option maxRecDepth 20000 in
theorem e_On_lay_64 (x1 : Int32) (x2 : Int32) (x3 : Int32) (z4 : Option sv_V) (σ : sv_S) : sv_ex ev_On_lay sv_rI (kk_On_lay_64) cd_On_lay 80 64 [some (.inr (.inr (some (0, 0)))), some (.inl x1), some (.inl x2), some (.inl x3), z4] [] σ = f_On_lay_64 x1 x2 x3 σ := by
  unfold f_On_lay_64
  delta ev_On_lay kk_On_lay_64 n_On_isSlot n_On_isWithin n_On_isDrummer n_On_isSheet n_Sh_isMissing n_Dr_setAs n_Sh_fillAs
  generalize f_On_isSlot = c0
  generalize f_On_isWithin = c1
  generalize f_On_isDrummer = c2
  generalize f_On_isSheet = c3
  generalize f_Sh_isMissing = c4
  generalize f_Dr_setAs = c5
  generalize f_Sh_fillAs = c6
  rfl
noncomputable def kk_On_lay_44 : sv_K (Int32 × sv_S) := fun pc => sv_lk pc [(64, fun lo st σ => match lo, st with
    | [some (.inr (.inr (some (0, 0)))), some (.inl x1), some (.inl x2), some (.inl x3), _], [] => f_On_lay_64 x1 x2 x3 σ
    | _, _ => none)]
set_option maxRecDepth 20000 in
theorem e_On_lay_44 (x1 : Int32) (x2 : Int32) (x3 : Int32) (z4 : Option sv_V) (σ : sv_S) : sv_ex ev_On_lay sv_rI (kk_On_lay_44) cd_On_lay 80 44 [some (.inr (.inr (some (0, 0)))), some (.inl x1), some (.inl x2), some (.inl x3), z4] [] σ = f_On_lay_44 x1 x2 x3 σ := by
  unfold f_On_lay_44
  delta ev_On_lay kk_On_lay_44 n_On_isSlot n_On_isWithin n_On_isDrummer n_On_isSheet n_Sh_isMissing n_Dr_setAs n_Sh_fillAs
  generalize f_On_isSlot = c0
  generalize f_On_isWithin = c1
  generalize f_On_isDrummer = c2
  generalize f_On_isSheet = c3
  generalize f_Sh_isMissing = c4
  generalize f_Dr_setAs = c5
  generalize f_Sh_fillAs = c6
  generalize f_On_lay_64 = c7
  rfl
noncomputable def kk_On_lay_29 : sv_K (Int32 × sv_S) := fun pc => sv_lk pc [(44, fun lo st σ => match lo, st with
    | [some (.inr (.inr (some (0, 0)))), some (.inl x1), some (.inl x2), some (.inl x3), _], [] => f_On_lay_44 x1 x2 x3 σ
    | _, _ => none)]
set_option maxRecDepth 20000 in
theorem e_On_lay_29 (x1 : Int32) (x2 : Int32) (x3 : Int32) (z4 : Option sv_V) (σ : sv_S) : sv_ex ev_On_lay sv_rI (kk_On_lay_29) cd_On_lay 80 29 [some (.inr (.inr (some (0, 0)))), some (.inl x1), some (.inl x2), some (.inl x3), z4] [] σ = f_On_lay_29 x1 x2 x3 σ := by
  unfold f_On_lay_29
  delta ev_On_lay kk_On_lay_29 n_On_isSlot n_On_isWithin n_On_isDrummer n_On_isSheet n_Sh_isMissing n_Dr_setAs n_Sh_fillAs
  generalize f_On_isSlot = c0
  generalize f_On_isWithin = c1
  generalize f_On_isDrummer = c2
  generalize f_On_isSheet = c3
  generalize f_Sh_isMissing = c4
  generalize f_Dr_setAs = c5
  generalize f_Sh_fillAs = c6
  generalize f_On_lay_44 = c7
  rfl
noncomputable def kk_On_lay : sv_K (Int32 × sv_S) := fun pc => sv_lk pc [(29, fun lo st σ => match lo, st with
    | [some (.inr (.inr (some (0, 0)))), some (.inl x1), some (.inl x2), some (.inl x3), _], [] => f_On_lay_29 x1 x2 x3 σ
    | _, _ => none)]
set_option maxRecDepth 20000 in
theorem e_On_lay (a1 : Int32) (a2 : Int32) (a3 : Int32) (σ : sv_S) : sv_ex ev_On_lay sv_rI kk_On_lay cd_On_lay 80 0 [some (.inr (.inr (some (0, 0)))), some (.inl a1), some (.inl a2), some (.inl a3), none] [] σ = f_On_lay a1 a2 a3 σ := by
  unfold f_On_lay
  delta ev_On_lay kk_On_lay n_On_isSlot n_On_isWithin n_On_isDrummer n_On_isSheet n_Sh_isMissing n_Dr_setAs n_Sh_fillAs
  generalize f_On_isSlot = c0
  generalize f_On_isWithin = c1
  generalize f_On_isDrummer = c2
  generalize f_On_isSheet = c3
  generalize f_Sh_isMissing = c4
  generalize f_Dr_setAs = c5
  generalize f_Sh_fillAs = c6
  generalize f_On_lay_29 = c7
  rfl
theorem d_On_lay : cd_On_lay.all (sv_dk cX11_lay) = true := by decide +kernel
set_option maxRecDepth 20000 in
theorem w_On_lay_64 {Γ : sv_Ga} {res : Int32 × sv_S} (X : sv_Ok Γ ev_On_lay cX11_lay sv_rI res) : ∀ (x1 : Int32) (x2 : Int32) (x3 : Int32) (z4 : Option sv_V) (σ : sv_S), f_On_lay_64 x1 x2 x3 σ = some res → sv_T Γ 64 [some (.inr (.inr (some (0, 0)))), some (.inl x1), some (.inl x2), some (.inl x3), z4] [] σ := by
  intro x1 x2 x3 z4 σ h
  refine sv_run X d_On_lay (K := kk_On_lay_64) (sv_lk_all (P := fun pc (k : sv_Lo → List sv_V → sv_S → Option (Int32 × sv_S)) => ∀ lo st σ, k lo st σ = some res → sv_T Γ pc lo st σ) ?_) _ _ _ _ _ ((e_On_lay_64 x1 x2 x3 z4 σ).trans h)
  clear h
  exact fun _ h => absurd h List.not_mem_nil

set_option maxRecDepth 20000 in
theorem w_On_lay_44 {Γ : sv_Ga} {res : Int32 × sv_S} (X : sv_Ok Γ ev_On_lay cX11_lay sv_rI res) : ∀ (x1 : Int32) (x2 : Int32) (x3 : Int32) (z4 : Option sv_V) (σ : sv_S), f_On_lay_44 x1 x2 x3 σ = some res → sv_T Γ 44 [some (.inr (.inr (some (0, 0)))), some (.inl x1), some (.inl x2), some (.inl x3), z4] [] σ := by
  intro x1 x2 x3 z4 σ h
  refine sv_run X d_On_lay (K := kk_On_lay_44) (sv_lk_all (P := fun pc (k : sv_Lo → List sv_V → sv_S → Option (Int32 × sv_S)) => ∀ lo st σ, k lo st σ = some res → sv_T Γ pc lo st σ) ?_) _ _ _ _ _ ((e_On_lay_44 x1 x2 x3 z4 σ).trans h)
  clear h
  refine List.forall_mem_cons.mpr ⟨fun lo st σ h => ?_, fun _ h => absurd h List.not_mem_nil⟩
  · dsimp only at h
    split at h
    · exact w_On_lay_64 X _ _ _ _ _ h
    · cases h

set_option maxRecDepth 20000 in
theorem w_On_lay_29 {Γ : sv_Ga} {res : Int32 × sv_S} (X : sv_Ok Γ ev_On_lay cX11_lay sv_rI res) : ∀ (x1 : Int32) (x2 : Int32) (x3 : Int32) (z4 : Option sv_V) (σ : sv_S), f_On_lay_29 x1 x2 x3 σ = some res → sv_T Γ 29 [some (.inr (.inr (some (0, 0)))), some (.inl x1), some (.inl x2), some (.inl x3), z4] [] σ := by
  intro x1 x2 x3 z4 σ h
  refine sv_run X d_On_lay (K := kk_On_lay_29) (sv_lk_all (P := fun pc (k : sv_Lo → List sv_V → sv_S → Option (Int32 × sv_S)) => ∀ lo st σ, k lo st σ = some res → sv_T Γ pc lo st σ) ?_) _ _ _ _ _ ((e_On_lay_29 x1 x2 x3 z4 σ).trans h)
  clear h
  refine List.forall_mem_cons.mpr ⟨fun lo st σ h => ?_, fun _ h => absurd h List.not_mem_nil⟩
  · dsimp only at h
    split at h
    · exact w_On_lay_44 X _ _ _ _ _ h
    · cases h

set_option maxRecDepth 20000 in
theorem b_On_lay (Γ : sv_Ga) (res : Int32 × sv_S) (X : sv_Ok Γ ev_On_lay cX11_lay sv_rI res) (as : List sv_V) (σ : sv_S) (h : n_On_lay as σ = some res) : sv_T Γ 0 (sv_e0 5 as) [] σ := by
  unfold n_On_lay at h
  split at h
  · refine sv_run X d_On_lay (K := kk_On_lay) (sv_lk_all (P := fun pc (k : sv_Lo → List sv_V → sv_S → Option (Int32 × sv_S)) => ∀ lo st σ, k lo st σ = some res → sv_T Γ pc lo st σ) ?_) _ _ _ _ _ ((e_On_lay _ _ _ _).trans h)
    clear h
    refine List.forall_mem_cons.mpr ⟨fun lo st σ h => ?_, fun _ h => absurd h List.not_mem_nil⟩
    · dsimp only at h
      split at h
      · exact w_On_lay_29 X _ _ _ _ _ h
      · cases h
  · cases h
theorem a_On_lay (as : List sv_V) (σ : sv_S) (x : Int32 × sv_S) (h : n_On_lay as σ = some x) : sv_args 5 ev_On_lay.2.2.2.1 as := by
  unfold n_On_lay at h
  split at h
  · exact ⟨Nat.le_of_ble_eq_true rfl, fun _ v hv => by
      simp only [List.mem_cons, List.not_mem_nil, or_false] at hv
      rcases hv with rfl | rfl | rfl | rfl <;> trivial⟩
  · cases h
theorem g_On_lay (as : List sv_V) (σ : sv_S) (x : Option sv_V × sv_S) (h : sv_gI n_On_lay as σ = some x) : ∃ r i as', as = sv_R r i :: as' ∧ sv_kd r i = .inl 11 := by
  obtain ⟨_, _, h, -⟩ := sv_b_some h
  unfold n_On_lay at h
  split at h
  · exact ⟨_, _, _, rfl, rfl⟩
  · cases h
theorem tw_939 : Cond.methodLink RX11 301 yX11_isSlot ∈ gw_tbl := gw_at 939 (by decide +kernel) rfl
theorem tw_940 : Cond.static yX11_isSlot ∈ gw_tbl := gw_at 940 (by decide +kernel) rfl
theorem tw_941 : Cond.code yX11_isSlot cX11_isSlot 1 (some .boolean) ∈ gw_tbl := gw_at 941 (by decide +kernel) rfl
theorem tw_942 : Cond.methodLink RX11 304 yX1_setAs ∈ gw_tbl := gw_at 942 (by decide +kernel) rfl
theorem tw_943 : Cond.methodLink RX11 308 yX6_fillAs ∈ gw_tbl := gw_at 943 (by decide +kernel) rfl
theorem tw_944 : Cond.instanceMethod yX6_fillAs ∈ gw_tbl := gw_at 944 (by decide +kernel) rfl
theorem tw_945 : Cond.selects RX6 yX6_fillAs yX6_fillAs ∈ gw_tbl := gw_at 945 (by decide +kernel) rfl
theorem tw_946 : Cond.code yX6_fillAs cX6_fillAs 2 none ∈ gw_tbl := gw_at 946 (by decide +kernel) rfl
set_option maxRecDepth 20000 in
theorem m_On_lay (l : Launch) : sv_M l yX11_lay cX11_lay 5 (some .int) (sv_gI n_On_lay) 2 := by
  refine sv_mI (E := ev_On_lay) (by decide +kernel) (ln_gen fk_11 kk_11 gk_11) rfl ?_ a_On_lay b_On_lay
  intro p e R s m args below meth c cells slots Q base ad dC dI cA n0 S hkn hR hf pc n f hcs
  refine sv_lk_all (P := fun pc (x : Nat × sv_F) => sv_cok p l e R s m args below meth c cells slots Q base ad dC dI cA true 5 n0 pc x.1 x.2) ?_ pc (n, f) hcs
  exact List.forall_mem_cons.mpr ⟨(sv_cS S hkn (m_On_isSlot l) ⟨Nat.le_trans (by decide) hR.1, Nat.le_trans (by decide) hR.2⟩ (by decide) hf (sv_w4 tw_939 tw_940 tw_53 tw_941) (by decide +kernel) (sv_dc3 d_On_lay (pc := 1) rfl rfl)).I,
      List.forall_mem_cons.mpr ⟨(sv_cS S hkn (m_On_isWithin l) ⟨Nat.le_trans (by decide) hR.1, Nat.le_trans (by decide) hR.2⟩ (by decide) hf (sv_w4 tw_327 tw_328 tw_53 tw_329) (by decide +kernel) (sv_dc3 d_On_lay (pc := 10) rfl rfl)).I,
      List.forall_mem_cons.mpr ⟨(sv_cV S hkn (m_On_isDrummer l) ⟨Nat.le_trans (by decide) hR.1, Nat.le_trans (by decide) hR.2⟩ (by decide) hf rfl (g_On_isDrummer) (sv_w5 tw_348 tw_350 tw_0 tw_53 tw_351) (by decide +kernel) (sv_dc3 d_On_lay (pc := 23) rfl rfl)).I,
      List.forall_mem_cons.mpr ⟨(sv_cS S hkn (m_On_isSheet l) ⟨Nat.le_trans (by decide) hR.1, Nat.le_trans (by decide) hR.2⟩ (by decide) hf (sv_w4 tw_623 tw_624 tw_53 tw_625) (by decide +kernel) (sv_dc3 d_On_lay (pc := 35) rfl rfl)).I,
      List.forall_mem_cons.mpr ⟨(sv_cV S hkn (m_Sh_isMissing l) ⟨Nat.le_trans (by decide) hR.1, Nat.le_trans (by decide) hR.2⟩ (by decide) hf rfl (g_Sh_isMissing) (sv_w5 tw_626 tw_627 tw_628 tw_64 tw_629) (by decide +kernel) (sv_dc3 d_On_lay (pc := 55) rfl rfl)).I,
      List.forall_mem_cons.mpr ⟨(sv_cV S hkn (m_Dr_setAs l) ⟨Nat.le_trans (by decide) hR.1, Nat.le_trans (by decide) hR.2⟩ (by decide) hf rfl (g_Dr_setAs) (sv_w5 tw_942 tw_557 tw_558 tw_61 tw_559) (by decide +kernel) (sv_dc3 d_On_lay (pc := 99) rfl rfl)).V,
      List.forall_mem_cons.mpr ⟨(sv_cV S hkn (m_Sh_fillAs l) ⟨Nat.le_trans (by decide) hR.1, Nat.le_trans (by decide) hR.2⟩ (by decide) hf rfl (g_Sh_fillAs) (sv_w5 tw_943 tw_944 tw_945 tw_64 tw_946) (by decide +kernel) (sv_dc3 d_On_lay (pc := 122) rfl rfl)).V,
      fun _ h => absurd h List.not_mem_nil⟩⟩⟩⟩⟩⟩⟩
noncomputable def f_On_ask (a1 : Int32) (a2 : Int32) (σ : sv_S) : Option (Int32 × sv_S) :=
  sv_b (f_On_isSlot a1 σ) (fun v1 σ2 =>
    sv_if (v1 = 0)
      (some ((-1000000001 : Int32), σ2))
      (sv_b (f_On_isKind a2 σ2) (fun v3 σ4 =>
        sv_if (v3 = 0)
          (some ((-1000000001 : Int32), σ4))
          (sv_g (sv_in a1 5) (sv_if ((σ4 14 0 (a1.toNatClampNeg)) = 0)
            (some ((-1000000011 : Int32), σ4))
            (sv_g (sv_in a1 5) (sv_g (sv_in a1 5) (sv_if ((σ4 14 0 (a1.toNatClampNeg)) = (1 : Int32))
              (sv_b (f_On_isOf (σ4 2 (10 * 3 + (a1.toNatClampNeg)) 0) a2 σ4) (fun v5 σ6 =>
                sv_if (v5 = 0)
                  (some ((-1000000012 : Int32), σ6))
                  (sv_b (f_Li_kindOf 0 (10 * 3 + (a1.toNatClampNeg)) σ6) (fun i7 σ8 =>
                    sv_b (f_k_worth i7 (σ8 2 (10 * 3 + (a1.toNatClampNeg)) 1) σ8) (fun v9 σ10 =>
                      some (v9, σ10))))))
              (some ((-1000000012 : Int32), σ4))))))))))
noncomputable def n_On_ask : List sv_V → sv_S → Option (Int32 × sv_S)
  | [.inr (.inr (some (0, 0))), .inl a1, .inl a2], σ => f_On_ask a1 a2 σ
  | _, _ => none
def cd_On_ask : sv_C := [(0, (.iload_n 1, (sv_N, (1, (0, []))))), (1, (.invokestatic 301, (sv_N, (4, (0, []))))), (4, (.ifCond .eq 10, (sv_N, (7, (14, []))))), (7, (.iload_n 2, (sv_N, (8, (0, []))))), (8, (.invokestatic 79, (sv_N, (11, (0, []))))), (11, (.ifCond .ne 6, (sv_N, (14, (17, []))))), (14, (.ldc 87, (sv_N, (16, (0, []))))), (16, (.ireturn, (sv_N, (17, (0, []))))), (17, (.aload_n 0, (sv_N, (18, (0, []))))), (18, (.getfield 56, (sv_N, (21, (0, []))))), (21, (.iload_n 1, (sv_N, (22, (0, []))))), (22, (.iaload, (sv_N, (23, (0, []))))), (23, (.ifCond .ne 6, (sv_N, (26, (29, []))))), (26, (.ldc 214, (sv_N, (28, (0, []))))), (28, (.ireturn, (sv_N, (29, (0, []))))), (29, (.aload_n 0, (sv_N, (30, (0, []))))), (30, (.getfield 65, (sv_N, (33, (0, []))))), (33, (.iload_n 1, (sv_N, (34, (0, []))))), (34, (.aaload, (sv_N, (35, (0, []))))), (35, (.astore_n 3, (sv_N, (36, (0, []))))), (36, (.aload_n 0, (sv_N, (37, (0, []))))), (37, (.getfield 56, (sv_N, (40, (0, []))))), (40, (.iload_n 1, (sv_N, (41, (0, []))))), (41, (.iaload, (sv_N, (42, (0, []))))), (42, (.iconst 1, (.inl (1 : Int32), (43, (0, []))))), (43, (.if_icmp .ne 14, (sv_N, (46, (57, []))))), (46, (.aload_n 3, (sv_N, (47, (0, []))))), (47, (.getfield 103, (sv_N, (50, (0, []))))), (50, (.iload_n 2, (sv_N, (51, (0, []))))), (51, (.invokestatic 149, (sv_N, (54, (0, []))))), (54, (.ifCond .ne 6, (sv_N, (57, (60, []))))), (57, (.ldc 153, (sv_N, (59, (0, []))))), (59, (.ireturn, (sv_N, (60, (0, []))))), (60, (.aload_n 0, (sv_N, (61, (0, []))))), (61, (.getfield 30, (sv_N, (64, (0, []))))), (64, (.aload_n 3, (sv_N, (65, (0, []))))), (65, (.invokevirtual 128, (sv_N, (68, (0, []))))), (68, (.aload_n 3, (sv_N, (69, (0, []))))), (69, (.getfield 106, (sv_N, (72, (0, []))))), (72, (.invokevirtual 146, (sv_N, (75, (0, []))))), (75, (.ireturn, (sv_N, (76, (0, [])))))]
noncomputable def ev_On_ask : sv_E := (fun i => sv_lk i fl_11, (fun i => sv_lk i kc_11, (fun i => bif Nat.beq i 166 then 1 else 0, (true, (fun pc => sv_lk pc [(1, (1, .inl n_On_isSlot)), (8, (1, .inl n_On_isKind)), (51, (2, .inl n_On_isOf)), (65, (2, .inr (.inr (.inl (7, n_Li_kindOf))))), (72, (2, .inl n_k_worth))], none)))))
noncomputable def kk_On_ask : sv_K (Int32 × sv_S) := fun pc => sv_lk pc []
set_option maxRecDepth 20000 in
theorem e_On_ask (a1 : Int32) (a2 : Int32) (σ : sv_S) : sv_ex ev_On_ask sv_rI kk_On_ask cd_On_ask 43 0 [some (.inr (.inr (some (0, 0)))), some (.inl a1), some (.inl a2), none] [] σ = f_On_ask a1 a2 σ := by
  unfold f_On_ask
  delta ev_On_ask kk_On_ask n_On_isSlot n_On_isKind n_On_isOf n_Li_kindOf n_k_worth
  generalize f_On_isSlot = c0
  generalize f_On_isKind = c1
  generalize f_On_isOf = c2
  generalize f_Li_kindOf = c3
  generalize f_k_worth = c4
  rfl
theorem d_On_ask : cd_On_ask.all (sv_dk cX11_ask) = true := by decide +kernel
set_option maxRecDepth 20000 in
theorem b_On_ask (Γ : sv_Ga) (res : Int32 × sv_S) (X : sv_Ok Γ ev_On_ask cX11_ask sv_rI res) (as : List sv_V) (σ : sv_S) (h : n_On_ask as σ = some res) : sv_T Γ 0 (sv_e0 4 as) [] σ := by
  unfold n_On_ask at h
  split at h
  · refine sv_run X d_On_ask (K := kk_On_ask) (sv_lk_all (P := fun pc (k : sv_Lo → List sv_V → sv_S → Option (Int32 × sv_S)) => ∀ lo st σ, k lo st σ = some res → sv_T Γ pc lo st σ) ?_) _ _ _ _ _ ((e_On_ask _ _ _).trans h)
    clear h
    exact fun _ h => absurd h List.not_mem_nil
  · cases h
theorem a_On_ask (as : List sv_V) (σ : sv_S) (x : Int32 × sv_S) (h : n_On_ask as σ = some x) : sv_args 4 ev_On_ask.2.2.2.1 as := by
  unfold n_On_ask at h
  split at h
  · exact ⟨Nat.le_of_ble_eq_true rfl, fun _ v hv => by
      simp only [List.mem_cons, List.not_mem_nil, or_false] at hv
      rcases hv with rfl | rfl | rfl <;> trivial⟩
  · cases h
theorem g_On_ask (as : List sv_V) (σ : sv_S) (x : Option sv_V × sv_S) (h : sv_gI n_On_ask as σ = some x) : ∃ r i as', as = sv_R r i :: as' ∧ sv_kd r i = .inl 11 := by
  obtain ⟨_, _, h, -⟩ := sv_b_some h
  unfold n_On_ask at h
  split at h
  · exact ⟨_, _, _, rfl, rfl⟩
  · cases h

set_option maxRecDepth 20000 in
theorem m_On_ask (l : Launch) : sv_M l yX11_ask cX11_ask 4 (some .int) (sv_gI n_On_ask) 3 := by
  refine sv_mI (E := ev_On_ask) (by decide +kernel) (ln_gen fk_11 kk_11 gk_11) rfl ?_ a_On_ask b_On_ask
  intro p e R s m args below meth c cells slots Q base ad dC dI cA n0 S hkn hR hf pc n f hcs
  refine sv_lk_all (P := fun pc (x : Nat × sv_F) => sv_cok p l e R s m args below meth c cells slots Q base ad dC dI cA true 4 n0 pc x.1 x.2) ?_ pc (n, f) hcs
  exact List.forall_mem_cons.mpr ⟨(sv_cS S hkn (m_On_isSlot l) ⟨Nat.le_trans (by decide) hR.1, Nat.le_trans (by decide) hR.2⟩ (by decide) hf (sv_w4 tw_939 tw_940 tw_53 tw_941) (by decide +kernel) (sv_dc3 d_On_ask (pc := 1) rfl rfl)).I,
      List.forall_mem_cons.mpr ⟨(sv_cS S hkn (m_On_isKind l) ⟨Nat.le_trans (by decide) hR.1, Nat.le_trans (by decide) hR.2⟩ (by decide) hf (sv_w4 tw_322 tw_323 tw_53 tw_324) (by decide +kernel) (sv_dc3 d_On_ask (pc := 8) rfl rfl)).I,
      List.forall_mem_cons.mpr ⟨(sv_cS S hkn (m_On_isOf l) ⟨Nat.le_trans (by decide) hR.1, Nat.le_trans (by decide) hR.2⟩ (by decide) hf (sv_w4 tw_473 tw_474 tw_53 tw_475) (by decide +kernel) (sv_dc3 d_On_ask (pc := 51) rfl rfl)).I,
      List.forall_mem_cons.mpr ⟨(sv_cV S hkn (m_Li_kindOf l) ⟨Nat.le_trans (by decide) hR.1, Nat.le_trans (by decide) hR.2⟩ (by decide) hf rfl (g_Li_kindOf) (sv_w5 tw_353 tw_354 tw_355 tw_60 tw_356) (by decide +kernel) (sv_dc3 d_On_ask (pc := 65) rfl rfl)).Rf,
      List.forall_mem_cons.mpr ⟨(sv_cg.of (dp_worth (fun G => sv_cg p l e R s m args below meth c cells slots Q base ad dC dI cA _ _ n0 72 2 G)
        (sv_cD S hkn (x := yX3_worth) (owner := RX3) (q := (RX3, TX3, 0)) (sv_M.sub (m_Ki_worth l) sv_a7_sub) hf (ci := 3) rfl (fun as σ x h => by obtain ⟨as', e⟩ := sv_a7_at (j := 0) as σ x h; exact ⟨7, 0, as', e, rfl⟩) (sv_cwI S ⟨Nat.le_trans (by decide) hR.1, Nat.le_trans (by decide) hR.2⟩ (by decide) rfl (sv_w6 tw_446 tw_449 tw_448 tw_447 tw_54 tw_468) (by decide +kernel)) (sv_dc3 d_On_ask (pc := 72) rfl rfl))
        (sv_cD S hkn (x := yX3_worth) (owner := RX3) (q := (RX7, TX7, 0)) (sv_M.sub (m_Sl_worth l) sv_a7_sub) hf (ci := 7) rfl (fun as σ x h => by obtain ⟨as', e⟩ := sv_a7_at (j := 1) as σ x h; exact ⟨7, 1, as', e, rfl⟩) (sv_cwO S ⟨Nat.le_trans (by decide) hR.1, Nat.le_trans (by decide) hR.2⟩ (by decide) (sv_w7 tw_446 tw_449 tw_447 tw_463 tw_460 tw_55 tw_461) tw_468 (by decide +kernel)) (sv_dc3 d_On_ask (pc := 72) rfl rfl))
        (sv_cD S hkn (x := yX3_worth) (owner := RX3) (q := (RX2, TX2, 0)) (sv_M.sub (m_Ea_worth l) sv_a7_sub) hf (ci := 2) rfl (fun as σ x h => by obtain ⟨as', e⟩ := sv_a7_at (j := 2) as σ x h; exact ⟨7, 2, as', e, rfl⟩) (sv_cwO S ⟨Nat.le_trans (by decide) hR.1, Nat.le_trans (by decide) hR.2⟩ (by decide) (sv_w7 tw_446 tw_449 tw_447 tw_453 tw_454 tw_56 tw_455) tw_468 (by decide +kernel)) (sv_dc3 d_On_ask (pc := 72) rfl rfl))
        (sv_cD S hkn (x := yX3_worth) (owner := RX3) (q := (RX4, TX4, 0)) (sv_M.sub (m_La_worth l) sv_a7_sub) hf (ci := 4) rfl (fun as σ x h => by obtain ⟨as', e⟩ := sv_a7_at (j := 3) as σ x h; exact ⟨7, 3, as', e, rfl⟩) (sv_cwO S ⟨Nat.le_trans (by decide) hR.1, Nat.le_trans (by decide) hR.2⟩ (by decide) (sv_w7 tw_446 tw_449 tw_447 tw_456 tw_457 tw_57 tw_458) tw_468 (by decide +kernel)) (sv_dc3 d_On_ask (pc := 72) rfl rfl))
        (sv_cD S hkn (x := yX3_worth) (owner := RX3) (q := (RX10, TX10, 0)) (sv_M.sub (m_Tr_worth l) sv_a7_sub) hf (ci := 10) rfl (fun as σ x h => by obtain ⟨as', e⟩ := sv_a7_at (j := 4) as σ x h; exact ⟨7, 4, as', e, rfl⟩) (sv_cwO S ⟨Nat.le_trans (by decide) hR.1, Nat.le_trans (by decide) hR.2⟩ (by decide) (sv_w7 tw_446 tw_449 tw_447 tw_464 tw_465 tw_58 tw_466) tw_468 (by decide +kernel)) (sv_dc3 d_On_ask (pc := 72) rfl rfl))
        (sv_cD S hkn (x := yX3_worth) (owner := RX3) (q := (RX0, TX0, 0)) (sv_M.sub (m_De_worth l) sv_a7_sub) hf (ci := 0) rfl (fun as σ x h => by obtain ⟨as', e⟩ := sv_a7_at (j := 5) as σ x h; exact ⟨7, 5, as', e, rfl⟩) (sv_cwO S ⟨Nat.le_trans (by decide) hR.1, Nat.le_trans (by decide) hR.2⟩ (by decide) (sv_w7 tw_446 tw_449 tw_447 tw_450 tw_451 tw_59 tw_452) tw_468 (by decide +kernel)) (sv_dc3 d_On_ask (pc := 72) rfl rfl)))).I,
      fun _ h => absurd h List.not_mem_nil⟩⟩⟩⟩⟩
noncomputable def f_On_item (a1 : Int32) (a2 : Int32) (σ : sv_S) : Option (Int32 × sv_S) :=
  sv_b (f_On_isSlot a1 σ) (fun v1 σ2 =>
    sv_if (v1 = 0)
      (some ((-1000000001 : Int32), σ2))
      (sv_g (sv_in a1 5) (sv_if ((σ2 14 0 (a1.toNatClampNeg)) = 0)
        (some ((-1000000011 : Int32), σ2))
        (sv_g (sv_in a1 5) (sv_if ((σ2 14 0 (a1.toNatClampNeg)) = (2 : Int32))
          (sv_g (sv_in a1 5) (sv_b (f_Sh_hasPlace (4 * 1 + (a1.toNatClampNeg)) a2 σ2) (fun v3 σ4 =>
            sv_if (v3 = 0)
              (some ((-1000000013 : Int32), σ4))
              (sv_b (f_Sh_hasNumber (4 * 1 + (a1.toNatClampNeg)) a2 σ4) (fun v5 σ6 =>
                sv_if (v5 = 0)
                  (some ((-1000000012 : Int32), σ6))
                  (sv_g (sv_in a2 24) (some (σ6 13 (4 * 1 + (a1.toNatClampNeg)) (a2.toNatClampNeg), σ6))))))))
          (some ((-1000000012 : Int32), σ2)))))))
noncomputable def n_On_item : List sv_V → sv_S → Option (Int32 × sv_S)
  | [.inr (.inr (some (0, 0))), .inl a1, .inl a2], σ => f_On_item a1 a2 σ
  | _, _ => none
def cd_On_item : sv_C := [(0, (.iload_n 1, (sv_N, (1, (0, []))))), (1, (.invokestatic 301, (sv_N, (4, (0, []))))), (4, (.ifCond .ne 6, (sv_N, (7, (10, []))))), (7, (.ldc 87, (sv_N, (9, (0, []))))), (9, (.ireturn, (sv_N, (10, (0, []))))), (10, (.aload_n 0, (sv_N, (11, (0, []))))), (11, (.getfield 56, (sv_N, (14, (0, []))))), (14, (.iload_n 1, (sv_N, (15, (0, []))))), (15, (.iaload, (sv_N, (16, (0, []))))), (16, (.ifCond .ne 6, (sv_N, (19, (22, []))))), (19, (.ldc 214, (sv_N, (21, (0, []))))), (21, (.ireturn, (sv_N, (22, (0, []))))), (22, (.aload_n 0, (sv_N, (23, (0, []))))), (23, (.getfield 56, (sv_N, (26, (0, []))))), (26, (.iload_n 1, (sv_N, (27, (0, []))))), (27, (.iaload, (sv_N, (28, (0, []))))), (28, (.iconst 2, (.inl (2 : Int32), (29, (0, []))))), (29, (.if_icmp .eq 6, (sv_N, (32, (35, []))))), (32, (.ldc 153, (sv_N, (34, (0, []))))), (34, (.ireturn, (sv_N, (35, (0, []))))), (35, (.aload_n 0, (sv_N, (36, (0, []))))), (36, (.getfield 69, (sv_N, (39, (0, []))))), (39, (.iload_n 1, (sv_N, (40, (0, []))))), (40, (.aaload, (sv_N, (41, (0, []))))), (41, (.astore_n 3, (sv_N, (42, (0, []))))), (42, (.aload_n 3, (sv_N, (43, (0, []))))), (43, (.iload_n 2, (sv_N, (44, (0, []))))), (44, (.invokevirtual 273, (sv_N, (47, (0, []))))), (47, (.ifCond .ne 7, (sv_N, (50, (54, []))))), (50, (.ldc_w 276, (sv_N, (53, (0, []))))), (53, (.ireturn, (sv_N, (54, (0, []))))), (54, (.aload_n 3, (sv_N, (55, (0, []))))), (55, (.iload_n 2, (sv_N, (56, (0, []))))), (56, (.invokevirtual 285, (sv_N, (59, (0, []))))), (59, (.ifCond .eq 12, (sv_N, (62, (71, []))))), (62, (.aload_n 3, (sv_N, (63, (0, []))))), (63, (.getfield 280, (sv_N, (66, (0, []))))), (66, (.iload_n 2, (sv_N, (67, (0, []))))), (67, (.iaload, (sv_N, (68, (0, []))))), (68, (.goto 5, (sv_N, (71, (73, []))))), (71, (.ldc 153, (sv_N, (73, (0, []))))), (73, (.ireturn, (sv_N, (74, (0, [])))))]
noncomputable def ev_On_item : sv_E := (fun i => sv_lk i fl_11, (fun i => sv_lk i kc_11, (fun i => bif Nat.beq i 166 then 1 else 0, (true, (fun pc => sv_lk pc [(1, (1, .inl n_On_isSlot)), (44, (2, .inl n_Sh_hasPlace)), (56, (2, .inl n_Sh_hasNumber))], none)))))
noncomputable def kk_On_item : sv_K (Int32 × sv_S) := fun pc => sv_lk pc []
set_option maxRecDepth 20000 in
theorem e_On_item (a1 : Int32) (a2 : Int32) (σ : sv_S) : sv_ex ev_On_item sv_rI kk_On_item cd_On_item 44 0 [some (.inr (.inr (some (0, 0)))), some (.inl a1), some (.inl a2), none] [] σ = f_On_item a1 a2 σ := by
  unfold f_On_item
  delta ev_On_item kk_On_item n_On_isSlot n_Sh_hasPlace n_Sh_hasNumber
  generalize f_On_isSlot = c0
  generalize f_Sh_hasPlace = c1
  generalize f_Sh_hasNumber = c2
  rfl
theorem d_On_item : cd_On_item.all (sv_dk cX11_item) = true := by decide +kernel
set_option maxRecDepth 20000 in
theorem b_On_item (Γ : sv_Ga) (res : Int32 × sv_S) (X : sv_Ok Γ ev_On_item cX11_item sv_rI res) (as : List sv_V) (σ : sv_S) (h : n_On_item as σ = some res) : sv_T Γ 0 (sv_e0 4 as) [] σ := by
  unfold n_On_item at h
  split at h
  · refine sv_run X d_On_item (K := kk_On_item) (sv_lk_all (P := fun pc (k : sv_Lo → List sv_V → sv_S → Option (Int32 × sv_S)) => ∀ lo st σ, k lo st σ = some res → sv_T Γ pc lo st σ) ?_) _ _ _ _ _ ((e_On_item _ _ _).trans h)
    clear h
    exact fun _ h => absurd h List.not_mem_nil
  · cases h
theorem a_On_item (as : List sv_V) (σ : sv_S) (x : Int32 × sv_S) (h : n_On_item as σ = some x) : sv_args 4 ev_On_item.2.2.2.1 as := by
  unfold n_On_item at h
  split at h
  · exact ⟨Nat.le_of_ble_eq_true rfl, fun _ v hv => by
      simp only [List.mem_cons, List.not_mem_nil, or_false] at hv
      rcases hv with rfl | rfl | rfl <;> trivial⟩
  · cases h
theorem g_On_item (as : List sv_V) (σ : sv_S) (x : Option sv_V × sv_S) (h : sv_gI n_On_item as σ = some x) : ∃ r i as', as = sv_R r i :: as' ∧ sv_kd r i = .inl 11 := by
  obtain ⟨_, _, h, -⟩ := sv_b_some h
  unfold n_On_item at h
  split at h
  · exact ⟨_, _, _, rfl, rfl⟩
  · cases h

set_option maxRecDepth 20000 in
theorem m_On_item (l : Launch) : sv_M l yX11_item cX11_item 4 (some .int) (sv_gI n_On_item) 2 := by
  refine sv_mI (E := ev_On_item) (by decide +kernel) (ln_gen fk_11 kk_11 gk_11) rfl ?_ a_On_item b_On_item
  intro p e R s m args below meth c cells slots Q base ad dC dI cA n0 S hkn hR hf pc n f hcs
  refine sv_lk_all (P := fun pc (x : Nat × sv_F) => sv_cok p l e R s m args below meth c cells slots Q base ad dC dI cA true 4 n0 pc x.1 x.2) ?_ pc (n, f) hcs
  exact List.forall_mem_cons.mpr ⟨(sv_cS S hkn (m_On_isSlot l) ⟨Nat.le_trans (by decide) hR.1, Nat.le_trans (by decide) hR.2⟩ (by decide) hf (sv_w4 tw_939 tw_940 tw_53 tw_941) (by decide +kernel) (sv_dc3 d_On_item (pc := 1) rfl rfl)).I,
      List.forall_mem_cons.mpr ⟨(sv_cV S hkn (m_Sh_hasPlace l) ⟨Nat.le_trans (by decide) hR.1, Nat.le_trans (by decide) hR.2⟩ (by decide) hf rfl (g_Sh_hasPlace) (sv_w5 tw_913 tw_644 tw_645 tw_64 tw_646) (by decide +kernel) (sv_dc3 d_On_item (pc := 44) rfl rfl)).I,
      List.forall_mem_cons.mpr ⟨(sv_cV S hkn (m_Sh_hasNumber l) ⟨Nat.le_trans (by decide) hR.1, Nat.le_trans (by decide) hR.2⟩ (by decide) hf rfl (g_Sh_hasNumber) (sv_w5 tw_639 tw_640 tw_641 tw_64 tw_642) (by decide +kernel) (sv_dc3 d_On_item (pc := 56) rfl rfl)).I,
      fun _ h => absurd h List.not_mem_nil⟩⟩⟩
noncomputable def f_On_rest (a1 : Int32) (a2 : Int32) (σ : sv_S) : Option (Int32 × sv_S) :=
  sv_b (f_On_isSlot a1 σ) (fun v1 σ2 =>
    sv_if (v1 = 0)
      (some ((-1000000001 : Int32), σ2))
      (sv_g (sv_in a1 5) (sv_if ((σ2 14 0 (a1.toNatClampNeg)) = 0)
        (some ((-1000000011 : Int32), σ2))
        (sv_g (sv_in a1 5) (sv_if ((σ2 14 0 (a1.toNatClampNeg)) = (3 : Int32))
          (sv_if (a2 = 0)
            (some ((-1000000002 : Int32), σ2))
            (sv_g (sv_in a1 5) (sv_g (¬ a2 = 0) (some ((σ2 15 0 (a1.toNatClampNeg)) - (σ2 15 0 (a1.toNatClampNeg)) / a2 * a2, σ2)))))
          (some ((-1000000012 : Int32), σ2)))))))
noncomputable def n_On_rest : List sv_V → sv_S → Option (Int32 × sv_S)
  | [.inr (.inr (some (0, 0))), .inl a1, .inl a2], σ => f_On_rest a1 a2 σ
  | _, _ => none
def cd_On_rest : sv_C := [(0, (.iload_n 1, (sv_N, (1, (0, []))))), (1, (.invokestatic 301, (sv_N, (4, (0, []))))), (4, (.ifCond .ne 6, (sv_N, (7, (10, []))))), (7, (.ldc 87, (sv_N, (9, (0, []))))), (9, (.ireturn, (sv_N, (10, (0, []))))), (10, (.aload_n 0, (sv_N, (11, (0, []))))), (11, (.getfield 56, (sv_N, (14, (0, []))))), (14, (.iload_n 1, (sv_N, (15, (0, []))))), (15, (.iaload, (sv_N, (16, (0, []))))), (16, (.ifCond .ne 6, (sv_N, (19, (22, []))))), (19, (.ldc 214, (sv_N, (21, (0, []))))), (21, (.ireturn, (sv_N, (22, (0, []))))), (22, (.aload_n 0, (sv_N, (23, (0, []))))), (23, (.getfield 56, (sv_N, (26, (0, []))))), (26, (.iload_n 1, (sv_N, (27, (0, []))))), (27, (.iaload, (sv_N, (28, (0, []))))), (28, (.iconst 3, (.inl (3 : Int32), (29, (0, []))))), (29, (.if_icmp .eq 6, (sv_N, (32, (35, []))))), (32, (.ldc 153, (sv_N, (34, (0, []))))), (34, (.ireturn, (sv_N, (35, (0, []))))), (35, (.iload_n 2, (sv_N, (36, (0, []))))), (36, (.ifCond .ne 8, (sv_N, (39, (44, []))))), (39, (.ldc 172, (sv_N, (41, (0, []))))), (41, (.goto 11, (sv_N, (44, (52, []))))), (44, (.aload_n 0, (sv_N, (45, (0, []))))), (45, (.getfield 60, (sv_N, (48, (0, []))))), (48, (.iload_n 1, (sv_N, (49, (0, []))))), (49, (.iaload, (sv_N, (50, (0, []))))), (50, (.iload_n 2, (sv_N, (51, (0, []))))), (51, (.irem, (sv_N, (52, (0, []))))), (52, (.ireturn, (sv_N, (53, (0, [])))))]
noncomputable def ev_On_rest : sv_E := (fun i => sv_lk i fl_11, (fun i => sv_lk i kc_11, (fun i => bif Nat.beq i 166 then 1 else 0, (true, (fun pc => sv_lk pc [(1, (1, .inl n_On_isSlot))], none)))))
noncomputable def kk_On_rest : sv_K (Int32 × sv_S) := fun pc => sv_lk pc []
set_option maxRecDepth 20000 in
theorem e_On_rest (a1 : Int32) (a2 : Int32) (σ : sv_S) : sv_ex ev_On_rest sv_rI kk_On_rest cd_On_rest 33 0 [some (.inr (.inr (some (0, 0)))), some (.inl a1), some (.inl a2)] [] σ = f_On_rest a1 a2 σ := by
  unfold f_On_rest
  delta ev_On_rest kk_On_rest n_On_isSlot
  generalize f_On_isSlot = c0
  rfl
theorem d_On_rest : cd_On_rest.all (sv_dk cX11_rest) = true := by decide +kernel
set_option maxRecDepth 20000 in
theorem b_On_rest (Γ : sv_Ga) (res : Int32 × sv_S) (X : sv_Ok Γ ev_On_rest cX11_rest sv_rI res) (as : List sv_V) (σ : sv_S) (h : n_On_rest as σ = some res) : sv_T Γ 0 (sv_e0 3 as) [] σ := by
  unfold n_On_rest at h
  split at h
  · refine sv_run X d_On_rest (K := kk_On_rest) (sv_lk_all (P := fun pc (k : sv_Lo → List sv_V → sv_S → Option (Int32 × sv_S)) => ∀ lo st σ, k lo st σ = some res → sv_T Γ pc lo st σ) ?_) _ _ _ _ _ ((e_On_rest _ _ _).trans h)
    clear h
    exact fun _ h => absurd h List.not_mem_nil
  · cases h
theorem a_On_rest (as : List sv_V) (σ : sv_S) (x : Int32 × sv_S) (h : n_On_rest as σ = some x) : sv_args 3 ev_On_rest.2.2.2.1 as := by
  unfold n_On_rest at h
  split at h
  · exact ⟨Nat.le_of_ble_eq_true rfl, fun _ v hv => by
      simp only [List.mem_cons, List.not_mem_nil, or_false] at hv
      rcases hv with rfl | rfl | rfl <;> trivial⟩
  · cases h
theorem g_On_rest (as : List sv_V) (σ : sv_S) (x : Option sv_V × sv_S) (h : sv_gI n_On_rest as σ = some x) : ∃ r i as', as = sv_R r i :: as' ∧ sv_kd r i = .inl 11 := by
  obtain ⟨_, _, h, -⟩ := sv_b_some h
  unfold n_On_rest at h
  split at h
  · exact ⟨_, _, _, rfl, rfl⟩
  · cases h

set_option maxRecDepth 20000 in
theorem m_On_rest (l : Launch) : sv_M l yX11_rest cX11_rest 3 (some .int) (sv_gI n_On_rest) 1 := by
  refine sv_mI (E := ev_On_rest) (by decide +kernel) (ln_gen fk_11 kk_11 gk_11) rfl ?_ a_On_rest b_On_rest
  intro p e R s m args below meth c cells slots Q base ad dC dI cA n0 S hkn hR hf pc n f hcs
  refine sv_lk_all (P := fun pc (x : Nat × sv_F) => sv_cok p l e R s m args below meth c cells slots Q base ad dC dI cA true 3 n0 pc x.1 x.2) ?_ pc (n, f) hcs
  exact List.forall_mem_cons.mpr ⟨(sv_cS S hkn (m_On_isSlot l) ⟨Nat.le_trans (by decide) hR.1, Nat.le_trans (by decide) hR.2⟩ (by decide) hf (sv_w4 tw_939 tw_940 tw_53 tw_941) (by decide +kernel) (sv_dc3 d_On_rest (pc := 1) rfl rfl)).I,
      fun _ h => absurd h List.not_mem_nil⟩
noncomputable def f_On_tell (a1 : Int32) (σ : sv_S) : Option (Int32 × sv_S) :=
  sv_if ((σ 0 0 11) < (60 : Int32))
    (sv_g (sv_in (σ 0 0 11) 60) (let σ1 := sv_up (sv_up σ 16 0 ((σ 0 0 11).toNatClampNeg) a1) 0 0 11 (((sv_up σ 16 0 ((σ 0 0 11).toNatClampNeg) a1) 0 0 11) + (1 : Int32))
    some (σ1 0 0 11, σ1)))
    (some ((-1000000003 : Int32), σ))
noncomputable def n_On_tell : List sv_V → sv_S → Option (Int32 × sv_S)
  | [.inr (.inr (some (0, 0))), .inl a1], σ => f_On_tell a1 σ
  | _, _ => none
def cd_On_tell : sv_C := [(0, (.aload_n 0, (sv_N, (1, (0, []))))), (1, (.getfield 312, (sv_N, (4, (0, []))))), (4, (.bipush 60, (.inl (60 : Int32), (6, (0, []))))), (6, (.if_icmp .lt 6, (sv_N, (9, (12, []))))), (9, (.ldc 92, (sv_N, (11, (0, []))))), (11, (.ireturn, (sv_N, (12, (0, []))))), (12, (.aload_n 0, (sv_N, (13, (0, []))))), (13, (.getfield 73, (sv_N, (16, (0, []))))), (16, (.aload_n 0, (sv_N, (17, (0, []))))), (17, (.getfield 312, (sv_N, (20, (0, []))))), (20, (.iload_n 1, (sv_N, (21, (0, []))))), (21, (.iastore, (sv_N, (22, (0, []))))), (22, (.aload_n 0, (sv_N, (23, (0, []))))), (23, (.dup, (sv_N, (24, (0, []))))), (24, (.getfield 312, (sv_N, (27, (0, []))))), (27, (.iconst 1, (.inl (1 : Int32), (28, (0, []))))), (28, (.iadd, (sv_N, (29, (0, []))))), (29, (.putfield 312, (sv_N, (32, (0, []))))), (32, (.aload_n 0, (sv_N, (33, (0, []))))), (33, (.getfield 312, (sv_N, (36, (0, []))))), (36, (.ireturn, (sv_N, (37, (0, [])))))]
noncomputable def ev_On_tell : sv_E := (fun i => sv_lk i fl_11, (fun i => sv_lk i kc_11, (fun i => bif Nat.beq i 166 then 1 else 0, (true, (fun pc => sv_lk pc [], none)))))
noncomputable def kk_On_tell : sv_K (Int32 × sv_S) := fun pc => sv_lk pc []
set_option maxRecDepth 20000 in
theorem e_On_tell (a1 : Int32) (σ : sv_S) : sv_ex ev_On_tell sv_rI kk_On_tell cd_On_tell 23 0 [some (.inr (.inr (some (0, 0)))), some (.inl a1)] [] σ = f_On_tell a1 σ := by
  unfold f_On_tell
  delta ev_On_tell kk_On_tell
  rfl
theorem d_On_tell : cd_On_tell.all (sv_dk cX11_tell) = true := by decide +kernel
set_option maxRecDepth 20000 in
theorem b_On_tell (Γ : sv_Ga) (res : Int32 × sv_S) (X : sv_Ok Γ ev_On_tell cX11_tell sv_rI res) (as : List sv_V) (σ : sv_S) (h : n_On_tell as σ = some res) : sv_T Γ 0 (sv_e0 2 as) [] σ := by
  unfold n_On_tell at h
  split at h
  · refine sv_run X d_On_tell (K := kk_On_tell) (sv_lk_all (P := fun pc (k : sv_Lo → List sv_V → sv_S → Option (Int32 × sv_S)) => ∀ lo st σ, k lo st σ = some res → sv_T Γ pc lo st σ) ?_) _ _ _ _ _ ((e_On_tell _ _).trans h)
    clear h
    exact fun _ h => absurd h List.not_mem_nil
  · cases h
theorem a_On_tell (as : List sv_V) (σ : sv_S) (x : Int32 × sv_S) (h : n_On_tell as σ = some x) : sv_args 2 ev_On_tell.2.2.2.1 as := by
  unfold n_On_tell at h
  split at h
  · exact ⟨Nat.le_of_ble_eq_true rfl, fun _ v hv => by
      simp only [List.mem_cons, List.not_mem_nil, or_false] at hv
      rcases hv with rfl | rfl <;> trivial⟩
  · cases h
theorem g_On_tell (as : List sv_V) (σ : sv_S) (x : Option sv_V × sv_S) (h : sv_gI n_On_tell as σ = some x) : ∃ r i as', as = sv_R r i :: as' ∧ sv_kd r i = .inl 11 := by
  obtain ⟨_, _, h, -⟩ := sv_b_some h
  unfold n_On_tell at h
  split at h
  · exact ⟨_, _, _, rfl, rfl⟩
  · cases h

set_option maxRecDepth 20000 in
theorem m_On_tell (l : Launch) : sv_M l yX11_tell cX11_tell 2 (some .int) (sv_gI n_On_tell) 0 := by
  refine sv_mI (E := ev_On_tell) (by decide +kernel) (ln_gen fk_11 kk_11 gk_11) rfl ?_ a_On_tell b_On_tell
  intro p e R s m args below meth c cells slots Q base ad dC dI cA n0 S hkn hR hf pc n f hcs
  refine sv_lk_all (P := fun pc (x : Nat × sv_F) => sv_cok p l e R s m args below meth c cells slots Q base ad dC dI cA true 2 n0 pc x.1 x.2) ?_ pc (n, f) hcs
  exact fun _ h => absurd h List.not_mem_nil
noncomputable def f_On_check_95 (k65 : Int32 → Int32 → Int32 → sv_S → Option (Int32 × sv_S)) (x2 : Int32) (x3 : Int32) (x4 : Int32) (y0 : Int32) (σ : sv_S) : Option (Int32 × sv_S) :=
    sv_if (x2 ≤ x4)
      (some ((1 : Int32) + x4, σ))
      (sv_g (sv_in x4 60) (sv_if ((σ 16 0 (x4.toNatClampNeg)) = y0)
        (k65 x2 x3 (x4 + (1 : Int32)) σ)
        (some ((1 : Int32) + x4, σ))))
noncomputable def f_On_check_65 : Nat → Int32 → Int32 → Int32 → sv_S → Option (Int32 × sv_S)
  | 0, _, _, _, _ => none
  | n + 1, x2, x3, x4, σ =>
    sv_if (x3 ≤ x4)
      (sv_if (x2 ≤ x3)
        (some ((0 : Int32), σ))
        (some ((1 : Int32) + x3, σ)))
      (sv_g (¬ (2 : Int32) = 0) (sv_if ((x4 - x4 / (2 : Int32) * (2 : Int32)) = 0)
        (sv_b (f_Li_passOne 2 σ) (fun v1 σ2 =>
          f_On_check_95 (f_On_check_65 n) x2 x3 x4 v1 σ2))
        (sv_b (f_Li_countsOfAll 2 σ) (fun v3 σ4 =>
          f_On_check_95 (f_On_check_65 n) x2 x3 x4 v3 σ4))))
noncomputable def f_On_check (a1 : Int32) (σ : sv_S) : Option (Int32 × sv_S) :=
  let σ1 := sv_up σ 0 0 11 (0 : Int32)
  sv_b (f_On_isWithin a1 (1 : Int32) (30 : Int32) σ1) (fun v2 σ3 =>
    sv_if (v2 = 0)
      (some ((-1000000001 : Int32), σ3))
      (sv_if ((σ3 0 0 3) = 0)
        (some ((-1000000002 : Int32), σ3))
        (sv_b0 (f_Li_become 2 1 σ3) (fun σ4 =>
          sv_b (f_Jm_min a1 ((9999 : Int32) - (σ4 1 1 5)) σ4) (fun v5 σ6 =>
            f_On_check_65 sv_fu (σ 0 0 11) ((2 : Int32) * v5) (0 : Int32) σ6)))))
noncomputable def n_On_check : List sv_V → sv_S → Option (Int32 × sv_S)
  | [.inr (.inr (some (0, 0))), .inl a1], σ => f_On_check a1 σ
  | _, _ => none
def cd_On_check : sv_C := [(0, (.aload_n 0, (sv_N, (1, (0, []))))), (1, (.getfield 312, (sv_N, (4, (0, []))))), (4, (.istore_n 2, (sv_N, (5, (0, []))))), (5, (.aload_n 0, (sv_N, (6, (0, []))))), (6, (.iconst 0, (.inl (0 : Int32), (7, (0, []))))), (7, (.putfield 312, (sv_N, (10, (0, []))))), (10, (.iload_n 1, (sv_N, (11, (0, []))))), (11, (.iconst 1, (.inl (1 : Int32), (12, (0, []))))), (12, (.bipush 30, (.inl (30 : Int32), (14, (0, []))))), (14, (.invokestatic 83, (sv_N, (17, (0, []))))), (17, (.ifCond .ne 6, (sv_N, (20, (23, []))))), (20, (.ldc 87, (sv_N, (22, (0, []))))), (22, (.ireturn, (sv_N, (23, (0, []))))), (23, (.aload_n 0, (sv_N, (24, (0, []))))), (24, (.getfield 315, (sv_N, (27, (0, []))))), (27, (.ifCond .ne 6, (sv_N, (30, (33, []))))), (30, (.ldc 172, (sv_N, (32, (0, []))))), (32, (.ireturn, (sv_N, (33, (0, []))))), (33, (.aload_n 0, (sv_N, (34, (0, []))))), (34, (.getfield 39, (sv_N, (37, (0, []))))), (37, (.aload_n 0, (sv_N, (38, (0, []))))), (38, (.getfield 36, (sv_N, (41, (0, []))))), (41, (.invokevirtual 319, (sv_N, (44, (0, []))))), (44, (.iconst 2, (.inl (2 : Int32), (45, (0, []))))), (45, (.iload_n 1, (sv_N, (46, (0, []))))), (46, (.sipush 9999, (.inl (9999 : Int32), (49, (0, []))))), (49, (.aload_n 0, (sv_N, (50, (0, []))))), (50, (.getfield 36, (sv_N, (53, (0, []))))), (53, (.getfield 140, (sv_N, (56, (0, []))))), (56, (.isub, (sv_N, (57, (0, []))))), (57, (.invokestatic 157, (sv_N, (60, (0, []))))), (60, (.imul, (sv_N, (61, (0, []))))), (61, (.istore_n 3, (sv_N, (62, (0, []))))), (62, (.iconst 0, (.inl (0 : Int32), (63, (0, []))))), (63, (.istore 4, (sv_N, (65, (0, []))))), (65, (.iload 4, (sv_N, (67, (0, []))))), (67, (.iload_n 3, (sv_N, (68, (0, []))))), (68, (.if_icmp .ge 58, (sv_N, (71, (126, []))))), (71, (.iload 4, (sv_N, (73, (0, []))))), (73, (.iconst 2, (.inl (2 : Int32), (74, (0, []))))), (74, (.irem, (sv_N, (75, (0, []))))), (75, (.ifCond .ne 13, (sv_N, (78, (88, []))))), (78, (.aload_n 0, (sv_N, (79, (0, []))))), (79, (.getfield 39, (sv_N, (82, (0, []))))), (82, (.invokevirtual 189, (sv_N, (85, (0, []))))), (85, (.goto 10, (sv_N, (88, (95, []))))), (88, (.aload_n 0, (sv_N, (89, (0, []))))), (89, (.getfield 39, (sv_N, (92, (0, []))))), (92, (.invokevirtual 323, (sv_N, (95, (0, []))))), (95, (.istore 5, (sv_N, (97, (0, []))))), (97, (.iload 4, (sv_N, (99, (0, []))))), (99, (.iload_n 2, (sv_N, (100, (0, []))))), (100, (.if_icmp .ge 15, (sv_N, (103, (115, []))))), (103, (.aload_n 0, (sv_N, (104, (0, []))))), (104, (.getfield 73, (sv_N, (107, (0, []))))), (107, (.iload 4, (sv_N, (109, (0, []))))), (109, (.iaload, (sv_N, (110, (0, []))))), (110, (.iload 5, (sv_N, (112, (0, []))))), (112, (.if_icmp .eq 8, (sv_N, (115, (120, []))))), (115, (.iconst 1, (.inl (1 : Int32), (116, (0, []))))), (116, (.iload 4, (sv_N, (118, (0, []))))), (118, (.iadd, (sv_N, (119, (0, []))))), (119, (.ireturn, (sv_N, (120, (0, []))))), (120, (.iinc 4 1, (.inl (1 : Int32), (123, (0, []))))), (123, (.goto (-58), (sv_N, (126, (65, []))))), (126, (.iload_n 2, (sv_N, (127, (0, []))))), (127, (.iload_n 3, (sv_N, (128, (0, []))))), (128, (.if_icmp .le 9, (sv_N, (131, (137, []))))), (131, (.iconst 1, (.inl (1 : Int32), (132, (0, []))))), (132, (.iload_n 3, (sv_N, (133, (0, []))))), (133, (.iadd, (sv_N, (134, (0, []))))), (134, (.goto 4, (sv_N, (137, (138, []))))), (137, (.iconst 0, (.inl (0 : Int32), (138, (0, []))))), (138, (.ireturn, (sv_N, (139, (0, [])))))]
noncomputable def ev_On_check : sv_E := (fun i => sv_lk i fl_11, (fun i => sv_lk i kc_11, (fun i => bif Nat.beq i 166 then 1 else 0, (true, (fun pc => sv_lk pc [(14, (3, .inl n_On_isWithin)), (41, (2, .inr (.inl n_Li_become))), (57, (2, .inl n_Jm_min)), (82, (1, .inl n_Li_passOne)), (92, (1, .inl n_Li_countsOfAll))], none)))))
noncomputable def kk_On_check_95 (k65 : Int32 → Int32 → Int32 → sv_S → Option (Int32 × sv_S)) : sv_K (Int32 × sv_S) := fun pc => sv_lk pc [(65, fun lo st σ => match lo, st with
    | [some (.inr (.inr (some (0, 0)))), _, some (.inl x2), some (.inl x3), some (.inl x4), _], [] => k65 x2 x3 x4 σ
    | _, _ => none)]
set_option maxRecDepth 20000 in
theorem e_On_check_95 (k65 : Int32 → Int32 → Int32 → sv_S → Option (Int32 × sv_S)) (x2 : Int32) (x3 : Int32) (x4 : Int32) (y0 : Int32) (z1 z5 : Option sv_V) (σ : sv_S) : sv_ex ev_On_check sv_rI (kk_On_check_95 k65) cd_On_check 76 95 [some (.inr (.inr (some (0, 0)))), z1, some (.inl x2), some (.inl x3), some (.inl x4), z5] [.inl y0] σ = f_On_check_95 k65 x2 x3 x4 y0 σ := by
  unfold f_On_check_95
  delta ev_On_check kk_On_check_95 n_On_isWithin n_Li_become n_Jm_min n_Li_passOne n_Li_countsOfAll
  generalize f_On_isWithin = c0
  generalize f_Li_become = c1
  generalize f_Jm_min = c2
  generalize f_Li_passOne = c3
  generalize f_Li_countsOfAll = c4
  generalize f_On_check_65 = c5
  rfl
noncomputable def kk_On_check_65 (n : Nat) : sv_K (Int32 × sv_S) := fun pc => sv_lk pc [(95, fun lo st σ => match lo, st with
    | [some (.inr (.inr (some (0, 0)))), _, some (.inl x2), some (.inl x3), some (.inl x4), _], [.inl y0] => f_On_check_95 (f_On_check_65 n) x2 x3 x4 y0 σ
    | _, _ => none)]
set_option maxRecDepth 20000 in
theorem e_On_check_65 (n : Nat) (x2 : Int32) (x3 : Int32) (x4 : Int32) (z1 z5 : Option sv_V) (σ : sv_S) : sv_ex ev_On_check sv_rI (kk_On_check_65 n) cd_On_check 76 65 [some (.inr (.inr (some (0, 0)))), z1, some (.inl x2), some (.inl x3), some (.inl x4), z5] [] σ = f_On_check_65 (n + 1) x2 x3 x4 σ := by
  rw [f_On_check_65.eq_2]
  delta ev_On_check kk_On_check_65 n_On_isWithin n_Li_become n_Jm_min n_Li_passOne n_Li_countsOfAll
  generalize f_On_isWithin = c0
  generalize f_Li_become = c1
  generalize f_Jm_min = c2
  generalize f_Li_passOne = c3
  generalize f_Li_countsOfAll = c4
  generalize f_On_check_95 = c5
  generalize f_On_check_65 = c6
  rfl
noncomputable def kk_On_check : sv_K (Int32 × sv_S) := fun pc => sv_lk pc [(65, fun lo st σ => match lo, st with
    | [some (.inr (.inr (some (0, 0)))), _, some (.inl x2), some (.inl x3), some (.inl x4), _], [] => f_On_check_65 sv_fu x2 x3 x4 σ
    | _, _ => none)]
set_option maxRecDepth 20000 in
theorem e_On_check (a1 : Int32) (σ : sv_S) : sv_ex ev_On_check sv_rI kk_On_check cd_On_check 76 0 [some (.inr (.inr (some (0, 0)))), some (.inl a1), none, none, none, none] [] σ = f_On_check a1 σ := by
  unfold f_On_check
  delta ev_On_check kk_On_check n_On_isWithin n_Li_become n_Jm_min n_Li_passOne n_Li_countsOfAll
  generalize f_On_isWithin = c0
  generalize f_Li_become = c1
  generalize f_Jm_min = c2
  generalize f_Li_passOne = c3
  generalize f_Li_countsOfAll = c4
  generalize f_On_check_65 = c5
  rfl
theorem d_On_check : cd_On_check.all (sv_dk cX11_check) = true := by decide +kernel
set_option maxRecDepth 20000 in
theorem w_On_check_95 {Γ : sv_Ga} {res : Int32 × sv_S} (X : sv_Ok Γ ev_On_check cX11_check sv_rI res) (k65 : Int32 → Int32 → Int32 → sv_S → Option (Int32 × sv_S)) (h65 : ∀ (x2 : Int32) (x3 : Int32) (x4 : Int32) (z1 z5 : Option sv_V) (σ : sv_S), k65 x2 x3 x4 σ = some res → sv_T Γ 65 [some (.inr (.inr (some (0, 0)))), z1, some (.inl x2), some (.inl x3), some (.inl x4), z5] [] σ) : ∀ (x2 : Int32) (x3 : Int32) (x4 : Int32) (y0 : Int32) (z1 z5 : Option sv_V) (σ : sv_S), f_On_check_95 k65 x2 x3 x4 y0 σ = some res → sv_T Γ 95 [some (.inr (.inr (some (0, 0)))), z1, some (.inl x2), some (.inl x3), some (.inl x4), z5] [.inl y0] σ := by
  intro x2 x3 x4 y0 z1 z5 σ h
  refine sv_run X d_On_check (K := kk_On_check_95 k65) (sv_lk_all (P := fun pc (k : sv_Lo → List sv_V → sv_S → Option (Int32 × sv_S)) => ∀ lo st σ, k lo st σ = some res → sv_T Γ pc lo st σ) ?_) _ _ _ _ _ ((e_On_check_95 k65 x2 x3 x4 y0 z1 z5 σ).trans h)
  clear h
  refine List.forall_mem_cons.mpr ⟨fun lo st σ h => ?_, fun _ h => absurd h List.not_mem_nil⟩
  · dsimp only at h
    split at h
    · exact h65 _ _ _ _ _ _ h
    · cases h

set_option maxRecDepth 20000 in
theorem w_On_check_65 {Γ : sv_Ga} {res : Int32 × sv_S} (X : sv_Ok Γ ev_On_check cX11_check sv_rI res) : ∀ (n : Nat) (x2 : Int32) (x3 : Int32) (x4 : Int32) (z1 z5 : Option sv_V) (σ : sv_S), f_On_check_65 n x2 x3 x4 σ = some res → sv_T Γ 65 [some (.inr (.inr (some (0, 0)))), z1, some (.inl x2), some (.inl x3), some (.inl x4), z5] [] σ := by
  intro n
  induction n with
  | zero =>
    intro x2 x3 x4 z1 z5 σ h
    rw [f_On_check_65.eq_1] at h
    cases h
  | succ n ih =>
    intro x2 x3 x4 z1 z5 σ h
    refine sv_run X d_On_check (K := kk_On_check_65 n) (sv_lk_all (P := fun pc (k : sv_Lo → List sv_V → sv_S → Option (Int32 × sv_S)) => ∀ lo st σ, k lo st σ = some res → sv_T Γ pc lo st σ) ?_) _ _ _ _ _ ((e_On_check_65 n x2 x3 x4 z1 z5 σ).trans h)
    clear h
    refine List.forall_mem_cons.mpr ⟨fun lo st σ h => ?_, fun _ h => absurd h List.not_mem_nil⟩
    · dsimp only at h
      split at h
      · exact w_On_check_95 X _ ih _ _ _ _ _ _ _ h
      · cases h

set_option maxRecDepth 20000 in
theorem b_On_check (Γ : sv_Ga) (res : Int32 × sv_S) (X : sv_Ok Γ ev_On_check cX11_check sv_rI res) (as : List sv_V) (σ : sv_S) (h : n_On_check as σ = some res) : sv_T Γ 0 (sv_e0 6 as) [] σ := by
  unfold n_On_check at h
  split at h
  · refine sv_run X d_On_check (K := kk_On_check) (sv_lk_all (P := fun pc (k : sv_Lo → List sv_V → sv_S → Option (Int32 × sv_S)) => ∀ lo st σ, k lo st σ = some res → sv_T Γ pc lo st σ) ?_) _ _ _ _ _ ((e_On_check _ _).trans h)
    clear h
    refine List.forall_mem_cons.mpr ⟨fun lo st σ h => ?_, fun _ h => absurd h List.not_mem_nil⟩
    · dsimp only at h
      split at h
      · exact w_On_check_65 X _ _ _ _ _ _ _ h
      · cases h
  · cases h
theorem a_On_check (as : List sv_V) (σ : sv_S) (x : Int32 × sv_S) (h : n_On_check as σ = some x) : sv_args 6 ev_On_check.2.2.2.1 as := by
  unfold n_On_check at h
  split at h
  · exact ⟨Nat.le_of_ble_eq_true rfl, fun _ v hv => by
      simp only [List.mem_cons, List.not_mem_nil, or_false] at hv
      rcases hv with rfl | rfl <;> trivial⟩
  · cases h
theorem g_On_check (as : List sv_V) (σ : sv_S) (x : Option sv_V × sv_S) (h : sv_gI n_On_check as σ = some x) : ∃ r i as', as = sv_R r i :: as' ∧ sv_kd r i = .inl 11 := by
  obtain ⟨_, _, h, -⟩ := sv_b_some h
  unfold n_On_check at h
  split at h
  · exact ⟨_, _, _, rfl, rfl⟩
  · cases h
theorem tw_968 : Cond.methodLink RX11 323 yX5_countsOfAll ∈ gw_tbl := gw_at 968 (by decide +kernel) rfl
theorem tw_969 : Cond.instanceMethod yX5_countsOfAll ∈ gw_tbl := gw_at 969 (by decide +kernel) rfl
theorem tw_970 : Cond.selects RX5 yX5_countsOfAll yX5_countsOfAll ∈ gw_tbl := gw_at 970 (by decide +kernel) rfl
theorem tw_971 : Cond.code yX5_countsOfAll cX5_countsOfAll 3 (some .int) ∈ gw_tbl := gw_at 971 (by decide +kernel) rfl
set_option maxRecDepth 20000 in
theorem m_On_check (l : Launch) : sv_M l yX11_check cX11_check 6 (some .int) (sv_gI n_On_check) 5 := by
  refine sv_mI (E := ev_On_check) (by decide +kernel) (ln_gen fk_11 kk_11 gk_11) rfl ?_ a_On_check b_On_check
  intro p e R s m args below meth c cells slots Q base ad dC dI cA n0 S hkn hR hf pc n f hcs
  refine sv_lk_all (P := fun pc (x : Nat × sv_F) => sv_cok p l e R s m args below meth c cells slots Q base ad dC dI cA true 6 n0 pc x.1 x.2) ?_ pc (n, f) hcs
  exact List.forall_mem_cons.mpr ⟨(sv_cS S hkn (m_On_isWithin l) ⟨Nat.le_trans (by decide) hR.1, Nat.le_trans (by decide) hR.2⟩ (by decide) hf (sv_w4 tw_327 tw_328 tw_53 tw_329) (by decide +kernel) (sv_dc3 d_On_check (pc := 14) rfl rfl)).I,
      List.forall_mem_cons.mpr ⟨(sv_cV S hkn (m_Li_become l) ⟨Nat.le_trans (by decide) hR.1, Nat.le_trans (by decide) hR.2⟩ (by decide) hf rfl (g_Li_become) (sv_w5 tw_552 tw_553 tw_554 tw_60 tw_555) (by decide +kernel) (sv_dc3 d_On_check (pc := 41) rfl rfl)).V,
      List.forall_mem_cons.mpr ⟨(sv_cmin S ⟨Nat.le_trans (by decide) hR.1, Nat.le_trans (by decide) hR.2⟩ hf (sv_w4 tw_403 tw_369 tw_66 tw_370) (sv_dc3 d_On_check (pc := 57) rfl rfl)).I,
      List.forall_mem_cons.mpr ⟨(sv_cV S hkn (m_Li_passOne l) ⟨Nat.le_trans (by decide) hR.1, Nat.le_trans (by decide) hR.2⟩ (by decide) hf rfl (g_Li_passOne) (sv_w5 tw_563 tw_530 tw_531 tw_60 tw_532) (by decide +kernel) (sv_dc3 d_On_check (pc := 82) rfl rfl)).I,
      List.forall_mem_cons.mpr ⟨(sv_cV S hkn (m_Li_countsOfAll l) ⟨Nat.le_trans (by decide) hR.1, Nat.le_trans (by decide) hR.2⟩ (by decide) hf rfl (g_Li_countsOfAll) (sv_w5 tw_968 tw_969 tw_970 tw_60 tw_971) (by decide +kernel) (sv_dc3 d_On_check (pc := 92) rfl rfl)).I,
      fun _ h => absurd h List.not_mem_nil⟩⟩⟩⟩⟩
noncomputable def f_On_keep (σ : sv_S) : Option (Int32 × sv_S) :=
  sv_b0 (f_Li_become 1 0 σ) (fun σ1 =>
    sv_g ((1 : Int32) = 0 ∨ (1 : Int32) = 1) (some ((sv_up σ1 0 0 3 (1 : Int32)) 1 1 4, sv_up σ1 0 0 3 (1 : Int32))))
noncomputable def n_On_keep : List sv_V → sv_S → Option (Int32 × sv_S)
  | [.inr (.inr (some (0, 0)))], σ => f_On_keep σ
  | _, _ => none
def cd_On_keep : sv_C := [(0, (.aload_n 0, (sv_N, (1, (0, []))))), (1, (.getfield 36, (sv_N, (4, (0, []))))), (4, (.aload_n 0, (sv_N, (5, (0, []))))), (5, (.getfield 30, (sv_N, (8, (0, []))))), (8, (.invokevirtual 319, (sv_N, (11, (0, []))))), (11, (.aload_n 0, (sv_N, (12, (0, []))))), (12, (.iconst 1, (.inl (1 : Int32), (13, (0, []))))), (13, (.putfield 315, (sv_N, (16, (0, []))))), (16, (.aload_n 0, (sv_N, (17, (0, []))))), (17, (.getfield 36, (sv_N, (20, (0, []))))), (20, (.getfield 88, (sv_N, (23, (0, []))))), (23, (.ireturn, (sv_N, (24, (0, [])))))]
noncomputable def ev_On_keep : sv_E := (fun i => sv_lk i fl_11, (fun i => sv_lk i kc_11, (fun i => bif Nat.beq i 166 then 1 else 0, (true, (fun pc => sv_lk pc [(8, (2, .inr (.inl n_Li_become)))], none)))))
noncomputable def kk_On_keep : sv_K (Int32 × sv_S) := fun pc => sv_lk pc []
set_option maxRecDepth 20000 in
theorem e_On_keep (σ : sv_S) : sv_ex ev_On_keep sv_rI kk_On_keep cd_On_keep 14 0 [some (.inr (.inr (some (0, 0))))] [] σ = f_On_keep σ := by
  unfold f_On_keep
  delta ev_On_keep kk_On_keep n_Li_become
  generalize f_Li_become = c0
  rfl
theorem d_On_keep : cd_On_keep.all (sv_dk cX11_keep) = true := by decide +kernel
set_option maxRecDepth 20000 in
theorem b_On_keep (Γ : sv_Ga) (res : Int32 × sv_S) (X : sv_Ok Γ ev_On_keep cX11_keep sv_rI res) (as : List sv_V) (σ : sv_S) (h : n_On_keep as σ = some res) : sv_T Γ 0 (sv_e0 1 as) [] σ := by
  unfold n_On_keep at h
  split at h
  · refine sv_run X d_On_keep (K := kk_On_keep) (sv_lk_all (P := fun pc (k : sv_Lo → List sv_V → sv_S → Option (Int32 × sv_S)) => ∀ lo st σ, k lo st σ = some res → sv_T Γ pc lo st σ) ?_) _ _ _ _ _ ((e_On_keep _).trans h)
    clear h
    exact fun _ h => absurd h List.not_mem_nil
  · cases h
theorem a_On_keep (as : List sv_V) (σ : sv_S) (x : Int32 × sv_S) (h : n_On_keep as σ = some x) : sv_args 1 ev_On_keep.2.2.2.1 as := by
  unfold n_On_keep at h
  split at h
  · exact ⟨Nat.le_of_ble_eq_true rfl, fun _ v hv => by
      simp only [List.mem_cons, List.not_mem_nil, or_false] at hv
      rcases hv with rfl <;> trivial⟩
  · cases h
theorem g_On_keep (as : List sv_V) (σ : sv_S) (x : Option sv_V × sv_S) (h : sv_gI n_On_keep as σ = some x) : ∃ r i as', as = sv_R r i :: as' ∧ sv_kd r i = .inl 11 := by
  obtain ⟨_, _, h, -⟩ := sv_b_some h
  unfold n_On_keep at h
  split at h
  · exact ⟨_, _, _, rfl, rfl⟩
  · cases h

set_option maxRecDepth 20000 in
theorem m_On_keep (l : Launch) : sv_M l yX11_keep cX11_keep 1 (some .int) (sv_gI n_On_keep) 2 := by
  refine sv_mI (E := ev_On_keep) (by decide +kernel) (ln_gen fk_11 kk_11 gk_11) rfl ?_ a_On_keep b_On_keep
  intro p e R s m args below meth c cells slots Q base ad dC dI cA n0 S hkn hR hf pc n f hcs
  refine sv_lk_all (P := fun pc (x : Nat × sv_F) => sv_cok p l e R s m args below meth c cells slots Q base ad dC dI cA true 1 n0 pc x.1 x.2) ?_ pc (n, f) hcs
  exact List.forall_mem_cons.mpr ⟨(sv_cV S hkn (m_Li_become l) ⟨Nat.le_trans (by decide) hR.1, Nat.le_trans (by decide) hR.2⟩ (by decide) hf rfl (g_Li_become) (sv_w5 tw_552 tw_553 tw_554 tw_60 tw_555) (by decide +kernel) (sv_dc3 d_On_keep (pc := 8) rfl rfl)).V,
      fun _ h => absurd h List.not_mem_nil⟩
noncomputable def f_On_back (σ : sv_S) : Option (Int32 × sv_S) :=
  sv_if ((σ 0 0 3) = 0)
    (some ((-1000000002 : Int32), σ))
    (sv_b0 (f_Li_become 0 1 σ) (fun σ1 =>
      some (σ1 1 0 4, σ1)))
noncomputable def n_On_back : List sv_V → sv_S → Option (Int32 × sv_S)
  | [.inr (.inr (some (0, 0)))], σ => f_On_back σ
  | _, _ => none
def cd_On_back : sv_C := [(0, (.aload_n 0, (sv_N, (1, (0, []))))), (1, (.getfield 315, (sv_N, (4, (0, []))))), (4, (.ifCond .ne 6, (sv_N, (7, (10, []))))), (7, (.ldc 172, (sv_N, (9, (0, []))))), (9, (.ireturn, (sv_N, (10, (0, []))))), (10, (.aload_n 0, (sv_N, (11, (0, []))))), (11, (.getfield 30, (sv_N, (14, (0, []))))), (14, (.aload_n 0, (sv_N, (15, (0, []))))), (15, (.getfield 36, (sv_N, (18, (0, []))))), (18, (.invokevirtual 319, (sv_N, (21, (0, []))))), (21, (.aload_n 0, (sv_N, (22, (0, []))))), (22, (.getfield 30, (sv_N, (25, (0, []))))), (25, (.getfield 88, (sv_N, (28, (0, []))))), (28, (.ireturn, (sv_N, (29, (0, [])))))]
noncomputable def ev_On_back : sv_E := (fun i => sv_lk i fl_11, (fun i => sv_lk i kc_11, (fun i => bif Nat.beq i 166 then 1 else 0, (true, (fun pc => sv_lk pc [(18, (2, .inr (.inl n_Li_become)))], none)))))
noncomputable def kk_On_back : sv_K (Int32 × sv_S) := fun pc => sv_lk pc []
set_option maxRecDepth 20000 in
theorem e_On_back (σ : sv_S) : sv_ex ev_On_back sv_rI kk_On_back cd_On_back 16 0 [some (.inr (.inr (some (0, 0))))] [] σ = f_On_back σ := by
  unfold f_On_back
  delta ev_On_back kk_On_back n_Li_become
  generalize f_Li_become = c0
  rfl
theorem d_On_back : cd_On_back.all (sv_dk cX11_back) = true := by decide +kernel
set_option maxRecDepth 20000 in
theorem b_On_back (Γ : sv_Ga) (res : Int32 × sv_S) (X : sv_Ok Γ ev_On_back cX11_back sv_rI res) (as : List sv_V) (σ : sv_S) (h : n_On_back as σ = some res) : sv_T Γ 0 (sv_e0 1 as) [] σ := by
  unfold n_On_back at h
  split at h
  · refine sv_run X d_On_back (K := kk_On_back) (sv_lk_all (P := fun pc (k : sv_Lo → List sv_V → sv_S → Option (Int32 × sv_S)) => ∀ lo st σ, k lo st σ = some res → sv_T Γ pc lo st σ) ?_) _ _ _ _ _ ((e_On_back _).trans h)
    clear h
    exact fun _ h => absurd h List.not_mem_nil
  · cases h
theorem a_On_back (as : List sv_V) (σ : sv_S) (x : Int32 × sv_S) (h : n_On_back as σ = some x) : sv_args 1 ev_On_back.2.2.2.1 as := by
  unfold n_On_back at h
  split at h
  · exact ⟨Nat.le_of_ble_eq_true rfl, fun _ v hv => by
      simp only [List.mem_cons, List.not_mem_nil, or_false] at hv
      rcases hv with rfl <;> trivial⟩
  · cases h
theorem g_On_back (as : List sv_V) (σ : sv_S) (x : Option sv_V × sv_S) (h : sv_gI n_On_back as σ = some x) : ∃ r i as', as = sv_R r i :: as' ∧ sv_kd r i = .inl 11 := by
  obtain ⟨_, _, h, -⟩ := sv_b_some h
  unfold n_On_back at h
  split at h
  · exact ⟨_, _, _, rfl, rfl⟩
  · cases h

set_option maxRecDepth 20000 in
theorem m_On_back (l : Launch) : sv_M l yX11_back cX11_back 1 (some .int) (sv_gI n_On_back) 2 := by
  refine sv_mI (E := ev_On_back) (by decide +kernel) (ln_gen fk_11 kk_11 gk_11) rfl ?_ a_On_back b_On_back
  intro p e R s m args below meth c cells slots Q base ad dC dI cA n0 S hkn hR hf pc n f hcs
  refine sv_lk_all (P := fun pc (x : Nat × sv_F) => sv_cok p l e R s m args below meth c cells slots Q base ad dC dI cA true 1 n0 pc x.1 x.2) ?_ pc (n, f) hcs
  exact List.forall_mem_cons.mpr ⟨(sv_cV S hkn (m_Li_become l) ⟨Nat.le_trans (by decide) hR.1, Nat.le_trans (by decide) hR.2⟩ (by decide) hf rfl (g_Li_become) (sv_w5 tw_552 tw_553 tw_554 tw_60 tw_555) (by decide +kernel) (sv_dc3 d_On_back (pc := 18) rfl rfl)).V,
      fun _ h => absurd h List.not_mem_nil⟩
noncomputable def f_On_count (a1 : Int32) (σ : sv_S) : Option (Int32 × sv_S) :=
  sv_if (a1.toInt = 0)
    (some (σ 1 0 4, σ))
    (sv_if (a1.toInt = 1)
    (some (σ 1 0 5, σ))
    (sv_if (a1.toInt = 2)
    (some (σ 1 0 6, σ))
    (sv_if (a1.toInt = 3)
    (sv_b (f_Li_strokesOfAll 0 σ) (fun v1 σ2 =>
      some (v1, σ2)))
    (sv_if (a1.toInt = 4)
    (sv_b (f_Li_counting 0 σ) (fun v3 σ4 =>
      some (v3, σ4)))
    (sv_if (a1.toInt = 5)
    (sv_b (f_Li_countsOfAll 0 σ) (fun v5 σ6 =>
      some (v5, σ6)))
    (sv_if (a1.toInt = 6)
    (some (σ 1 0 8, σ))
    (sv_if (a1.toInt = 7)
    (some (σ 0 0 11, σ))
    (sv_if (a1.toInt = 8)
    (some (σ 8 0 1, σ))
    (sv_if (a1.toInt = 9)
    (some (σ 1 0 7, σ))
    (some ((-1000000001 : Int32), σ)))))))))))
noncomputable def n_On_count : List sv_V → sv_S → Option (Int32 × sv_S)
  | [.inr (.inr (some (0, 0))), .inl a1], σ => f_On_count a1 σ
  | _, _ => none
def cd_On_count : sv_C := [(0, (.iload_n 1, (sv_N, (1, (0, []))))), (1, (.tableswitch 132 0 9 #[55, 63, 71, 79, 87, 95, 103, 111, 116, 124], (sv_N, (1, (133, [(0, 56), (1, 64), (2, 72), (3, 80), (4, 88), (5, 96), (6, 104), (7, 112), (8, 117), (9, 125)]))))), (56, (.aload_n 0, (sv_N, (57, (0, []))))), (57, (.getfield 30, (sv_N, (60, (0, []))))), (60, (.getfield 88, (sv_N, (63, (0, []))))), (63, (.ireturn, (sv_N, (64, (0, []))))), (64, (.aload_n 0, (sv_N, (65, (0, []))))), (65, (.getfield 30, (sv_N, (68, (0, []))))), (68, (.getfield 140, (sv_N, (71, (0, []))))), (71, (.ireturn, (sv_N, (72, (0, []))))), (72, (.aload_n 0, (sv_N, (73, (0, []))))), (73, (.getfield 30, (sv_N, (76, (0, []))))), (76, (.getfield 154, (sv_N, (79, (0, []))))), (79, (.ireturn, (sv_N, (80, (0, []))))), (80, (.aload_n 0, (sv_N, (81, (0, []))))), (81, (.getfield 30, (sv_N, (84, (0, []))))), (84, (.invokevirtual 223, (sv_N, (87, (0, []))))), (87, (.ireturn, (sv_N, (88, (0, []))))), (88, (.aload_n 0, (sv_N, (89, (0, []))))), (89, (.getfield 30, (sv_N, (92, (0, []))))), (92, (.invokevirtual 177, (sv_N, (95, (0, []))))), (95, (.ireturn, (sv_N, (96, (0, []))))), (96, (.aload_n 0, (sv_N, (97, (0, []))))), (97, (.getfield 30, (sv_N, (100, (0, []))))), (100, (.invokevirtual 323, (sv_N, (103, (0, []))))), (103, (.ireturn, (sv_N, (104, (0, []))))), (104, (.aload_n 0, (sv_N, (105, (0, []))))), (105, (.getfield 30, (sv_N, (108, (0, []))))), (108, (.getfield 244, (sv_N, (111, (0, []))))), (111, (.ireturn, (sv_N, (112, (0, []))))), (112, (.aload_n 0, (sv_N, (113, (0, []))))), (113, (.getfield 312, (sv_N, (116, (0, []))))), (116, (.ireturn, (sv_N, (117, (0, []))))), (117, (.aload_n 0, (sv_N, (118, (0, []))))), (118, (.getfield 45, (sv_N, (121, (0, []))))), (121, (.getfield 232, (sv_N, (124, (0, []))))), (124, (.ireturn, (sv_N, (125, (0, []))))), (125, (.aload_n 0, (sv_N, (126, (0, []))))), (126, (.getfield 30, (sv_N, (129, (0, []))))), (129, (.getfield 169, (sv_N, (132, (0, []))))), (132, (.ireturn, (sv_N, (133, (0, []))))), (133, (.ldc 87, (sv_N, (135, (0, []))))), (135, (.ireturn, (sv_N, (136, (0, [])))))]
noncomputable def ev_On_count : sv_E := (fun i => sv_lk i fl_11, (fun i => sv_lk i kc_11, (fun i => bif Nat.beq i 166 then 1 else 0, (true, (fun pc => sv_lk pc [(84, (1, .inl n_Li_strokesOfAll)), (92, (1, .inl n_Li_counting)), (100, (1, .inl n_Li_countsOfAll))], none)))))
noncomputable def kk_On_count : sv_K (Int32 × sv_S) := fun pc => sv_lk pc []
set_option maxRecDepth 20000 in
theorem e_On_count (a1 : Int32) (σ : sv_S) : sv_ex ev_On_count sv_rI kk_On_count cd_On_count 45 0 [some (.inr (.inr (some (0, 0)))), some (.inl a1)] [] σ = f_On_count a1 σ := by
  unfold f_On_count
  delta ev_On_count kk_On_count n_Li_strokesOfAll n_Li_counting n_Li_countsOfAll
  generalize f_Li_strokesOfAll = c0
  generalize f_Li_counting = c1
  generalize f_Li_countsOfAll = c2
  rfl
theorem d_On_count : cd_On_count.all (sv_dk cX11_count) = true := by decide +kernel
set_option maxRecDepth 20000 in
theorem b_On_count (Γ : sv_Ga) (res : Int32 × sv_S) (X : sv_Ok Γ ev_On_count cX11_count sv_rI res) (as : List sv_V) (σ : sv_S) (h : n_On_count as σ = some res) : sv_T Γ 0 (sv_e0 2 as) [] σ := by
  unfold n_On_count at h
  split at h
  · refine sv_run X d_On_count (K := kk_On_count) (sv_lk_all (P := fun pc (k : sv_Lo → List sv_V → sv_S → Option (Int32 × sv_S)) => ∀ lo st σ, k lo st σ = some res → sv_T Γ pc lo st σ) ?_) _ _ _ _ _ ((e_On_count _ _).trans h)
    clear h
    exact fun _ h => absurd h List.not_mem_nil
  · cases h
theorem a_On_count (as : List sv_V) (σ : sv_S) (x : Int32 × sv_S) (h : n_On_count as σ = some x) : sv_args 2 ev_On_count.2.2.2.1 as := by
  unfold n_On_count at h
  split at h
  · exact ⟨Nat.le_of_ble_eq_true rfl, fun _ v hv => by
      simp only [List.mem_cons, List.not_mem_nil, or_false] at hv
      rcases hv with rfl | rfl <;> trivial⟩
  · cases h
theorem g_On_count (as : List sv_V) (σ : sv_S) (x : Option sv_V × sv_S) (h : sv_gI n_On_count as σ = some x) : ∃ r i as', as = sv_R r i :: as' ∧ sv_kd r i = .inl 11 := by
  obtain ⟨_, _, h, -⟩ := sv_b_some h
  unfold n_On_count at h
  split at h
  · exact ⟨_, _, _, rfl, rfl⟩
  · cases h

set_option maxRecDepth 20000 in
theorem m_On_count (l : Launch) : sv_M l yX11_count cX11_count 2 (some .int) (sv_gI n_On_count) 1 := by
  refine sv_mI (E := ev_On_count) (by decide +kernel) (ln_gen fk_11 kk_11 gk_11) rfl ?_ a_On_count b_On_count
  intro p e R s m args below meth c cells slots Q base ad dC dI cA n0 S hkn hR hf pc n f hcs
  refine sv_lk_all (P := fun pc (x : Nat × sv_F) => sv_cok p l e R s m args below meth c cells slots Q base ad dC dI cA true 2 n0 pc x.1 x.2) ?_ pc (n, f) hcs
  exact List.forall_mem_cons.mpr ⟨(sv_cV S hkn (m_Li_strokesOfAll l) ⟨Nat.le_trans (by decide) hR.1, Nat.le_trans (by decide) hR.2⟩ (by decide) hf rfl (g_Li_strokesOfAll) (sv_w5 tw_656 tw_657 tw_658 tw_60 tw_659) (by decide +kernel) (sv_dc3 d_On_count (pc := 84) rfl rfl)).I,
      List.forall_mem_cons.mpr ⟨(sv_cV S hkn (m_Li_counting l) ⟨Nat.le_trans (by decide) hR.1, Nat.le_trans (by decide) hR.2⟩ (by decide) hf rfl (g_Li_counting) (sv_w5 tw_516 tw_517 tw_518 tw_60 tw_519) (by decide +kernel) (sv_dc3 d_On_count (pc := 92) rfl rfl)).I,
      List.forall_mem_cons.mpr ⟨(sv_cV S hkn (m_Li_countsOfAll l) ⟨Nat.le_trans (by decide) hR.1, Nat.le_trans (by decide) hR.2⟩ (by decide) hf rfl (g_Li_countsOfAll) (sv_w5 tw_968 tw_969 tw_970 tw_60 tw_971) (by decide +kernel) (sv_dc3 d_On_count (pc := 100) rfl rfl)).I,
      fun _ h => absurd h List.not_mem_nil⟩⟩⟩
