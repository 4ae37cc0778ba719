noncomputable def f_Mo_ones_4 : Nat → Int32 → Int32 → Int32 → sv_S → Option (Int32 × sv_S)
  | 0, _, _, _, _ => none
  | n + 1, x0, x1, x2, σ =>
    sv_if ((10 : Int32) ≤ x2)
      (some (x1, σ))
      (f_Mo_ones_4 n x0 (x1 + ((x0 >>> (x2 &&& 31)) &&& (1 : Int32))) (x2 + (1 : Int32)) σ)
noncomputable def f_Mo_ones (a0 : Int32) (σ : sv_S) : Option (Int32 × sv_S) :=
  f_Mo_ones_4 sv_fu a0 (0 : Int32) (0 : Int32) σ
noncomputable def n_Mo_ones : List sv_V → sv_S → Option (Int32 × sv_S)
  | [.inl a0], σ => f_Mo_ones a0 σ
  | _, _ => none
def cd_Mo_ones : sv_C := [(0, (.iconst 0, (.inl (0 : Int32), (1, (0, []))))), (1, (.istore_n 1, (sv_N, (2, (0, []))))), (2, (.iconst 0, (.inl (0 : Int32), (3, (0, []))))), (3, (.istore_n 2, (sv_N, (4, (0, []))))), (4, (.iload_n 2, (sv_N, (5, (0, []))))), (5, (.bipush 10, (.inl (10 : Int32), (7, (0, []))))), (7, (.if_icmp .ge 17, (sv_N, (10, (24, []))))), (10, (.iload_n 1, (sv_N, (11, (0, []))))), (11, (.iload_n 0, (sv_N, (12, (0, []))))), (12, (.iload_n 2, (sv_N, (13, (0, []))))), (13, (.ishr, (sv_N, (14, (0, []))))), (14, (.iconst 1, (.inl (1 : Int32), (15, (0, []))))), (15, (.iand, (sv_N, (16, (0, []))))), (16, (.iadd, (sv_N, (17, (0, []))))), (17, (.istore_n 1, (sv_N, (18, (0, []))))), (18, (.iinc 2 1, (.inl (1 : Int32), (21, (0, []))))), (21, (.goto (-17), (sv_N, (24, (4, []))))), (24, (.iload_n 1, (sv_N, (25, (0, []))))), (25, (.ireturn, (sv_N, (26, (0, [])))))]
noncomputable def ev_Mo_ones : sv_E := (fun i => sv_lk i fl_12, (fun i => sv_lk i kc_12, (fun _ => 0, (true, (fun pc => sv_lk pc [], none)))))
noncomputable def kk_Mo_ones_4 (n : Nat) : sv_K (Int32 × sv_S) := fun pc => sv_lk pc [(4, fun lo st σ => match lo, st with
    | [some (.inl x0), some (.inl x1), some (.inl x2)], [] => f_Mo_ones_4 n x0 x1 x2 σ
    | _, _ => none)]
set_option maxRecDepth 20000 in
theorem e_Mo_ones_4 (n : Nat) (x0 : Int32) (x1 : Int32) (x2 : Int32) (σ : sv_S) : sv_ex ev_Mo_ones sv_rI (kk_Mo_ones_4 n) cd_Mo_ones 21 4 [some (.inl x0), some (.inl x1), some (.inl x2)] [] σ = f_Mo_ones_4 (n + 1) x0 x1 x2 σ := by
  rw [f_Mo_ones_4.eq_2]
  delta ev_Mo_ones kk_Mo_ones_4
  generalize f_Mo_ones_4 = c0
  rfl
noncomputable def kk_Mo_ones : sv_K (Int32 × sv_S) := fun pc => sv_lk pc [(4, fun lo st σ => match lo, st with
    | [some (.inl x0), some (.inl x1), some (.inl x2)], [] => f_Mo_ones_4 sv_fu x0 x1 x2 σ
    | _, _ => none)]
set_option maxRecDepth 20000 in
theorem e_Mo_ones (a0 : Int32) (σ : sv_S) : sv_ex ev_Mo_ones sv_rI kk_Mo_ones cd_Mo_ones 21 0 [some (.inl a0), none, none] [] σ = f_Mo_ones a0 σ := by
  unfold f_Mo_ones
  delta ev_Mo_ones kk_Mo_ones
  generalize f_Mo_ones_4 = c0
  rfl
theorem d_Mo_ones : cd_Mo_ones.all (sv_dk cX12_ones) = true := by decide +kernel
set_option maxRecDepth 20000 in
theorem w_Mo_ones_4 {Γ : sv_Ga} {res : Int32 × sv_S} (X : sv_Ok Γ ev_Mo_ones cX12_ones sv_rI res) : ∀ (n : Nat) (x0 : Int32) (x1 : Int32) (x2 : Int32) (σ : sv_S), f_Mo_ones_4 n x0 x1 x2 σ = some res → sv_T Γ 4 [some (.inl x0), some (.inl x1), some (.inl x2)] [] σ := by
  intro n
  induction n with
  | zero =>
    intro x0 x1 x2 σ h
    rw [f_Mo_ones_4.eq_1] at h
    cases h
  | succ n ih =>
    intro x0 x1 x2 σ h
    refine sv_run X d_Mo_ones (K := kk_Mo_ones_4 n) (sv_lk_all (P := fun pc (k : sv_Lo → List sv_V → sv_S → Option (Int32 × sv_S)) => ∀ lo st σ, k lo st σ = some res → sv_T Γ pc lo st σ) ?_) _ _ _ _ _ ((e_Mo_ones_4 n x0 x1 x2 σ).trans h)
    clear h
    refine List.forall_mem_cons.mpr ⟨fun lo st σ h => ?_, fun _ h => absurd h List.not_mem_nil⟩
    · dsimp only at h
      split at h
      · exact ih _ _ _ _ h
      · cases h

set_option maxRecDepth 20000 in
theorem b_Mo_ones (Γ : sv_Ga) (res : Int32 × sv_S) (X : sv_Ok Γ ev_Mo_ones cX12_ones sv_rI res) (as : List sv_V) (σ : sv_S) (h : n_Mo_ones as σ = some res) : sv_T Γ 0 (sv_e0 3 as) [] σ := by
  unfold n_Mo_ones at h
  split at h
  · refine sv_run X d_Mo_ones (K := kk_Mo_ones) (sv_lk_all (P := fun pc (k : sv_Lo → List sv_V → sv_S → Option (Int32 × sv_S)) => ∀ lo st σ, k lo st σ = some res → sv_T Γ pc lo st σ) ?_) _ _ _ _ _ ((e_Mo_ones _ _).trans h)
    clear h
    refine List.forall_mem_cons.mpr ⟨fun lo st σ h => ?_, fun _ h => absurd h List.not_mem_nil⟩
    · dsimp only at h
      split at h
      · exact w_Mo_ones_4 X _ _ _ _ _ h
      · cases h
  · cases h
theorem a_Mo_ones (as : List sv_V) (σ : sv_S) (x : Int32 × sv_S) (h : n_Mo_ones as σ = some x) : sv_args 3 ev_Mo_ones.2.2.2.1 as := by
  unfold n_Mo_ones at h
  split at h
  · exact ⟨Nat.le_of_ble_eq_true rfl, fun _ v hv => by
      simp only [List.mem_cons, List.not_mem_nil, or_false] at hv
      rcases hv with rfl <;> trivial⟩
  · cases h

set_option maxRecDepth 20000 in
theorem m_Mo_ones (l : Launch) : sv_M l yX12_ones cX12_ones 3 (some .int) (sv_gI n_Mo_ones) 0 := by
  refine sv_mI (E := ev_Mo_ones) (by decide +kernel) (ln_gen fk_12 kk_12 (sv_ns _ (fun _ => rfl) _)) rfl ?_ a_Mo_ones b_Mo_ones
  intro p e R s m args below meth c cells slots Q base ad dC dI cA n0 S hkn hR hf pc n f hcs
  refine sv_lk_all (P := fun pc (x : Nat × sv_F) => sv_cok p l e R s m args below meth c cells slots Q base ad dC dI cA true 3 n0 pc x.1 x.2) ?_ pc (n, f) hcs
  exact fun _ h => absurd h List.not_mem_nil
noncomputable def f_Mo_beats_19 : Nat → Int32 → Int32 → Int32 → sv_S → Option (Int32 × sv_S)
  | 0, _, _, _, _ => none
  | n + 1, x1, x2, x3, σ =>
    sv_if (x1 ≤ x3)
      (some (x2, σ))
      (sv_g (sv_in (3 : Int32) 3086) (sv_if ((9999 : Int32) ≤ (σ 31 0 ((3 : Int32).toNatClampNeg)))
        (some (x2, σ))
        (sv_b (f_Mo_goesOn σ) (fun v1 σ2 =>
          sv_b (f_Mo_ones v1 σ2) (fun v3 σ4 =>
            f_Mo_beats_19 n x1 (x2 + v3) (x3 + (1 : Int32)) σ4)))))
noncomputable def f_Mo_beats (a1 : Int32) (σ : sv_S) : Option (Int32 × sv_S) :=
  sv_b (f_Mo_isIn (a1.toInt64) (1 : Int64) (100 : Int64) σ) (fun v1 σ2 =>
    sv_if (v1 = 0)
      (some ((-1000000001 : Int32), σ2))
      (f_Mo_beats_19 sv_fu a1 (0 : Int32) (0 : Int32) σ2))
noncomputable def n_Mo_beats : List sv_V → sv_S → Option (Int32 × sv_S)
  | [.inr (.inr (some (30, 0))), .inl a1], σ => f_Mo_beats a1 σ
  | _, _ => none
def cd_Mo_beats : sv_C := [(0, (.iload_n 1, (sv_N, (1, (0, []))))), (1, (.i2l, (sv_N, (2, (0, []))))), (2, (.lconst 1, (.inr (.inl (1 : Int64)), (3, (0, []))))), (3, (.ldc2_w 139, (sv_N, (6, (0, []))))), (6, (.invokestatic 71, (sv_N, (9, (0, []))))), (9, (.ifCond .ne 6, (sv_N, (12, (15, []))))), (12, (.ldc 84, (sv_N, (14, (0, []))))), (14, (.ireturn, (sv_N, (15, (0, []))))), (15, (.iconst 0, (.inl (0 : Int32), (16, (0, []))))), (16, (.istore_n 2, (sv_N, (17, (0, []))))), (17, (.iconst 0, (.inl (0 : Int32), (18, (0, []))))), (18, (.istore_n 3, (sv_N, (19, (0, []))))), (19, (.iload_n 3, (sv_N, (20, (0, []))))), (20, (.iload_n 1, (sv_N, (21, (0, []))))), (21, (.if_icmp .ge 31, (sv_N, (24, (52, []))))), (24, (.aload_n 0, (sv_N, (25, (0, []))))), (25, (.getfield 7, (sv_N, (28, (0, []))))), (28, (.iconst 3, (.inl (3 : Int32), (29, (0, []))))), (29, (.iaload, (sv_N, (30, (0, []))))), (30, (.sipush 9999, (.inl (9999 : Int32), (33, (0, []))))), (33, (.if_icmp .ge 19, (sv_N, (36, (52, []))))), (36, (.iload_n 2, (sv_N, (37, (0, []))))), (37, (.aload_n 0, (sv_N, (38, (0, []))))), (38, (.invokevirtual 154, (sv_N, (41, (0, []))))), (41, (.invokestatic 157, (sv_N, (44, (0, []))))), (44, (.iadd, (sv_N, (45, (0, []))))), (45, (.istore_n 2, (sv_N, (46, (0, []))))), (46, (.iinc 3 1, (.inl (1 : Int32), (49, (0, []))))), (49, (.goto (-30), (sv_N, (52, (19, []))))), (52, (.iload_n 2, (sv_N, (53, (0, []))))), (53, (.ireturn, (sv_N, (54, (0, [])))))]
noncomputable def ev_Mo_beats : sv_E := (fun i => sv_lk i fl_12, (fun i => sv_lk i kc_12, (fun _ => 0, (true, (fun pc => sv_lk pc [(6, (3, .inl n_Mo_isIn)), (38, (1, .inl n_Mo_goesOn)), (41, (1, .inl n_Mo_ones))], none)))))
noncomputable def kk_Mo_beats_19 (n : Nat) : sv_K (Int32 × sv_S) := fun pc => sv_lk pc [(19, fun lo st σ => match lo, st with
    | [some (.inr (.inr (some (30, 0)))), some (.inl x1), some (.inl x2), some (.inl x3)], [] => f_Mo_beats_19 n x1 x2 x3 σ
    | _, _ => none)]
set_option maxRecDepth 20000 in
theorem e_Mo_beats_19 (n : Nat) (x1 : Int32) (x2 : Int32) (x3 : Int32) (σ : sv_S) : sv_ex ev_Mo_beats sv_rI (kk_Mo_beats_19 n) cd_Mo_beats 33 19 [some (.inr (.inr (some (30, 0)))), some (.inl x1), some (.inl x2), some (.inl x3)] [] σ = f_Mo_beats_19 (n + 1) x1 x2 x3 σ := by
  rw [f_Mo_beats_19.eq_2]
  delta ev_Mo_beats kk_Mo_beats_19 n_Mo_isIn n_Mo_goesOn n_Mo_ones
  generalize f_Mo_isIn = c0
  generalize f_Mo_goesOn = c1
  generalize f_Mo_ones = c2
  generalize f_Mo_beats_19 = c3
  rfl
noncomputable def kk_Mo_beats : sv_K (Int32 × sv_S) := fun pc => sv_lk pc [(19, fun lo st σ => match lo, st with
    | [some (.inr (.inr (some (30, 0)))), some (.inl x1), some (.inl x2), some (.inl x3)], [] => f_Mo_beats_19 sv_fu x1 x2 x3 σ
    | _, _ => none)]
set_option maxRecDepth 20000 in
theorem e_Mo_beats (a1 : Int32) (σ : sv_S) : sv_ex ev_Mo_beats sv_rI kk_Mo_beats cd_Mo_beats 33 0 [some (.inr (.inr (some (30, 0)))), some (.inl a1), none, none] [] σ = f_Mo_beats a1 σ := by
  unfold f_Mo_beats
  delta ev_Mo_beats kk_Mo_beats n_Mo_isIn n_Mo_goesOn n_Mo_ones
  generalize f_Mo_isIn = c0
  generalize f_Mo_goesOn = c1
  generalize f_Mo_ones = c2
  generalize f_Mo_beats_19 = c3
  rfl
theorem d_Mo_beats : cd_Mo_beats.all (sv_dk cX12_beats) = true := by decide +kernel
set_option maxRecDepth 20000 in
theorem w_Mo_beats_19 {Γ : sv_Ga} {res : Int32 × sv_S} (X : sv_Ok Γ ev_Mo_beats cX12_beats sv_rI res) : ∀ (n : Nat) (x1 : Int32) (x2 : Int32) (x3 : Int32) (σ : sv_S), f_Mo_beats_19 n x1 x2 x3 σ = some res → sv_T Γ 19 [some (.inr (.inr (some (30, 0)))), some (.inl x1), some (.inl x2), some (.inl x3)] [] σ := by
  intro n
  induction n with
  | zero =>
    intro x1 x2 x3 σ h
    rw [f_Mo_beats_19.eq_1] at h
    cases h
  | succ n ih =>
    intro x1 x2 x3 σ h
    refine sv_run X d_Mo_beats (K := kk_Mo_beats_19 n) (sv_lk_all (P := fun pc (k : sv_Lo → List sv_V → sv_S → Option (Int32 × sv_S)) => ∀ lo st σ, k lo st σ = some res → sv_T Γ pc lo st σ) ?_) _ _ _ _ _ ((e_Mo_beats_19 n x1 x2 x3 σ).trans h)
    clear h
    refine List.forall_mem_cons.mpr ⟨fun lo st σ h => ?_, fun _ h => absurd h List.not_mem_nil⟩
    · dsimp only at h
      split at h
      · exact ih _ _ _ _ h
      · cases h

set_option maxRecDepth 20000 in
theorem b_Mo_beats (Γ : sv_Ga) (res : Int32 × sv_S) (X : sv_Ok Γ ev_Mo_beats cX12_beats sv_rI res) (as : List sv_V) (σ : sv_S) (h : n_Mo_beats as σ = some res) : sv_T Γ 0 (sv_e0 4 as) [] σ := by
  unfold n_Mo_beats at h
  split at h
  · refine sv_run X d_Mo_beats (K := kk_Mo_beats) (sv_lk_all (P := fun pc (k : sv_Lo → List sv_V → sv_S → Option (Int32 × sv_S)) => ∀ lo st σ, k lo st σ = some res → sv_T Γ pc lo st σ) ?_) _ _ _ _ _ ((e_Mo_beats _ _).trans h)
    clear h
    refine List.forall_mem_cons.mpr ⟨fun lo st σ h => ?_, fun _ h => absurd h List.not_mem_nil⟩
    · dsimp only at h
      split at h
      · exact w_Mo_beats_19 X _ _ _ _ _ h
      · cases h
  · cases h
theorem a_Mo_beats (as : List sv_V) (σ : sv_S) (x : Int32 × sv_S) (h : n_Mo_beats as σ = some x) : sv_args 4 ev_Mo_beats.2.2.2.1 as := by
  unfold n_Mo_beats at h
  split at h
  · exact ⟨Nat.le_of_ble_eq_true rfl, fun _ v hv => by
      simp only [List.mem_cons, List.not_mem_nil, or_false] at hv
      rcases hv with rfl | rfl <;> trivial⟩
  · cases h
theorem g_Mo_beats (as : List sv_V) (σ : sv_S) (x : Option sv_V × sv_S) (h : sv_gI n_Mo_beats as σ = some x) : ∃ r i as', as = sv_R r i :: as' ∧ sv_kd r i = .inl 12 := by
  obtain ⟨_, _, h, -⟩ := sv_b_some h
  unfold n_Mo_beats at h
  split at h
  · exact ⟨_, _, _, rfl, rfl⟩
  · cases h
theorem tw_25 : Cond.selects RX12 yX12_goesOn yX12_goesOn ∈ gw_tbl := gw_at 25 (by decide +kernel) rfl
theorem tw_1232 : Cond.methodLink RX12 154 yX12_goesOn ∈ gw_tbl := gw_at 1232 (by decide +kernel) rfl
theorem tw_1234 : Cond.instanceMethod yX12_goesOn ∈ gw_tbl := gw_at 1234 (by decide +kernel) rfl
theorem tw_1235 : Cond.code yX12_goesOn cX12_goesOn 5 (some .int) ∈ gw_tbl := gw_at 1235 (by decide +kernel) rfl
theorem tw_1236 : Cond.methodLink RX12 157 yX12_ones ∈ gw_tbl := gw_at 1236 (by decide +kernel) rfl
theorem tw_1237 : Cond.static yX12_ones ∈ gw_tbl := gw_at 1237 (by decide +kernel) rfl
theorem tw_1238 : Cond.code yX12_ones cX12_ones 3 (some .int) ∈ gw_tbl := gw_at 1238 (by decide +kernel) rfl
set_option maxRecDepth 20000 in
theorem m_Mo_beats (l : Launch) : sv_M l yX12_beats cX12_beats 4 (some .int) (sv_gI n_Mo_beats) 5 := by
  refine sv_mI (E := ev_Mo_beats) (by decide +kernel) (ln_gen fk_12 kk_12 (sv_ns _ (fun _ => rfl) _)) rfl ?_ a_Mo_beats b_Mo_beats
  intro p e R s m args below meth c cells slots Q base ad dC dI cA n0 S hkn hR hf pc n f hcs
  refine sv_lk_all (P := fun pc (x : Nat × sv_F) => sv_cok p l e R s m args below meth c cells slots Q base ad dC dI cA true 4 n0 pc x.1 x.2) ?_ pc (n, f) hcs
  exact List.forall_mem_cons.mpr ⟨(sv_cS S hkn (m_Mo_isIn l) ⟨Nat.le_trans (by decide) hR.1, Nat.le_trans (by decide) hR.2⟩ (by decide) hf (sv_w4 tw_1098 tw_1099 tw_65 tw_1100) (by decide +kernel) (sv_dc3 d_Mo_beats (pc := 6) rfl rfl)).I,
      List.forall_mem_cons.mpr ⟨(sv_cV S hkn (m_Mo_goesOn l) ⟨Nat.le_trans (by decide) hR.1, Nat.le_trans (by decide) hR.2⟩ (by decide) hf rfl (g_Mo_goesOn) (sv_w5 tw_1232 tw_1234 tw_25 tw_65 tw_1235) (by decide +kernel) (sv_dc3 d_Mo_beats (pc := 38) rfl rfl)).I,
      List.forall_mem_cons.mpr ⟨(sv_cS S hkn (m_Mo_ones l) ⟨Nat.le_trans (by decide) hR.1, Nat.le_trans (by decide) hR.2⟩ (by decide) hf (sv_w4 tw_1236 tw_1237 tw_65 tw_1238) (by decide +kernel) (sv_dc3 d_Mo_beats (pc := 41) rfl rfl)).I,
      fun _ h => absurd h List.not_mem_nil⟩⟩⟩
noncomputable def f_Mo_laysBy_2 : Nat → Int32 → sv_S → Option (sv_S)
  | 0, _, _ => none
  | n + 1, x1, σ =>
    sv_if ((86 : Int32) ≤ x1)
      (some σ)
      (sv_g (sv_in x1 3086) (sv_g (sv_in x1 86) (f_Mo_laysBy_2 n (x1 + (1 : Int32)) (sv_up σ 31 13 (x1.toNatClampNeg) (σ 31 0 (x1.toNatClampNeg))))))
noncomputable def f_Mo_laysBy (σ : sv_S) : Option (sv_S) :=
  f_Mo_laysBy_2 sv_fu (0 : Int32) σ
noncomputable def n_Mo_laysBy : List sv_V → sv_S → Option (sv_S)
  | [.inr (.inr (some (30, 0)))], σ => f_Mo_laysBy σ
  | _, _ => none
def cd_Mo_laysBy : sv_C := [(0, (.iconst 0, (.inl (0 : Int32), (1, (0, []))))), (1, (.istore_n 1, (sv_N, (2, (0, []))))), (2, (.iload_n 1, (sv_N, (3, (0, []))))), (3, (.bipush 86, (.inl (86 : Int32), (5, (0, []))))), (5, (.if_icmp .ge 21, (sv_N, (8, (26, []))))), (8, (.aload_n 0, (sv_N, (9, (0, []))))), (9, (.getfield 46, (sv_N, (12, (0, []))))), (12, (.iload_n 1, (sv_N, (13, (0, []))))), (13, (.aload_n 0, (sv_N, (14, (0, []))))), (14, (.getfield 7, (sv_N, (17, (0, []))))), (17, (.iload_n 1, (sv_N, (18, (0, []))))), (18, (.iaload, (sv_N, (19, (0, []))))), (19, (.iastore, (sv_N, (20, (0, []))))), (20, (.iinc 1 1, (.inl (1 : Int32), (23, (0, []))))), (23, (.goto (-21), (sv_N, (26, (2, []))))), (26, (.return_, (sv_N, (27, (0, [])))))]
noncomputable def ev_Mo_laysBy : sv_E := (fun i => sv_lk i fl_12, (fun i => sv_lk i kc_12, (fun _ => 0, (true, (fun pc => sv_lk pc [], none)))))
noncomputable def kk_Mo_laysBy_2 (n : Nat) : sv_K (sv_S) := fun pc => sv_lk pc [(2, fun lo st σ => match lo, st with
    | [some (.inr (.inr (some (30, 0)))), some (.inl x1)], [] => f_Mo_laysBy_2 n x1 σ
    | _, _ => none)]
set_option maxRecDepth 20000 in
theorem e_Mo_laysBy_2 (n : Nat) (x1 : Int32) (σ : sv_S) : sv_ex ev_Mo_laysBy sv_rV (kk_Mo_laysBy_2 n) cd_Mo_laysBy 18 2 [some (.inr (.inr (some (30, 0)))), some (.inl x1)] [] σ = f_Mo_laysBy_2 (n + 1) x1 σ := by
  rw [f_Mo_laysBy_2.eq_2]
  delta ev_Mo_laysBy kk_Mo_laysBy_2
  generalize f_Mo_laysBy_2 = c0
  rfl
noncomputable def kk_Mo_laysBy : sv_K (sv_S) := fun pc => sv_lk pc [(2, fun lo st σ => match lo, st with
    | [some (.inr (.inr (some (30, 0)))), some (.inl x1)], [] => f_Mo_laysBy_2 sv_fu x1 σ
    | _, _ => none)]
set_option maxRecDepth 20000 in
theorem e_Mo_laysBy (σ : sv_S) : sv_ex ev_Mo_laysBy sv_rV kk_Mo_laysBy cd_Mo_laysBy 18 0 [some (.inr (.inr (some (30, 0)))), none] [] σ = f_Mo_laysBy σ := by
  unfold f_Mo_laysBy
  delta ev_Mo_laysBy kk_Mo_laysBy
  generalize f_Mo_laysBy_2 = c0
  rfl
theorem d_Mo_laysBy : cd_Mo_laysBy.all (sv_dk cX12_laysBy) = true := by decide +kernel
set_option maxRecDepth 20000 in
theorem w_Mo_laysBy_2 {Γ : sv_Ga} {res : sv_S} (X : sv_Ok Γ ev_Mo_laysBy cX12_laysBy sv_rV res) : ∀ (n : Nat) (x1 : Int32) (σ : sv_S), f_Mo_laysBy_2 n x1 σ = some res → sv_T Γ 2 [some (.inr (.inr (some (30, 0)))), some (.inl x1)] [] σ := by
  intro n
  induction n with
  | zero =>
    intro x1 σ h
    rw [f_Mo_laysBy_2.eq_1] at h
    cases h
  | succ n ih =>
    intro x1 σ h
    refine sv_run X d_Mo_laysBy (K := kk_Mo_laysBy_2 n) (sv_lk_all (P := fun pc (k : sv_Lo → List sv_V → sv_S → Option (sv_S)) => ∀ lo st σ, k lo st σ = some res → sv_T Γ pc lo st σ) ?_) _ _ _ _ _ ((e_Mo_laysBy_2 n x1 σ).trans h)
    clear h
    refine List.forall_mem_cons.mpr ⟨fun lo st σ h => ?_, fun _ h => absurd h List.not_mem_nil⟩
    · dsimp only at h
      split at h
      · exact ih _ _ h
      · cases h

set_option maxRecDepth 20000 in
theorem b_Mo_laysBy (Γ : sv_Ga) (res : sv_S) (X : sv_Ok Γ ev_Mo_laysBy cX12_laysBy sv_rV res) (as : List sv_V) (σ : sv_S) (h : n_Mo_laysBy as σ = some res) : sv_T Γ 0 (sv_e0 2 as) [] σ := by
  unfold n_Mo_laysBy at h
  split at h
  · refine sv_run X d_Mo_laysBy (K := kk_Mo_laysBy) (sv_lk_all (P := fun pc (k : sv_Lo → List sv_V → sv_S → Option (sv_S)) => ∀ lo st σ, k lo st σ = some res → sv_T Γ pc lo st σ) ?_) _ _ _ _ _ ((e_Mo_laysBy _).trans h)
    clear h
    refine List.forall_mem_cons.mpr ⟨fun lo st σ h => ?_, fun _ h => absurd h List.not_mem_nil⟩
    · dsimp only at h
      split at h
      · exact w_Mo_laysBy_2 X _ _ _ h
      · cases h
  · cases h
theorem a_Mo_laysBy (as : List sv_V) (σ : sv_S) (x : sv_S) (h : n_Mo_laysBy as σ = some x) : sv_args 2 ev_Mo_laysBy.2.2.2.1 as := by
  unfold n_Mo_laysBy at h
  split at h
  · exact ⟨Nat.le_of_ble_eq_true rfl, fun _ v hv => by
      simp only [List.mem_cons, List.not_mem_nil, or_false] at hv
      rcases hv with rfl <;> trivial⟩
  · cases h
theorem g_Mo_laysBy (as : List sv_V) (σ : sv_S) (x : Option sv_V × sv_S) (h : sv_gV n_Mo_laysBy as σ = some x) : ∃ r i as', as = sv_R r i :: as' ∧ sv_kd r i = .inl 12 := by
  obtain ⟨_, h, -⟩ := sv_b0_some h
  unfold n_Mo_laysBy at h
  split at h
  · exact ⟨_, _, _, rfl, rfl⟩
  · cases h

set_option maxRecDepth 20000 in
theorem m_Mo_laysBy (l : Launch) : sv_M l yX12_laysBy cX12_laysBy 2 none (sv_gV n_Mo_laysBy) 0 := by
  refine sv_mV (E := ev_Mo_laysBy) (by decide +kernel) (ln_gen fk_12 kk_12 (sv_ns _ (fun _ => rfl) _)) rfl ?_ a_Mo_laysBy b_Mo_laysBy
  intro p e R s m args below meth c cells slots Q base ad dC dI cA n0 S hkn hR hf pc n f hcs
  refine sv_lk_all (P := fun pc (x : Nat × sv_F) => sv_cok p l e R s m args below meth c cells slots Q base ad dC dI cA true 2 n0 pc x.1 x.2) ?_ pc (n, f) hcs
  exact fun _ h => absurd h List.not_mem_nil
noncomputable def f_Mo_laysBack_2 : Nat → Int32 → sv_S → Option (sv_S)
  | 0, _, _ => none
  | n + 1, x1, σ =>
    sv_if ((86 : Int32) ≤ x1)
      (some σ)
      (sv_g (sv_in x1 86) (sv_g (sv_in x1 3086) (f_Mo_laysBack_2 n (x1 + (1 : Int32)) (sv_up σ 31 0 (x1.toNatClampNeg) (σ 31 13 (x1.toNatClampNeg))))))
noncomputable def f_Mo_laysBack (σ : sv_S) : Option (sv_S) :=
  f_Mo_laysBack_2 sv_fu (0 : Int32) σ
noncomputable def n_Mo_laysBack : List sv_V → sv_S → Option (sv_S)
  | [.inr (.inr (some (30, 0)))], σ => f_Mo_laysBack σ
  | _, _ => none
def cd_Mo_laysBack : sv_C := [(0, (.iconst 0, (.inl (0 : Int32), (1, (0, []))))), (1, (.istore_n 1, (sv_N, (2, (0, []))))), (2, (.iload_n 1, (sv_N, (3, (0, []))))), (3, (.bipush 86, (.inl (86 : Int32), (5, (0, []))))), (5, (.if_icmp .ge 21, (sv_N, (8, (26, []))))), (8, (.aload_n 0, (sv_N, (9, (0, []))))), (9, (.getfield 7, (sv_N, (12, (0, []))))), (12, (.iload_n 1, (sv_N, (13, (0, []))))), (13, (.aload_n 0, (sv_N, (14, (0, []))))), (14, (.getfield 46, (sv_N, (17, (0, []))))), (17, (.iload_n 1, (sv_N, (18, (0, []))))), (18, (.iaload, (sv_N, (19, (0, []))))), (19, (.iastore, (sv_N, (20, (0, []))))), (20, (.iinc 1 1, (.inl (1 : Int32), (23, (0, []))))), (23, (.goto (-21), (sv_N, (26, (2, []))))), (26, (.return_, (sv_N, (27, (0, [])))))]
noncomputable def ev_Mo_laysBack : sv_E := (fun i => sv_lk i fl_12, (fun i => sv_lk i kc_12, (fun _ => 0, (true, (fun pc => sv_lk pc [], none)))))
noncomputable def kk_Mo_laysBack_2 (n : Nat) : sv_K (sv_S) := fun pc => sv_lk pc [(2, fun lo st σ => match lo, st with
    | [some (.inr (.inr (some (30, 0)))), some (.inl x1)], [] => f_Mo_laysBack_2 n x1 σ
    | _, _ => none)]
set_option maxRecDepth 20000 in
theorem e_Mo_laysBack_2 (n : Nat) (x1 : Int32) (σ : sv_S) : sv_ex ev_Mo_laysBack sv_rV (kk_Mo_laysBack_2 n) cd_Mo_laysBack 18 2 [some (.inr (.inr (some (30, 0)))), some (.inl x1)] [] σ = f_Mo_laysBack_2 (n + 1) x1 σ := by
  rw [f_Mo_laysBack_2.eq_2]
  delta ev_Mo_laysBack kk_Mo_laysBack_2
  generalize f_Mo_laysBack_2 = c0
  rfl
noncomputable def kk_Mo_laysBack : sv_K (sv_S) := fun pc => sv_lk pc [(2, fun lo st σ => match lo, st with
    | [some (.inr (.inr (some (30, 0)))), some (.inl x1)], [] => f_Mo_laysBack_2 sv_fu x1 σ
    | _, _ => none)]
set_option maxRecDepth 20000 in
theorem e_Mo_laysBack (σ : sv_S) : sv_ex ev_Mo_laysBack sv_rV kk_Mo_laysBack cd_Mo_laysBack 18 0 [some (.inr (.inr (some (30, 0)))), none] [] σ = f_Mo_laysBack σ := by
  unfold f_Mo_laysBack
  delta ev_Mo_laysBack kk_Mo_laysBack
  generalize f_Mo_laysBack_2 = c0
  rfl
theorem d_Mo_laysBack : cd_Mo_laysBack.all (sv_dk cX12_laysBack) = true := by decide +kernel
set_option maxRecDepth 20000 in
theorem w_Mo_laysBack_2 {Γ : sv_Ga} {res : sv_S} (X : sv_Ok Γ ev_Mo_laysBack cX12_laysBack sv_rV res) : ∀ (n : Nat) (x1 : Int32) (σ : sv_S), f_Mo_laysBack_2 n x1 σ = some res → sv_T Γ 2 [some (.inr (.inr (some (30, 0)))), some (.inl x1)] [] σ := by
  intro n
  induction n with
  | zero =>
    intro x1 σ h
    rw [f_Mo_laysBack_2.eq_1] at h
    cases h
  | succ n ih =>
    intro x1 σ h
    refine sv_run X d_Mo_laysBack (K := kk_Mo_laysBack_2 n) (sv_lk_all (P := fun pc (k : sv_Lo → List sv_V → sv_S → Option (sv_S)) => ∀ lo st σ, k lo st σ = some res → sv_T Γ pc lo st σ) ?_) _ _ _ _ _ ((e_Mo_laysBack_2 n x1 σ).trans h)
    clear h
    refine List.forall_mem_cons.mpr ⟨fun lo st σ h => ?_, fun _ h => absurd h List.not_mem_nil⟩
    · dsimp only at h
      split at h
      · exact ih _ _ h
      · cases h

set_option maxRecDepth 20000 in
theorem b_Mo_laysBack (Γ : sv_Ga) (res : sv_S) (X : sv_Ok Γ ev_Mo_laysBack cX12_laysBack sv_rV res) (as : List sv_V) (σ : sv_S) (h : n_Mo_laysBack as σ = some res) : sv_T Γ 0 (sv_e0 2 as) [] σ := by
  unfold n_Mo_laysBack at h
  split at h
  · refine sv_run X d_Mo_laysBack (K := kk_Mo_laysBack) (sv_lk_all (P := fun pc (k : sv_Lo → List sv_V → sv_S → Option (sv_S)) => ∀ lo st σ, k lo st σ = some res → sv_T Γ pc lo st σ) ?_) _ _ _ _ _ ((e_Mo_laysBack _).trans h)
    clear h
    refine List.forall_mem_cons.mpr ⟨fun lo st σ h => ?_, fun _ h => absurd h List.not_mem_nil⟩
    · dsimp only at h
      split at h
      · exact w_Mo_laysBack_2 X _ _ _ h
      · cases h
  · cases h
theorem a_Mo_laysBack (as : List sv_V) (σ : sv_S) (x : sv_S) (h : n_Mo_laysBack as σ = some x) : sv_args 2 ev_Mo_laysBack.2.2.2.1 as := by
  unfold n_Mo_laysBack at h
  split at h
  · exact ⟨Nat.le_of_ble_eq_true rfl, fun _ v hv => by
      simp only [List.mem_cons, List.not_mem_nil, or_false] at hv
      rcases hv with rfl <;> trivial⟩
  · cases h
theorem g_Mo_laysBack (as : List sv_V) (σ : sv_S) (x : Option sv_V × sv_S) (h : sv_gV n_Mo_laysBack as σ = some x) : ∃ r i as', as = sv_R r i :: as' ∧ sv_kd r i = .inl 12 := by
  obtain ⟨_, h, -⟩ := sv_b0_some h
  unfold n_Mo_laysBack at h
  split at h
  · exact ⟨_, _, _, rfl, rfl⟩
  · cases h

set_option maxRecDepth 20000 in
theorem m_Mo_laysBack (l : Launch) : sv_M l yX12_laysBack cX12_laysBack 2 none (sv_gV n_Mo_laysBack) 0 := by
  refine sv_mV (E := ev_Mo_laysBack) (by decide +kernel) (ln_gen fk_12 kk_12 (sv_ns _ (fun _ => rfl) _)) rfl ?_ a_Mo_laysBack b_Mo_laysBack
  intro p e R s m args below meth c cells slots Q base ad dC dI cA n0 S hkn hR hf pc n f hcs
  refine sv_lk_all (P := fun pc (x : Nat × sv_F) => sv_cok p l e R s m args below meth c cells slots Q base ad dC dI cA true 2 n0 pc x.1 x.2) ?_ pc (n, f) hcs
  exact fun _ h => absurd h List.not_mem_nil
noncomputable def f_Mo_behind_48 : Nat → Int32 → Int32 → Int32 → Int32 → Int32 → Int32 → sv_S → Option (Int32 × sv_S)
  | 0, _, _, _, _, _, _, _ => none
  | n + 1, x1, x2, x3, x4, x5, x6, σ =>
    sv_if (x2 ≤ x6)
      (sv_b (f_Mo_of x1 (2 : Int32) σ) (fun v1 σ2 =>
        sv_b0 (f_Mo_laysBack σ2) (fun σ3 =>
          sv_if (x3 = 0)
            (some (v1, σ3))
            (sv_if (x3 = (1 : Int32))
              (some (x4, σ3))
              (some (x5, σ3))))))
      (sv_b (f_Mo_goesOn σ) (fun v4 σ5 =>
        sv_b (f_Mo_ones v4 σ5) (fun v6 σ7 =>
          f_Mo_behind_48 n x1 x2 x3 (x4 + ((v4 >>> (x1 &&& 31)) &&& (1 : Int32))) v6 (x6 + (1 : Int32)) σ7)))
noncomputable def f_Mo_behind (a1 : Int32) (a2 : Int32) (a3 : Int32) (σ : sv_S) : Option (Int32 × sv_S) :=
  sv_b (f_Mo_isDrummer a1 σ) (fun v1 σ2 =>
    sv_if (v1 = 0)
      (some ((-1000000001 : Int32), σ2))
      (sv_b (f_Mo_isIn (a2.toInt64) (0 : Int64) (100 : Int64) σ2) (fun v3 σ4 =>
        sv_if (v3 = 0)
          (some ((-1000000001 : Int32), σ4))
          (sv_b (f_Mo_isIn (a3.toInt64) (0 : Int64) (2 : Int64) σ4) (fun v5 σ6 =>
            sv_if (v5 = 0)
              (some ((-1000000001 : Int32), σ6))
              (sv_b0 (f_Mo_laysBy σ6) (fun σ7 =>
                f_Mo_behind_48 sv_fu a1 a2 a3 (0 : Int32) (0 : Int32) (0 : Int32) σ7)))))))
noncomputable def n_Mo_behind : List sv_V → sv_S → Option (Int32 × sv_S)
  | [.inr (.inr (some (30, 0))), .inl a1, .inl a2, .inl a3], σ => f_Mo_behind a1 a2 a3 σ
  | _, _ => none
def cd_Mo_behind : sv_C := [(0, (.aload_n 0, (sv_N, (1, (0, []))))), (1, (.iload_n 1, (sv_N, (2, (0, []))))), (2, (.invokevirtual 113, (sv_N, (5, (0, []))))), (5, (.ifCond .eq 27, (sv_N, (8, (32, []))))), (8, (.iload_n 2, (sv_N, (9, (0, []))))), (9, (.i2l, (sv_N, (10, (0, []))))), (10, (.lconst 0, (.inr (.inl (0 : Int64)), (11, (0, []))))), (11, (.ldc2_w 139, (sv_N, (14, (0, []))))), (14, (.invokestatic 71, (sv_N, (17, (0, []))))), (17, (.ifCond .eq 15, (sv_N, (20, (32, []))))), (20, (.iload_n 3, (sv_N, (21, (0, []))))), (21, (.i2l, (sv_N, (22, (0, []))))), (22, (.lconst 0, (.inr (.inl (0 : Int64)), (23, (0, []))))), (23, (.ldc2_w 160, (sv_N, (26, (0, []))))), (26, (.invokestatic 71, (sv_N, (29, (0, []))))), (29, (.ifCond .ne 6, (sv_N, (32, (35, []))))), (32, (.ldc 84, (sv_N, (34, (0, []))))), (34, (.ireturn, (sv_N, (35, (0, []))))), (35, (.aload_n 0, (sv_N, (36, (0, []))))), (36, (.invokevirtual 162, (sv_N, (39, (0, []))))), (39, (.iconst 0, (.inl (0 : Int32), (40, (0, []))))), (40, (.istore 4, (sv_N, (42, (0, []))))), (42, (.iconst 0, (.inl (0 : Int32), (43, (0, []))))), (43, (.istore 5, (sv_N, (45, (0, []))))), (45, (.iconst 0, (.inl (0 : Int32), (46, (0, []))))), (46, (.istore 6, (sv_N, (48, (0, []))))), (48, (.iload 6, (sv_N, (50, (0, []))))), (50, (.iload_n 2, (sv_N, (51, (0, []))))), (51, (.if_icmp .ge 33, (sv_N, (54, (84, []))))), (54, (.aload_n 0, (sv_N, (55, (0, []))))), (55, (.invokevirtual 154, (sv_N, (58, (0, []))))), (58, (.istore 7, (sv_N, (60, (0, []))))), (60, (.iload 4, (sv_N, (62, (0, []))))), (62, (.iload 7, (sv_N, (64, (0, []))))), (64, (.iload_n 1, (sv_N, (65, (0, []))))), (65, (.ishr, (sv_N, (66, (0, []))))), (66, (.iconst 1, (.inl (1 : Int32), (67, (0, []))))), (67, (.iand, (sv_N, (68, (0, []))))), (68, (.iadd, (sv_N, (69, (0, []))))), (69, (.istore 4, (sv_N, (71, (0, []))))), (71, (.iload 7, (sv_N, (73, (0, []))))), (73, (.invokestatic 157, (sv_N, (76, (0, []))))), (76, (.istore 5, (sv_N, (78, (0, []))))), (78, (.iinc 6 1, (.inl (1 : Int32), (81, (0, []))))), (81, (.goto (-33), (sv_N, (84, (48, []))))), (84, (.aload_n 0, (sv_N, (85, (0, []))))), (85, (.iload_n 1, (sv_N, (86, (0, []))))), (86, (.iconst 2, (.inl (2 : Int32), (87, (0, []))))), (87, (.invokevirtual 90, (sv_N, (90, (0, []))))), (90, (.istore 6, (sv_N, (92, (0, []))))), (92, (.aload_n 0, (sv_N, (93, (0, []))))), (93, (.invokevirtual 165, (sv_N, (96, (0, []))))), (96, (.iload_n 3, (sv_N, (97, (0, []))))), (97, (.ifCond .ne 8, (sv_N, (100, (105, []))))), (100, (.iload 6, (sv_N, (102, (0, []))))), (102, (.goto 15, (sv_N, (105, (117, []))))), (105, (.iload_n 3, (sv_N, (106, (0, []))))), (106, (.iconst 1, (.inl (1 : Int32), (107, (0, []))))), (107, (.if_icmp .ne 8, (sv_N, (110, (115, []))))), (110, (.iload 4, (sv_N, (112, (0, []))))), (112, (.goto 5, (sv_N, (115, (117, []))))), (115, (.iload 5, (sv_N, (117, (0, []))))), (117, (.ireturn, (sv_N, (118, (0, [])))))]
noncomputable def ev_Mo_behind : sv_E := (fun i => sv_lk i fl_12, (fun i => sv_lk i kc_12, (fun _ => 0, (true, (fun pc => sv_lk pc [(2, (2, .inl n_Mo_isDrummer)), (14, (3, .inl n_Mo_isIn)), (26, (3, .inl n_Mo_isIn)), (36, (1, .inr (.inl n_Mo_laysBy))), (55, (1, .inl n_Mo_goesOn)), (73, (1, .inl n_Mo_ones)), (87, (3, .inl n_Mo_of)), (93, (1, .inr (.inl n_Mo_laysBack)))], none)))))
noncomputable def kk_Mo_behind_48 (n : Nat) : sv_K (Int32 × sv_S) := fun pc => sv_lk pc [(48, fun lo st σ => match lo, st with
    | [some (.inr (.inr (some (30, 0)))), some (.inl x1), some (.inl x2), some (.inl x3), some (.inl x4), some (.inl x5), some (.inl x6), _], [] => f_Mo_behind_48 n x1 x2 x3 x4 x5 x6 σ
    | _, _ => none)]
set_option maxRecDepth 20000 in
theorem e_Mo_behind_48 (n : Nat) (x1 : Int32) (x2 : Int32) (x3 : Int32) (x4 : Int32) (x5 : Int32) (x6 : Int32) (z7 : Option sv_V) (σ : sv_S) : sv_ex ev_Mo_behind sv_rI (kk_Mo_behind_48 n) cd_Mo_behind 65 48 [some (.inr (.inr (some (30, 0)))), some (.inl x1), some (.inl x2), some (.inl x3), some (.inl x4), some (.inl x5), some (.inl x6), z7] [] σ = f_Mo_behind_48 (n + 1) x1 x2 x3 x4 x5 x6 σ := by
  rw [f_Mo_behind_48.eq_2]
  delta ev_Mo_behind kk_Mo_behind_48 n_Mo_isDrummer n_Mo_isIn n_Mo_laysBy n_Mo_goesOn n_Mo_ones n_Mo_of n_Mo_laysBack
  generalize f_Mo_isDrummer = c0
  generalize f_Mo_isIn = c1
  generalize f_Mo_laysBy = c2
  generalize f_Mo_goesOn = c3
  generalize f_Mo_ones = c4
  generalize f_Mo_of = c5
  generalize f_Mo_laysBack = c6
  generalize f_Mo_behind_48 = c7
  rfl
noncomputable def kk_Mo_behind : sv_K (Int32 × sv_S) := fun pc => sv_lk pc [(48, fun lo st σ => match lo, st with
    | [some (.inr (.inr (some (30, 0)))), some (.inl x1), some (.inl x2), some (.inl x3), some (.inl x4), some (.inl x5), some (.inl x6), _], [] => f_Mo_behind_48 sv_fu x1 x2 x3 x4 x5 x6 σ
    | _, _ => none)]
set_option maxRecDepth 20000 in
theorem e_Mo_behind (a1 : Int32) (a2 : Int32) (a3 : Int32) (σ : sv_S) : sv_ex ev_Mo_behind sv_rI kk_Mo_behind cd_Mo_behind 65 0 [some (.inr (.inr (some (30, 0)))), some (.inl a1), some (.inl a2), some (.inl a3), none, none, none, none] [] σ = f_Mo_behind a1 a2 a3 σ := by
  unfold f_Mo_behind
  delta ev_Mo_behind kk_Mo_behind n_Mo_isDrummer n_Mo_isIn n_Mo_laysBy n_Mo_goesOn n_Mo_ones n_Mo_of n_Mo_laysBack
  generalize f_Mo_isDrummer = c0
  generalize f_Mo_isIn = c1
  generalize f_Mo_laysBy = c2
  generalize f_Mo_goesOn = c3
  generalize f_Mo_ones = c4
  generalize f_Mo_of = c5
  generalize f_Mo_laysBack = c6
  generalize f_Mo_behind_48 = c7
  rfl
theorem d_Mo_behind : cd_Mo_behind.all (sv_dk cX12_behind) = true := by decide +kernel
set_option maxRecDepth 20000 in
theorem w_Mo_behind_48 {Γ : sv_Ga} {res : Int32 × sv_S} (X : sv_Ok Γ ev_Mo_behind cX12_behind sv_rI res) : ∀ (n : Nat) (x1 : Int32) (x2 : Int32) (x3 : Int32) (x4 : Int32) (x5 : Int32) (x6 : Int32) (z7 : Option sv_V) (σ : sv_S), f_Mo_behind_48 n x1 x2 x3 x4 x5 x6 σ = some res → sv_T Γ 48 [some (.inr (.inr (some (30, 0)))), some (.inl x1), some (.inl x2), some (.inl x3), some (.inl x4), some (.inl x5), some (.inl x6), z7] [] σ := by
  intro n
  induction n with
  | zero =>
    intro x1 x2 x3 x4 x5 x6 z7 σ h
    rw [f_Mo_behind_48.eq_1] at h
    cases h
  | succ n ih =>
    intro x1 x2 x3 x4 x5 x6 z7 σ h
    refine sv_run X d_Mo_behind (K := kk_Mo_behind_48 n) (sv_lk_all (P := fun pc (k : sv_Lo → List sv_V → sv_S → Option (Int32 × sv_S)) => ∀ lo st σ, k lo st σ = some res → sv_T Γ pc lo st σ) ?_) _ _ _ _ _ ((e_Mo_behind_48 n x1 x2 x3 x4 x5 x6 z7 σ).trans h)
    clear h
    refine List.forall_mem_cons.mpr ⟨fun lo st σ h => ?_, fun _ h => absurd h List.not_mem_nil⟩
    · dsimp only at h
      split at h
      · exact ih _ _ _ _ _ _ _ _ h
      · cases h

set_option maxRecDepth 20000 in
theorem b_Mo_behind (Γ : sv_Ga) (res : Int32 × sv_S) (X : sv_Ok Γ ev_Mo_behind cX12_behind sv_rI res) (as : List sv_V) (σ : sv_S) (h : n_Mo_behind as σ = some res) : sv_T Γ 0 (sv_e0 8 as) [] σ := by
  unfold n_Mo_behind at h
  split at h
  · refine sv_run X d_Mo_behind (K := kk_Mo_behind) (sv_lk_all (P := fun pc (k : sv_Lo → List sv_V → sv_S → Option (Int32 × sv_S)) => ∀ lo st σ, k lo st σ = some res → sv_T Γ pc lo st σ) ?_) _ _ _ _ _ ((e_Mo_behind _ _ _ _).trans h)
    clear h
    refine List.forall_mem_cons.mpr ⟨fun lo st σ h => ?_, fun _ h => absurd h List.not_mem_nil⟩
    · dsimp only at h
      split at h
      · exact w_Mo_behind_48 X _ _ _ _ _ _ _ _ _ h
      · cases h
  · cases h
theorem a_Mo_behind (as : List sv_V) (σ : sv_S) (x : Int32 × sv_S) (h : n_Mo_behind as σ = some x) : sv_args 8 ev_Mo_behind.2.2.2.1 as := by
  unfold n_Mo_behind at h
  split at h
  · exact ⟨Nat.le_of_ble_eq_true rfl, fun _ v hv => by
      simp only [List.mem_cons, List.not_mem_nil, or_false] at hv
      rcases hv with rfl | rfl | rfl | rfl <;> trivial⟩
  · cases h
theorem g_Mo_behind (as : List sv_V) (σ : sv_S) (x : Option sv_V × sv_S) (h : sv_gI n_Mo_behind as σ = some x) : ∃ r i as', as = sv_R r i :: as' ∧ sv_kd r i = .inl 12 := by
  obtain ⟨_, _, h, -⟩ := sv_b_some h
  unfold n_Mo_behind at h
  split at h
  · exact ⟨_, _, _, rfl, rfl⟩
  · cases h
theorem tw_26 : Cond.selects RX12 yX12_laysBy yX12_laysBy ∈ gw_tbl := gw_at 26 (by decide +kernel) rfl
theorem tw_27 : Cond.selects RX12 yX12_laysBack yX12_laysBack ∈ gw_tbl := gw_at 27 (by decide +kernel) rfl
theorem tw_1244 : Cond.methodLink RX12 162 yX12_laysBy ∈ gw_tbl := gw_at 1244 (by decide +kernel) rfl
theorem tw_1246 : Cond.instanceMethod yX12_laysBy ∈ gw_tbl := gw_at 1246 (by decide +kernel) rfl
theorem tw_1247 : Cond.code yX12_laysBy cX12_laysBy 2 none ∈ gw_tbl := gw_at 1247 (by decide +kernel) rfl
theorem tw_1248 : Cond.methodLink RX12 165 yX12_laysBack ∈ gw_tbl := gw_at 1248 (by decide +kernel) rfl
theorem tw_1250 : Cond.instanceMethod yX12_laysBack ∈ gw_tbl := gw_at 1250 (by decide +kernel) rfl
theorem tw_1251 : Cond.code yX12_laysBack cX12_laysBack 2 none ∈ gw_tbl := gw_at 1251 (by decide +kernel) rfl
set_option maxRecDepth 20000 in
theorem m_Mo_behind (l : Launch) : sv_M l yX12_behind cX12_behind 8 (some .int) (sv_gI n_Mo_behind) 5 := by
  refine sv_mI (E := ev_Mo_behind) (by decide +kernel) (ln_gen fk_12 kk_12 (sv_ns _ (fun _ => rfl) _)) rfl ?_ a_Mo_behind b_Mo_behind
  intro p e R s m args below meth c cells slots Q base ad dC dI cA n0 S hkn hR hf pc n f hcs
  refine sv_lk_all (P := fun pc (x : Nat × sv_F) => sv_cok p l e R s m args below meth c cells slots Q base ad dC dI cA true 8 n0 pc x.1 x.2) ?_ pc (n, f) hcs
  exact List.forall_mem_cons.mpr ⟨(sv_cV S hkn (m_Mo_isDrummer l) ⟨Nat.le_trans (by decide) hR.1, Nat.le_trans (by decide) hR.2⟩ (by decide) hf rfl (g_Mo_isDrummer) (sv_w5 tw_1116 tw_1118 tw_9 tw_65 tw_1119) (by decide +kernel) (sv_dc3 d_Mo_behind (pc := 2) rfl rfl)).I,
      List.forall_mem_cons.mpr ⟨(sv_cS S hkn (m_Mo_isIn l) ⟨Nat.le_trans (by decide) hR.1, Nat.le_trans (by decide) hR.2⟩ (by decide) hf (sv_w4 tw_1098 tw_1099 tw_65 tw_1100) (by decide +kernel) (sv_dc3 d_Mo_behind (pc := 14) rfl rfl)).I,
      List.forall_mem_cons.mpr ⟨(sv_cS S hkn (m_Mo_isIn l) ⟨Nat.le_trans (by decide) hR.1, Nat.le_trans (by decide) hR.2⟩ (by decide) hf (sv_w4 tw_1098 tw_1099 tw_65 tw_1100) (by decide +kernel) (sv_dc3 d_Mo_behind (pc := 26) rfl rfl)).I,
      List.forall_mem_cons.mpr ⟨(sv_cV S hkn (m_Mo_laysBy l) ⟨Nat.le_trans (by decide) hR.1, Nat.le_trans (by decide) hR.2⟩ (by decide) hf rfl (g_Mo_laysBy) (sv_w5 tw_1244 tw_1246 tw_26 tw_65 tw_1247) (by decide +kernel) (sv_dc3 d_Mo_behind (pc := 36) rfl rfl)).V,
      List.forall_mem_cons.mpr ⟨(sv_cV S hkn (m_Mo_goesOn l) ⟨Nat.le_trans (by decide) hR.1, Nat.le_trans (by decide) hR.2⟩ (by decide) hf rfl (g_Mo_goesOn) (sv_w5 tw_1232 tw_1234 tw_25 tw_65 tw_1235) (by decide +kernel) (sv_dc3 d_Mo_behind (pc := 55) rfl rfl)).I,
      List.forall_mem_cons.mpr ⟨(sv_cS S hkn (m_Mo_ones l) ⟨Nat.le_trans (by decide) hR.1, Nat.le_trans (by decide) hR.2⟩ (by decide) hf (sv_w4 tw_1236 tw_1237 tw_65 tw_1238) (by decide +kernel) (sv_dc3 d_Mo_behind (pc := 73) rfl rfl)).I,
      List.forall_mem_cons.mpr ⟨(sv_cV S hkn (m_Mo_of l) ⟨Nat.le_trans (by decide) hR.1, Nat.le_trans (by decide) hR.2⟩ (by decide) hf rfl (g_Mo_of) (sv_w5 tw_1120 tw_1122 tw_10 tw_65 tw_1123) (by decide +kernel) (sv_dc3 d_Mo_behind (pc := 87) rfl rfl)).I,
      List.forall_mem_cons.mpr ⟨(sv_cV S hkn (m_Mo_laysBack l) ⟨Nat.le_trans (by decide) hR.1, Nat.le_trans (by decide) hR.2⟩ (by decide) hf rfl (g_Mo_laysBack) (sv_w5 tw_1248 tw_1250 tw_27 tw_65 tw_1251) (by decide +kernel) (sv_dc3 d_Mo_behind (pc := 93) rfl rfl)).V,
      fun _ h => absurd h List.not_mem_nil⟩⟩⟩⟩⟩⟩⟩⟩
noncomputable def f_Mo_firstOf_8 : Nat → Int32 → Int32 → Int32 → sv_S → Option (Int32 × sv_S)
  | 0, _, _, _, _ => none
  | n + 1, x1, x2, x3, σ =>
    sv_if ((100 : Int32) < x3)
      (sv_b0 (f_Mo_laysBack σ) (fun σ1 =>
        some (x2, σ1)))
      (sv_if (0 ≤ x2)
        (sv_b0 (f_Mo_laysBack σ) (fun σ2 =>
          some (x2, σ2)))
        (sv_b (f_Mo_goesOn σ) (fun v3 σ4 =>
          sv_b (f_Mo_ones v3 σ4) (fun v5 σ6 =>
            sv_if (v5 < x1)
              (f_Mo_firstOf_8 n x1 (-1 : Int32) (x3 + (1 : Int32)) σ6)
              (f_Mo_firstOf_8 n x1 x3 (x3 + (1 : Int32)) σ6)))))
noncomputable def f_Mo_firstOf (a1 : Int32) (σ : sv_S) : Option (Int32 × sv_S) :=
  sv_b0 (f_Mo_laysBy σ) (fun σ1 =>
    f_Mo_firstOf_8 sv_fu a1 (-1 : Int32) (1 : Int32) σ1)
noncomputable def n_Mo_firstOf : List sv_V → sv_S → Option (Int32 × sv_S)
  | [.inr (.inr (some (30, 0))), .inl a1], σ => f_Mo_firstOf a1 σ
  | _, _ => none
def cd_Mo_firstOf : sv_C := [(0, (.aload_n 0, (sv_N, (1, (0, []))))), (1, (.invokevirtual 162, (sv_N, (4, (0, []))))), (4, (.iconst (-1), (.inl (-1 : Int32), (5, (0, []))))), (5, (.istore_n 2, (sv_N, (6, (0, []))))), (6, (.iconst 1, (.inl (1 : Int32), (7, (0, []))))), (7, (.istore_n 3, (sv_N, (8, (0, []))))), (8, (.iload_n 3, (sv_N, (9, (0, []))))), (9, (.bipush 100, (.inl (100 : Int32), (11, (0, []))))), (11, (.if_icmp .gt 30, (sv_N, (14, (41, []))))), (14, (.iload_n 2, (sv_N, (15, (0, []))))), (15, (.ifCond .ge 26, (sv_N, (18, (41, []))))), (18, (.aload_n 0, (sv_N, (19, (0, []))))), (19, (.invokevirtual 154, (sv_N, (22, (0, []))))), (22, (.invokestatic 157, (sv_N, (25, (0, []))))), (25, (.iload_n 1, (sv_N, (26, (0, []))))), (26, (.if_icmp .lt 7, (sv_N, (29, (33, []))))), (29, (.iload_n 3, (sv_N, (30, (0, []))))), (30, (.goto 4, (sv_N, (33, (34, []))))), (33, (.iconst (-1), (.inl (-1 : Int32), (34, (0, []))))), (34, (.istore_n 2, (sv_N, (35, (0, []))))), (35, (.iinc 3 1, (.inl (1 : Int32), (38, (0, []))))), (38, (.goto (-30), (sv_N, (41, (8, []))))), (41, (.aload_n 0, (sv_N, (42, (0, []))))), (42, (.invokevirtual 165, (sv_N, (45, (0, []))))), (45, (.iload_n 2, (sv_N, (46, (0, []))))), (46, (.ireturn, (sv_N, (47, (0, [])))))]
noncomputable def ev_Mo_firstOf : sv_E := (fun i => sv_lk i fl_12, (fun i => sv_lk i kc_12, (fun _ => 0, (true, (fun pc => sv_lk pc [(1, (1, .inr (.inl n_Mo_laysBy))), (19, (1, .inl n_Mo_goesOn)), (22, (1, .inl n_Mo_ones)), (42, (1, .inr (.inl n_Mo_laysBack)))], none)))))
noncomputable def kk_Mo_firstOf_8 (n : Nat) : sv_K (Int32 × sv_S) := fun pc => sv_lk pc [(8, fun lo st σ => match lo, st with
    | [some (.inr (.inr (some (30, 0)))), some (.inl x1), some (.inl x2), some (.inl x3)], [] => f_Mo_firstOf_8 n x1 x2 x3 σ
    | _, _ => none)]
set_option maxRecDepth 20000 in
theorem e_Mo_firstOf_8 (n : Nat) (x1 : Int32) (x2 : Int32) (x3 : Int32) (σ : sv_S) : sv_ex ev_Mo_firstOf sv_rI (kk_Mo_firstOf_8 n) cd_Mo_firstOf 28 8 [some (.inr (.inr (some (30, 0)))), some (.inl x1), some (.inl x2), some (.inl x3)] [] σ = f_Mo_firstOf_8 (n + 1) x1 x2 x3 σ := by
  rw [f_Mo_firstOf_8.eq_2]
  delta ev_Mo_firstOf kk_Mo_firstOf_8 n_Mo_laysBy n_Mo_goesOn n_Mo_ones n_Mo_laysBack
  generalize f_Mo_laysBy = c0
  generalize f_Mo_goesOn = c1
  generalize f_Mo_ones = c2
  generalize f_Mo_laysBack = c3
  generalize f_Mo_firstOf_8 = c4
  rfl
noncomputable def kk_Mo_firstOf : sv_K (Int32 × sv_S) := fun pc => sv_lk pc [(8, fun lo st σ => match lo, st with
    | [some (.inr (.inr (some (30, 0)))), some (.inl x1), some (.inl x2), some (.inl x3)], [] => f_Mo_firstOf_8 sv_fu x1 x2 x3 σ
    | _, _ => none)]
set_option maxRecDepth 20000 in
theorem e_Mo_firstOf (a1 : Int32) (σ : sv_S) : sv_ex ev_Mo_firstOf sv_rI kk_Mo_firstOf cd_Mo_firstOf 28 0 [some (.inr (.inr (some (30, 0)))), some (.inl a1), none, none] [] σ = f_Mo_firstOf a1 σ := by
  unfold f_Mo_firstOf
  delta ev_Mo_firstOf kk_Mo_firstOf n_Mo_laysBy n_Mo_goesOn n_Mo_ones n_Mo_laysBack
  generalize f_Mo_laysBy = c0
  generalize f_Mo_goesOn = c1
  generalize f_Mo_ones = c2
  generalize f_Mo_laysBack = c3
  generalize f_Mo_firstOf_8 = c4
  rfl
theorem d_Mo_firstOf : cd_Mo_firstOf.all (sv_dk cX12_firstOf) = true := by decide +kernel
set_option maxRecDepth 20000 in
theorem w_Mo_firstOf_8 {Γ : sv_Ga} {res : Int32 × sv_S} (X : sv_Ok Γ ev_Mo_firstOf cX12_firstOf sv_rI res) : ∀ (n : Nat) (x1 : Int32) (x2 : Int32) (x3 : Int32) (σ : sv_S), f_Mo_firstOf_8 n x1 x2 x3 σ = some res → sv_T Γ 8 [some (.inr (.inr (some (30, 0)))), some (.inl x1), some (.inl x2), some (.inl x3)] [] σ := by
  intro n
  induction n with
  | zero =>
    intro x1 x2 x3 σ h
    rw [f_Mo_firstOf_8.eq_1] at h
    cases h
  | succ n ih =>
    intro x1 x2 x3 σ h
    refine sv_run X d_Mo_firstOf (K := kk_Mo_firstOf_8 n) (sv_lk_all (P := fun pc (k : sv_Lo → List sv_V → sv_S → Option (Int32 × sv_S)) => ∀ lo st σ, k lo st σ = some res → sv_T Γ pc lo st σ) ?_) _ _ _ _ _ ((e_Mo_firstOf_8 n x1 x2 x3 σ).trans h)
    clear h
    refine List.forall_mem_cons.mpr ⟨fun lo st σ h => ?_, fun _ h => absurd h List.not_mem_nil⟩
    · dsimp only at h
      split at h
      · exact ih _ _ _ _ h
      · cases h

set_option maxRecDepth 20000 in
theorem b_Mo_firstOf (Γ : sv_Ga) (res : Int32 × sv_S) (X : sv_Ok Γ ev_Mo_firstOf cX12_firstOf sv_rI res) (as : List sv_V) (σ : sv_S) (h : n_Mo_firstOf as σ = some res) : sv_T Γ 0 (sv_e0 4 as) [] σ := by
  unfold n_Mo_firstOf at h
  split at h
  · refine sv_run X d_Mo_firstOf (K := kk_Mo_firstOf) (sv_lk_all (P := fun pc (k : sv_Lo → List sv_V → sv_S → Option (Int32 × sv_S)) => ∀ lo st σ, k lo st σ = some res → sv_T Γ pc lo st σ) ?_) _ _ _ _ _ ((e_Mo_firstOf _ _).trans h)
    clear h
    refine List.forall_mem_cons.mpr ⟨fun lo st σ h => ?_, fun _ h => absurd h List.not_mem_nil⟩
    · dsimp only at h
      split at h
      · exact w_Mo_firstOf_8 X _ _ _ _ _ h
      · cases h
  · cases h
theorem a_Mo_firstOf (as : List sv_V) (σ : sv_S) (x : Int32 × sv_S) (h : n_Mo_firstOf as σ = some x) : sv_args 4 ev_Mo_firstOf.2.2.2.1 as := by
  unfold n_Mo_firstOf at h
  split at h
  · exact ⟨Nat.le_of_ble_eq_true rfl, fun _ v hv => by
      simp only [List.mem_cons, List.not_mem_nil, or_false] at hv
      rcases hv with rfl | rfl <;> trivial⟩
  · cases h
theorem g_Mo_firstOf (as : List sv_V) (σ : sv_S) (x : Option sv_V × sv_S) (h : sv_gI n_Mo_firstOf as σ = some x) : ∃ r i as', as = sv_R r i :: as' ∧ sv_kd r i = .inl 12 := by
  obtain ⟨_, _, h, -⟩ := sv_b_some h
  unfold n_Mo_firstOf at h
  split at h
  · exact ⟨_, _, _, rfl, rfl⟩
  · cases h

set_option maxRecDepth 20000 in
theorem m_Mo_firstOf (l : Launch) : sv_M l yX12_firstOf cX12_firstOf 4 (some .int) (sv_gI n_Mo_firstOf) 5 := by
  refine sv_mI (E := ev_Mo_firstOf) (by decide +kernel) (ln_gen fk_12 kk_12 (sv_ns _ (fun _ => rfl) _)) rfl ?_ a_Mo_firstOf b_Mo_firstOf
  intro p e R s m args below meth c cells slots Q base ad dC dI cA n0 S hkn hR hf pc n f hcs
  refine sv_lk_all (P := fun pc (x : Nat × sv_F) => sv_cok p l e R s m args below meth c cells slots Q base ad dC dI cA true 4 n0 pc x.1 x.2) ?_ pc (n, f) hcs
  exact List.forall_mem_cons.mpr ⟨(sv_cV S hkn (m_Mo_laysBy l) ⟨Nat.le_trans (by decide) hR.1, Nat.le_trans (by decide) hR.2⟩ (by decide) hf rfl (g_Mo_laysBy) (sv_w5 tw_1244 tw_1246 tw_26 tw_65 tw_1247) (by decide +kernel) (sv_dc3 d_Mo_firstOf (pc := 1) rfl rfl)).V,
      List.forall_mem_cons.mpr ⟨(sv_cV S hkn (m_Mo_goesOn l) ⟨Nat.le_trans (by decide) hR.1, Nat.le_trans (by decide) hR.2⟩ (by decide) hf rfl (g_Mo_goesOn) (sv_w5 tw_1232 tw_1234 tw_25 tw_65 tw_1235) (by decide +kernel) (sv_dc3 d_Mo_firstOf (pc := 19) rfl rfl)).I,
      List.forall_mem_cons.mpr ⟨(sv_cS S hkn (m_Mo_ones l) ⟨Nat.le_trans (by decide) hR.1, Nat.le_trans (by decide) hR.2⟩ (by decide) hf (sv_w4 tw_1236 tw_1237 tw_65 tw_1238) (by decide +kernel) (sv_dc3 d_Mo_firstOf (pc := 22) rfl rfl)).I,
      List.forall_mem_cons.mpr ⟨(sv_cV S hkn (m_Mo_laysBack l) ⟨Nat.le_trans (by decide) hR.1, Nat.le_trans (by decide) hR.2⟩ (by decide) hf rfl (g_Mo_laysBack) (sv_w5 tw_1248 tw_1250 tw_27 tw_65 tw_1251) (by decide +kernel) (sv_dc3 d_Mo_firstOf (pc := 42) rfl rfl)).V,
      fun _ h => absurd h List.not_mem_nil⟩⟩⟩⟩
noncomputable def f_Mo_soon (σ : sv_S) : Option (Int32 × sv_S) :=
  sv_b (f_Mo_firstOf (1 : Int32) σ) (fun v1 σ2 =>
    sv_b (f_Mo_orNone v1 σ2) (fun v3 σ4 =>
      some (v3, σ4)))
noncomputable def n_Mo_soon : List sv_V → sv_S → Option (Int32 × sv_S)
  | [.inr (.inr (some (30, 0)))], σ => f_Mo_soon σ
  | _, _ => none
def cd_Mo_soon : sv_C := [(0, (.aload_n 0, (sv_N, (1, (0, []))))), (1, (.iconst 1, (.inl (1 : Int32), (2, (0, []))))), (2, (.invokevirtual 168, (sv_N, (5, (0, []))))), (5, (.invokestatic 171, (sv_N, (8, (0, []))))), (8, (.ireturn, (sv_N, (9, (0, [])))))]
noncomputable def ev_Mo_soon : sv_E := (fun i => sv_lk i fl_12, (fun i => sv_lk i kc_12, (fun _ => 0, (true, (fun pc => sv_lk pc [(2, (2, .inl n_Mo_firstOf)), (5, (1, .inl n_Mo_orNone))], none)))))
noncomputable def kk_Mo_soon : sv_K (Int32 × sv_S) := fun pc => sv_lk pc []
set_option maxRecDepth 20000 in
theorem e_Mo_soon (σ : sv_S) : sv_ex ev_Mo_soon sv_rI kk_Mo_soon cd_Mo_soon 7 0 [some (.inr (.inr (some (30, 0))))] [] σ = f_Mo_soon σ := by
  unfold f_Mo_soon
  delta ev_Mo_soon kk_Mo_soon n_Mo_firstOf n_Mo_orNone
  generalize f_Mo_firstOf = c0
  generalize f_Mo_orNone = c1
  rfl
theorem d_Mo_soon : cd_Mo_soon.all (sv_dk cX12_soon) = true := by decide +kernel
set_option maxRecDepth 20000 in
theorem b_Mo_soon (Γ : sv_Ga) (res : Int32 × sv_S) (X : sv_Ok Γ ev_Mo_soon cX12_soon sv_rI res) (as : List sv_V) (σ : sv_S) (h : n_Mo_soon as σ = some res) : sv_T Γ 0 (sv_e0 1 as) [] σ := by
  unfold n_Mo_soon at h
  split at h
  · refine sv_run X d_Mo_soon (K := kk_Mo_soon) (sv_lk_all (P := fun pc (k : sv_Lo → List sv_V → sv_S → Option (Int32 × sv_S)) => ∀ lo st σ, k lo st σ = some res → sv_T Γ pc lo st σ) ?_) _ _ _ _ _ ((e_Mo_soon _).trans h)
    clear h
    exact fun _ h => absurd h List.not_mem_nil
  · cases h
theorem a_Mo_soon (as : List sv_V) (σ : sv_S) (x : Int32 × sv_S) (h : n_Mo_soon as σ = some x) : sv_args 1 ev_Mo_soon.2.2.2.1 as := by
  unfold n_Mo_soon at h
  split at h
  · exact ⟨Nat.le_of_ble_eq_true rfl, fun _ v hv => by
      simp only [List.mem_cons, List.not_mem_nil, or_false] at hv
      rcases hv with rfl <;> trivial⟩
  · cases h
theorem g_Mo_soon (as : List sv_V) (σ : sv_S) (x : Option sv_V × sv_S) (h : sv_gI n_Mo_soon as σ = some x) : ∃ r i as', as = sv_R r i :: as' ∧ sv_kd r i = .inl 12 := by
  obtain ⟨_, _, h, -⟩ := sv_b_some h
  unfold n_Mo_soon at h
  split at h
  · exact ⟨_, _, _, rfl, rfl⟩
  · cases h
theorem tw_28 : Cond.selects RX12 yX12_firstOf yX12_firstOf ∈ gw_tbl := gw_at 28 (by decide +kernel) rfl
theorem tw_1256 : Cond.methodLink RX12 168 yX12_firstOf ∈ gw_tbl := gw_at 1256 (by decide +kernel) rfl
theorem tw_1258 : Cond.instanceMethod yX12_firstOf ∈ gw_tbl := gw_at 1258 (by decide +kernel) rfl
theorem tw_1259 : Cond.code yX12_firstOf cX12_firstOf 4 (some .int) ∈ gw_tbl := gw_at 1259 (by decide +kernel) rfl
theorem tw_1260 : Cond.methodLink RX12 171 yX12_orNone ∈ gw_tbl := gw_at 1260 (by decide +kernel) rfl
theorem tw_1261 : Cond.static yX12_orNone ∈ gw_tbl := gw_at 1261 (by decide +kernel) rfl
theorem tw_1262 : Cond.code yX12_orNone cX12_orNone 1 (some .int) ∈ gw_tbl := gw_at 1262 (by decide +kernel) rfl
set_option maxRecDepth 20000 in
theorem m_Mo_soon (l : Launch) : sv_M l yX12_soon cX12_soon 1 (some .int) (sv_gI n_Mo_soon) 6 := by
  refine sv_mI (E := ev_Mo_soon) (by decide +kernel) (ln_gen fk_12 kk_12 (sv_ns _ (fun _ => rfl) _)) rfl ?_ a_Mo_soon b_Mo_soon
  intro p e R s m args below meth c cells slots Q base ad dC dI cA n0 S hkn hR hf pc n f hcs
  refine sv_lk_all (P := fun pc (x : Nat × sv_F) => sv_cok p l e R s m args below meth c cells slots Q base ad dC dI cA true 1 n0 pc x.1 x.2) ?_ pc (n, f) hcs
  exact List.forall_mem_cons.mpr ⟨(sv_cV S hkn (m_Mo_firstOf l) ⟨Nat.le_trans (by decide) hR.1, Nat.le_trans (by decide) hR.2⟩ (by decide) hf rfl (g_Mo_firstOf) (sv_w5 tw_1256 tw_1258 tw_28 tw_65 tw_1259) (by decide +kernel) (sv_dc3 d_Mo_soon (pc := 2) rfl rfl)).I,
      List.forall_mem_cons.mpr ⟨(sv_cS S hkn (m_Mo_orNone l) ⟨Nat.le_trans (by decide) hR.1, Nat.le_trans (by decide) hR.2⟩ (by decide) hf (sv_w4 tw_1260 tw_1261 tw_65 tw_1262) (by decide +kernel) (sv_dc3 d_Mo_soon (pc := 5) rfl rfl)).I,
      fun _ h => absurd h List.not_mem_nil⟩⟩
noncomputable def f_Mo_all (σ : sv_S) : Option (Int32 × sv_S) :=
  sv_g (sv_in (0 : Int32) 3086) (sv_if ((σ 31 0 ((0 : Int32).toNatClampNeg)) = 0)
    (some ((-1000000005 : Int32), σ))
    (sv_g (sv_in (0 : Int32) 3086) (sv_b (f_Mo_firstOf (σ 31 0 ((0 : Int32).toNatClampNeg)) σ) (fun v1 σ2 =>
      sv_b (f_Mo_orNone v1 σ2) (fun v3 σ4 =>
        some (v3, σ4))))))
noncomputable def n_Mo_all : List sv_V → sv_S → Option (Int32 × sv_S)
  | [.inr (.inr (some (30, 0)))], σ => f_Mo_all σ
  | _, _ => none
def cd_Mo_all : sv_C := [(0, (.aload_n 0, (sv_N, (1, (0, []))))), (1, (.getfield 7, (sv_N, (4, (0, []))))), (4, (.iconst 0, (.inl (0 : Int32), (5, (0, []))))), (5, (.iaload, (sv_N, (6, (0, []))))), (6, (.ifCond .ne 8, (sv_N, (9, (14, []))))), (9, (.ldc 70, (sv_N, (11, (0, []))))), (11, (.goto 16, (sv_N, (14, (27, []))))), (14, (.aload_n 0, (sv_N, (15, (0, []))))), (15, (.aload_n 0, (sv_N, (16, (0, []))))), (16, (.getfield 7, (sv_N, (19, (0, []))))), (19, (.iconst 0, (.inl (0 : Int32), (20, (0, []))))), (20, (.iaload, (sv_N, (21, (0, []))))), (21, (.invokevirtual 168, (sv_N, (24, (0, []))))), (24, (.invokestatic 171, (sv_N, (27, (0, []))))), (27, (.ireturn, (sv_N, (28, (0, [])))))]
noncomputable def ev_Mo_all : sv_E := (fun i => sv_lk i fl_12, (fun i => sv_lk i kc_12, (fun _ => 0, (true, (fun pc => sv_lk pc [(21, (2, .inl n_Mo_firstOf)), (24, (1, .inl n_Mo_orNone))], none)))))
noncomputable def kk_Mo_all : sv_K (Int32 × sv_S) := fun pc => sv_lk pc []
set_option maxRecDepth 20000 in
theorem e_Mo_all (σ : sv_S) : sv_ex ev_Mo_all sv_rI kk_Mo_all cd_Mo_all 17 0 [some (.inr (.inr (some (30, 0))))] [] σ = f_Mo_all σ := by
  unfold f_Mo_all
  delta ev_Mo_all kk_Mo_all n_Mo_firstOf n_Mo_orNone
  generalize f_Mo_firstOf = c0
  generalize f_Mo_orNone = c1
  rfl
theorem d_Mo_all : cd_Mo_all.all (sv_dk cX12_all) = true := by decide +kernel
set_option maxRecDepth 20000 in
theorem b_Mo_all (Γ : sv_Ga) (res : Int32 × sv_S) (X : sv_Ok Γ ev_Mo_all cX12_all sv_rI res) (as : List sv_V) (σ : sv_S) (h : n_Mo_all as σ = some res) : sv_T Γ 0 (sv_e0 1 as) [] σ := by
  unfold n_Mo_all at h
  split at h
  · refine sv_run X d_Mo_all (K := kk_Mo_all) (sv_lk_all (P := fun pc (k : sv_Lo → List sv_V → sv_S → Option (Int32 × sv_S)) => ∀ lo st σ, k lo st σ = some res → sv_T Γ pc lo st σ) ?_) _ _ _ _ _ ((e_Mo_all _).trans h)
    clear h
    exact fun _ h => absurd h List.not_mem_nil
  · cases h
theorem a_Mo_all (as : List sv_V) (σ : sv_S) (x : Int32 × sv_S) (h : n_Mo_all as σ = some x) : sv_args 1 ev_Mo_all.2.2.2.1 as := by
  unfold n_Mo_all at h
  split at h
  · exact ⟨Nat.le_of_ble_eq_true rfl, fun _ v hv => by
      simp only [List.mem_cons, List.not_mem_nil, or_false] at hv
      rcases hv with rfl <;> trivial⟩
  · cases h
theorem g_Mo_all (as : List sv_V) (σ : sv_S) (x : Option sv_V × sv_S) (h : sv_gI n_Mo_all as σ = some x) : ∃ r i as', as = sv_R r i :: as' ∧ sv_kd r i = .inl 12 := by
  obtain ⟨_, _, h, -⟩ := sv_b_some h
  unfold n_Mo_all at h
  split at h
  · exact ⟨_, _, _, rfl, rfl⟩
  · cases h

set_option maxRecDepth 20000 in
theorem m_Mo_all (l : Launch) : sv_M l yX12_all cX12_all 1 (some .int) (sv_gI n_Mo_all) 6 := by
  refine sv_mI (E := ev_Mo_all) (by decide +kernel) (ln_gen fk_12 kk_12 (sv_ns _ (fun _ => rfl) _)) rfl ?_ a_Mo_all b_Mo_all
  intro p e R s m args below meth c cells slots Q base ad dC dI cA n0 S hkn hR hf pc n f hcs
  refine sv_lk_all (P := fun pc (x : Nat × sv_F) => sv_cok p l e R s m args below meth c cells slots Q base ad dC dI cA true 1 n0 pc x.1 x.2) ?_ pc (n, f) hcs
  exact List.forall_mem_cons.mpr ⟨(sv_cV S hkn (m_Mo_firstOf l) ⟨Nat.le_trans (by decide) hR.1, Nat.le_trans (by decide) hR.2⟩ (by decide) hf rfl (g_Mo_firstOf) (sv_w5 tw_1256 tw_1258 tw_28 tw_65 tw_1259) (by decide +kernel) (sv_dc3 d_Mo_all (pc := 21) rfl rfl)).I,
      List.forall_mem_cons.mpr ⟨(sv_cS S hkn (m_Mo_orNone l) ⟨Nat.le_trans (by decide) hR.1, Nat.le_trans (by decide) hR.2⟩ (by decide) hf (sv_w4 tw_1260 tw_1261 tw_65 tw_1262) (by decide +kernel) (sv_dc3 d_Mo_all (pc := 24) rfl rfl)).I,
      fun _ h => absurd h List.not_mem_nil⟩⟩
noncomputable def f_Mo_layFirsts_108 (k28 : Int32 → Int32 → sv_S → Option (sv_S)) (k67 : Int32 → Int32 → Int32 → Int32 → sv_S → Option (sv_S)) (x1 : Int32) (x2 : Int32) (x3 : Int32) (x4 : Int32) (y0 : Int32) (y1 : Nat) (σ : sv_S) : Option (sv_S) :=
    sv_g (sv_in x4 10) (sv_g (sv_in y0 (sv_ml y1)) (k67 x1 x2 x3 (x4 + (1 : Int32)) (sv_up σ 31 y1 (y0.toNatClampNeg) (σ 31 14 (x4.toNatClampNeg)))))
noncomputable def f_Mo_layFirsts_67 (k28 : Int32 → Int32 → sv_S → Option (sv_S)) : Nat → Int32 → Int32 → Int32 → Int32 → sv_S → Option (sv_S)
  | 0, _, _, _, _, _ => none
  | n + 1, x1, x2, x3, x4, σ =>
    sv_g (sv_in (0 : Int32) 3086) (sv_if ((σ 31 0 ((0 : Int32).toNatClampNeg)) ≤ x4)
      (k28 x1 (x2 + (1 : Int32)) σ)
      (sv_g (sv_in x4 10) (sv_if ((σ 31 14 (x4.toNatClampNeg)) = 0)
        (sv_if (((x3 >>> (x4 &&& 31)) &&& (1 : Int32)) = (1 : Int32))
          (sv_g (sv_in x4 10) (f_Mo_layFirsts_67 k28 n x1 x2 x3 (x4 + (1 : Int32)) (sv_up σ 31 14 (x4.toNatClampNeg) x2)))
          (f_Mo_layFirsts_108 k28 (f_Mo_layFirsts_67 k28 n) x1 x2 x3 x4 x4 14 σ))
        (f_Mo_layFirsts_108 k28 (f_Mo_layFirsts_67 k28 n) x1 x2 x3 x4 x4 14 σ))))
noncomputable def f_Mo_layFirsts_28 : Nat → Int32 → Int32 → sv_S → Option (sv_S)
  | 0, _, _, _ => none
  | n + 1, x1, x2, σ =>
    sv_if (x1 < x2)
      (some σ)
      (sv_b (f_Mo_goesOn σ) (fun v1 σ2 =>
        sv_b (f_Mo_ones v1 σ2) (fun v3 σ4 =>
          sv_if (v3 ≤ (σ4 30 0 15))
            (let σ5 := sv_up σ4 30 0 15 (σ4 30 0 15)
            f_Mo_layFirsts_67 (f_Mo_layFirsts_28 n) sv_fu x1 x2 v1 (0 : Int32) σ5)
            (sv_b (f_Mo_ones v1 σ4) (fun v6 σ7 =>
              let σ8 := sv_up σ7 30 0 15 v6
              f_Mo_layFirsts_67 (f_Mo_layFirsts_28 n) sv_fu x1 x2 v1 (0 : Int32) σ8)))))
noncomputable def f_Mo_layFirsts_7 : Nat → Int32 → Int32 → sv_S → Option (sv_S)
  | 0, _, _, _ => none
  | n + 1, x1, x2, σ =>
    sv_if ((10 : Int32) ≤ x2)
      (f_Mo_layFirsts_28 sv_fu x1 (1 : Int32) σ)
      (sv_g (sv_in x2 10) (f_Mo_layFirsts_7 n x1 (x2 + (1 : Int32)) (sv_up σ 31 14 (x2.toNatClampNeg) (0 : Int32))))
noncomputable def f_Mo_layFirsts (a1 : Int32) (σ : sv_S) : Option (sv_S) :=
  let σ1 := sv_up σ 30 0 15 (0 : Int32)
  f_Mo_layFirsts_7 sv_fu a1 (0 : Int32) σ1
noncomputable def n_Mo_layFirsts : List sv_V → sv_S → Option (sv_S)
  | [.inr (.inr (some (30, 0))), .inl a1], σ => f_Mo_layFirsts a1 σ
  | _, _ => none
def cd_Mo_layFirsts : sv_C := [(0, (.aload_n 0, (sv_N, (1, (0, []))))), (1, (.iconst 0, (.inl (0 : Int32), (2, (0, []))))), (2, (.putfield 174, (sv_N, (5, (0, []))))), (5, (.iconst 0, (.inl (0 : Int32), (6, (0, []))))), (6, (.istore_n 2, (sv_N, (7, (0, []))))), (7, (.iload_n 2, (sv_N, (8, (0, []))))), (8, (.bipush 10, (.inl (10 : Int32), (10, (0, []))))), (10, (.if_icmp .ge 16, (sv_N, (13, (26, []))))), (13, (.aload_n 0, (sv_N, (14, (0, []))))), (14, (.getfield 49, (sv_N, (17, (0, []))))), (17, (.iload_n 2, (sv_N, (18, (0, []))))), (18, (.iconst 0, (.inl (0 : Int32), (19, (0, []))))), (19, (.iastore, (sv_N, (20, (0, []))))), (20, (.iinc 2 1, (.inl (1 : Int32), (23, (0, []))))), (23, (.goto (-16), (sv_N, (26, (7, []))))), (26, (.iconst 1, (.inl (1 : Int32), (27, (0, []))))), (27, (.istore_n 2, (sv_N, (28, (0, []))))), (28, (.iload_n 2, (sv_N, (29, (0, []))))), (29, (.iload_n 1, (sv_N, (30, (0, []))))), (30, (.if_icmp .gt 98, (sv_N, (33, (128, []))))), (33, (.aload_n 0, (sv_N, (34, (0, []))))), (34, (.invokevirtual 154, (sv_N, (37, (0, []))))), (37, (.istore_n 3, (sv_N, (38, (0, []))))), (38, (.aload_n 0, (sv_N, (39, (0, []))))), (39, (.iload_n 3, (sv_N, (40, (0, []))))), (40, (.invokestatic 157, (sv_N, (43, (0, []))))), (43, (.aload_n 0, (sv_N, (44, (0, []))))), (44, (.getfield 174, (sv_N, (47, (0, []))))), (47, (.if_icmp .le 10, (sv_N, (50, (57, []))))), (50, (.iload_n 3, (sv_N, (51, (0, []))))), (51, (.invokestatic 157, (sv_N, (54, (0, []))))), (54, (.goto 7, (sv_N, (57, (61, []))))), (57, (.aload_n 0, (sv_N, (58, (0, []))))), (58, (.getfield 174, (sv_N, (61, (0, []))))), (61, (.putfield 174, (sv_N, (64, (0, []))))), (64, (.iconst 0, (.inl (0 : Int32), (65, (0, []))))), (65, (.istore 4, (sv_N, (67, (0, []))))), (67, (.iload 4, (sv_N, (69, (0, []))))), (69, (.aload_n 0, (sv_N, (70, (0, []))))), (70, (.getfield 7, (sv_N, (73, (0, []))))), (73, (.iconst 0, (.inl (0 : Int32), (74, (0, []))))), (74, (.iaload, (sv_N, (75, (0, []))))), (75, (.if_icmp .ge 47, (sv_N, (78, (122, []))))), (78, (.aload_n 0, (sv_N, (79, (0, []))))), (79, (.getfield 49, (sv_N, (82, (0, []))))), (82, (.iload 4, (sv_N, (84, (0, []))))), (84, (.aload_n 0, (sv_N, (85, (0, []))))), (85, (.getfield 49, (sv_N, (88, (0, []))))), (88, (.iload 4, (sv_N, (90, (0, []))))), (90, (.iaload, (sv_N, (91, (0, []))))), (91, (.ifCond .ne 17, (sv_N, (94, (108, []))))), (94, (.iload_n 3, (sv_N, (95, (0, []))))), (95, (.iload 4, (sv_N, (97, (0, []))))), (97, (.ishr, (sv_N, (98, (0, []))))), (98, (.iconst 1, (.inl (1 : Int32), (99, (0, []))))), (99, (.iand, (sv_N, (100, (0, []))))), (100, (.iconst 1, (.inl (1 : Int32), (101, (0, []))))), (101, (.if_icmp .ne 7, (sv_N, (104, (108, []))))), (104, (.iload_n 2, (sv_N, (105, (0, []))))), (105, (.goto 10, (sv_N, (108, (115, []))))), (108, (.aload_n 0, (sv_N, (109, (0, []))))), (109, (.getfield 49, (sv_N, (112, (0, []))))), (112, (.iload 4, (sv_N, (114, (0, []))))), (114, (.iaload, (sv_N, (115, (0, []))))), (115, (.iastore, (sv_N, (116, (0, []))))), (116, (.iinc 4 1, (.inl (1 : Int32), (119, (0, []))))), (119, (.goto (-52), (sv_N, (122, (67, []))))), (122, (.iinc 2 1, (.inl (1 : Int32), (125, (0, []))))), (125, (.goto (-97), (sv_N, (128, (28, []))))), (128, (.return_, (sv_N, (129, (0, [])))))]
noncomputable def ev_Mo_layFirsts : sv_E := (fun i => sv_lk i fl_12, (fun i => sv_lk i kc_12, (fun _ => 0, (true, (fun pc => sv_lk pc [(34, (1, .inl n_Mo_goesOn)), (40, (1, .inl n_Mo_ones)), (51, (1, .inl n_Mo_ones))], none)))))
noncomputable def kk_Mo_layFirsts_108 (k28 : Int32 → Int32 → sv_S → Option (sv_S)) (k67 : Int32 → Int32 → Int32 → Int32 → sv_S → Option (sv_S)) : sv_K (sv_S) := fun pc => sv_lk pc [(67, fun lo st σ => match lo, st with
    | [some (.inr (.inr (some (30, 0)))), some (.inl x1), some (.inl x2), some (.inl x3), some (.inl x4)], [] => k67 x1 x2 x3 x4 σ
    | _, _ => none)]
set_option maxRecDepth 20000 in
theorem e_Mo_layFirsts_108 (k28 : Int32 → Int32 → sv_S → Option (sv_S)) (k67 : Int32 → Int32 → Int32 → Int32 → sv_S → Option (sv_S)) (x1 : Int32) (x2 : Int32) (x3 : Int32) (x4 : Int32) (y0 : Int32) (y1 : Nat) (σ : sv_S) : sv_ex ev_Mo_layFirsts sv_rV (kk_Mo_layFirsts_108 k28 k67) cd_Mo_layFirsts 72 108 [some (.inr (.inr (some (30, 0)))), some (.inl x1), some (.inl x2), some (.inl x3), some (.inl x4)] [.inl y0, .inr (.inr (some (31, y1)))] σ = f_Mo_layFirsts_108 k28 k67 x1 x2 x3 x4 y0 y1 σ := by
  unfold f_Mo_layFirsts_108
  delta ev_Mo_layFirsts kk_Mo_layFirsts_108 n_Mo_goesOn n_Mo_ones
  generalize f_Mo_goesOn = c0
  generalize f_Mo_ones = c1
  generalize f_Mo_layFirsts_67 = c2
  rfl
noncomputable def kk_Mo_layFirsts_67 (k28 : Int32 → Int32 → sv_S → Option (sv_S)) (n : Nat) : sv_K (sv_S) := fun pc => sv_lk pc [(28, fun lo st σ => match lo, st with
    | [some (.inr (.inr (some (30, 0)))), some (.inl x1), some (.inl x2), _, _], [] => k28 x1 x2 σ
    | _, _ => none),
  (67, fun lo st σ => match lo, st with
    | [some (.inr (.inr (some (30, 0)))), some (.inl x1), some (.inl x2), some (.inl x3), some (.inl x4)], [] => f_Mo_layFirsts_67 k28 n x1 x2 x3 x4 σ
    | _, _ => none),
  (108, fun lo st σ => match lo, st with
    | [some (.inr (.inr (some (30, 0)))), some (.inl x1), some (.inl x2), some (.inl x3), some (.inl x4)], [.inl y0, .inr (.inr (some (31, y1)))] => f_Mo_layFirsts_108 k28 (f_Mo_layFirsts_67 k28 n) x1 x2 x3 x4 y0 y1 σ
    | _, _ => none)]
set_option maxRecDepth 20000 in
theorem e_Mo_layFirsts_67 (k28 : Int32 → Int32 → sv_S → Option (sv_S)) (n : Nat) (x1 : Int32) (x2 : Int32) (x3 : Int32) (x4 : Int32) (σ : sv_S) : sv_ex ev_Mo_layFirsts sv_rV (kk_Mo_layFirsts_67 k28 n) cd_Mo_layFirsts 72 67 [some (.inr (.inr (some (30, 0)))), some (.inl x1), some (.inl x2), some (.inl x3), some (.inl x4)] [] σ = f_Mo_layFirsts_67 k28 (n + 1) x1 x2 x3 x4 σ := by
  rw [f_Mo_layFirsts_67.eq_2]
  delta ev_Mo_layFirsts kk_Mo_layFirsts_67 n_Mo_goesOn n_Mo_ones
  generalize f_Mo_goesOn = c0
  generalize f_Mo_ones = c1
  generalize f_Mo_layFirsts_28 = c2
  generalize f_Mo_layFirsts_67 = c3
  generalize f_Mo_layFirsts_108 = c4
  rfl
noncomputable def kk_Mo_layFirsts_28 (n : Nat) : sv_K (sv_S) := fun pc => sv_lk pc [(67, fun lo st σ => match lo, st with
    | [some (.inr (.inr (some (30, 0)))), some (.inl x1), some (.inl x2), some (.inl x3), some (.inl x4)], [] => f_Mo_layFirsts_67 (f_Mo_layFirsts_28 n) sv_fu x1 x2 x3 x4 σ
    | _, _ => none)]
set_option maxRecDepth 20000 in
theorem e_Mo_layFirsts_28 (n : Nat) (x1 : Int32) (x2 : Int32) (z3 z4 : Option sv_V) (σ : sv_S) : sv_ex ev_Mo_layFirsts sv_rV (kk_Mo_layFirsts_28 n) cd_Mo_layFirsts 72 28 [some (.inr (.inr (some (30, 0)))), some (.inl x1), some (.inl x2), z3, z4] [] σ = f_Mo_layFirsts_28 (n + 1) x1 x2 σ := by
  rw [f_Mo_layFirsts_28.eq_2]
  delta ev_Mo_layFirsts kk_Mo_layFirsts_28 n_Mo_goesOn n_Mo_ones
  generalize f_Mo_goesOn = c0
  generalize f_Mo_ones = c1
  generalize f_Mo_layFirsts_67 = c2
  generalize f_Mo_layFirsts_28 = c3
  rfl
noncomputable def kk_Mo_layFirsts_7 (n : Nat) : sv_K (sv_S) := fun pc => sv_lk pc [(7, fun lo st σ => match lo, st with
    | [some (.inr (.inr (some (30, 0)))), some (.inl x1), some (.inl x2), _, _], [] => f_Mo_layFirsts_7 n x1 x2 σ
    | _, _ => none),
  (28, fun lo st σ => match lo, st with
    | [some (.inr (.inr (some (30, 0)))), some (.inl x1), some (.inl x2), _, _], [] => f_Mo_layFirsts_28 sv_fu x1 x2 σ
    | _, _ => none)]
set_option maxRecDepth 20000 in
theorem e_Mo_layFirsts_7 (n : Nat) (x1 : Int32) (x2 : Int32) (z3 z4 : Option sv_V) (σ : sv_S) : sv_ex ev_Mo_layFirsts sv_rV (kk_Mo_layFirsts_7 n) cd_Mo_layFirsts 72 7 [some (.inr (.inr (some (30, 0)))), some (.inl x1), some (.inl x2), z3, z4] [] σ = f_Mo_layFirsts_7 (n + 1) x1 x2 σ := by
  rw [f_Mo_layFirsts_7.eq_2]
  delta ev_Mo_layFirsts kk_Mo_layFirsts_7 n_Mo_goesOn n_Mo_ones
  generalize f_Mo_goesOn = c0
  generalize f_Mo_ones = c1
  generalize f_Mo_layFirsts_7 = c2
  generalize f_Mo_layFirsts_28 = c3
  rfl
noncomputable def kk_Mo_layFirsts : sv_K (sv_S) := fun pc => sv_lk pc [(7, fun lo st σ => match lo, st with
    | [some (.inr (.inr (some (30, 0)))), some (.inl x1), some (.inl x2), _, _], [] => f_Mo_layFirsts_7 sv_fu x1 x2 σ
    | _, _ => none)]
set_option maxRecDepth 20000 in
theorem e_Mo_layFirsts (a1 : Int32) (σ : sv_S) : sv_ex ev_Mo_layFirsts sv_rV kk_Mo_layFirsts cd_Mo_layFirsts 72 0 [some (.inr (.inr (some (30, 0)))), some (.inl a1), none, none, none] [] σ = f_Mo_layFirsts a1 σ := by
  unfold f_Mo_layFirsts
  delta ev_Mo_layFirsts kk_Mo_layFirsts n_Mo_goesOn n_Mo_ones
  generalize f_Mo_goesOn = c0
  generalize f_Mo_ones = c1
  generalize f_Mo_layFirsts_7 = c2
  rfl
theorem d_Mo_layFirsts : cd_Mo_layFirsts.all (sv_dk cX12_layFirsts) = true := by decide +kernel
set_option maxRecDepth 20000 in
theorem w_Mo_layFirsts_108 {Γ : sv_Ga} {res : sv_S} (X : sv_Ok Γ ev_Mo_layFirsts cX12_layFirsts sv_rV res) (k28 : Int32 → Int32 → sv_S → Option (sv_S)) (h28 : ∀ (x1 : Int32) (x2 : Int32) (z3 z4 : Option sv_V) (σ : sv_S), k28 x1 x2 σ = some res → sv_T Γ 28 [some (.inr (.inr (some (30, 0)))), some (.inl x1), some (.inl x2), z3, z4] [] σ) (k67 : Int32 → Int32 → Int32 → Int32 → sv_S → Option (sv_S)) (h67 : ∀ (x1 : Int32) (x2 : Int32) (x3 : Int32) (x4 : Int32) (σ : sv_S), k67 x1 x2 x3 x4 σ = some res → sv_T Γ 67 [some (.inr (.inr (some (30, 0)))), some (.inl x1), some (.inl x2), some (.inl x3), some (.inl x4)] [] σ) : ∀ (x1 : Int32) (x2 : Int32) (x3 : Int32) (x4 : Int32) (y0 : Int32) (y1 : Nat) (σ : sv_S), f_Mo_layFirsts_108 k28 k67 x1 x2 x3 x4 y0 y1 σ = some res → sv_T Γ 108 [some (.inr (.inr (some (30, 0)))), some (.inl x1), some (.inl x2), some (.inl x3), some (.inl x4)] [.inl y0, .inr (.inr (some (31, y1)))] σ := by
  intro x1 x2 x3 x4 y0 y1 σ h
  refine sv_run X d_Mo_layFirsts (K := kk_Mo_layFirsts_108 k28 k67) (sv_lk_all (P := fun pc (k : sv_Lo → List sv_V → sv_S → Option (sv_S)) => ∀ lo st σ, k lo st σ = some res → sv_T Γ pc lo st σ) ?_) _ _ _ _ _ ((e_Mo_layFirsts_108 k28 k67 x1 x2 x3 x4 y0 y1 σ).trans h)
  clear h
  refine List.forall_mem_cons.mpr ⟨fun lo st σ h => ?_, fun _ h => absurd h List.not_mem_nil⟩
  · dsimp only at h
    split at h
    · exact h67 _ _ _ _ _ h
    · cases h

set_option maxRecDepth 20000 in
theorem w_Mo_layFirsts_67 {Γ : sv_Ga} {res : sv_S} (X : sv_Ok Γ ev_Mo_layFirsts cX12_layFirsts sv_rV res) (k28 : Int32 → Int32 → sv_S → Option (sv_S)) (h28 : ∀ (x1 : Int32) (x2 : Int32) (z3 z4 : Option sv_V) (σ : sv_S), k28 x1 x2 σ = some res → sv_T Γ 28 [some (.inr (.inr (some (30, 0)))), some (.inl x1), some (.inl x2), z3, z4] [] σ) : ∀ (n : Nat) (x1 : Int32) (x2 : Int32) (x3 : Int32) (x4 : Int32) (σ : sv_S), f_Mo_layFirsts_67 k28 n x1 x2 x3 x4 σ = some res → sv_T Γ 67 [some (.inr (.inr (some (30, 0)))), some (.inl x1), some (.inl x2), some (.inl x3), some (.inl x4)] [] σ := by
  intro n
  induction n with
  | zero =>
    intro x1 x2 x3 x4 σ h
    rw [f_Mo_layFirsts_67.eq_1] at h
    cases h
  | succ n ih =>
    intro x1 x2 x3 x4 σ h
    refine sv_run X d_Mo_layFirsts (K := kk_Mo_layFirsts_67 k28 n) (sv_lk_all (P := fun pc (k : sv_Lo → List sv_V → sv_S → Option (sv_S)) => ∀ lo st σ, k lo st σ = some res → sv_T Γ pc lo st σ) ?_) _ _ _ _ _ ((e_Mo_layFirsts_67 k28 n x1 x2 x3 x4 σ).trans h)
    clear h
    refine List.forall_mem_cons.mpr ⟨fun lo st σ h => ?_, List.forall_mem_cons.mpr ⟨fun lo st σ h => ?_, List.forall_mem_cons.mpr ⟨fun lo st σ h => ?_, fun _ h => absurd h List.not_mem_nil⟩⟩⟩
    · dsimp only at h
      split at h
      · exact h28 _ _ _ _ _ h
      · cases h
    · dsimp only at h
      split at h
      · exact ih _ _ _ _ _ h
      · cases h
    · dsimp only at h
      split at h
      · exact w_Mo_layFirsts_108 X _ h28 _ ih _ _ _ _ _ _ _ h
      · cases h

set_option maxRecDepth 20000 in
theorem w_Mo_layFirsts_28 {Γ : sv_Ga} {res : sv_S} (X : sv_Ok Γ ev_Mo_layFirsts cX12_layFirsts sv_rV res) : ∀ (n : Nat) (x1 : Int32) (x2 : Int32) (z3 z4 : Option sv_V) (σ : sv_S), f_Mo_layFirsts_28 n x1 x2 σ = some res → sv_T Γ 28 [some (.inr (.inr (some (30, 0)))), some (.inl x1), some (.inl x2), z3, z4] [] σ := by
  intro n
  induction n with
  | zero =>
    intro x1 x2 z3 z4 σ h
    rw [f_Mo_layFirsts_28.eq_1] at h
    cases h
  | succ n ih =>
    intro x1 x2 z3 z4 σ h
    refine sv_run X d_Mo_layFirsts (K := kk_Mo_layFirsts_28 n) (sv_lk_all (P := fun pc (k : sv_Lo → List sv_V → sv_S → Option (sv_S)) => ∀ lo st σ, k lo st σ = some res → sv_T Γ pc lo st σ) ?_) _ _ _ _ _ ((e_Mo_layFirsts_28 n x1 x2 z3 z4 σ).trans h)
    clear h
    refine List.forall_mem_cons.mpr ⟨fun lo st σ h => ?_, fun _ h => absurd h List.not_mem_nil⟩
    · dsimp only at h
      split at h
      · exact w_Mo_layFirsts_67 X _ ih _ _ _ _ _ _ h
      · cases h

set_option maxRecDepth 20000 in
theorem w_Mo_layFirsts_7 {Γ : sv_Ga} {res : sv_S} (X : sv_Ok Γ ev_Mo_layFirsts cX12_layFirsts sv_rV res) : ∀ (n : Nat) (x1 : Int32) (x2 : Int32) (z3 z4 : Option sv_V) (σ : sv_S), f_Mo_layFirsts_7 n x1 x2 σ = some res → sv_T Γ 7 [some (.inr (.inr (some (30, 0)))), some (.inl x1), some (.inl x2), z3, z4] [] σ := by
  intro n
  induction n with
  | zero =>
    intro x1 x2 z3 z4 σ h
    rw [f_Mo_layFirsts_7.eq_1] at h
    cases h
  | succ n ih =>
    intro x1 x2 z3 z4 σ h
    refine sv_run X d_Mo_layFirsts (K := kk_Mo_layFirsts_7 n) (sv_lk_all (P := fun pc (k : sv_Lo → List sv_V → sv_S → Option (sv_S)) => ∀ lo st σ, k lo st σ = some res → sv_T Γ pc lo st σ) ?_) _ _ _ _ _ ((e_Mo_layFirsts_7 n x1 x2 z3 z4 σ).trans h)
    clear h
    refine List.forall_mem_cons.mpr ⟨fun lo st σ h => ?_, List.forall_mem_cons.mpr ⟨fun lo st σ h => ?_, fun _ h => absurd h List.not_mem_nil⟩⟩
    · dsimp only at h
      split at h
      · exact ih _ _ _ _ _ h
      · cases h
    · dsimp only at h
      split at h
      · exact w_Mo_layFirsts_28 X _ _ _ _ _ _ h
      · cases h

set_option maxRecDepth 20000 in
theorem b_Mo_layFirsts (Γ : sv_Ga) (res : sv_S) (X : sv_Ok Γ ev_Mo_layFirsts cX12_layFirsts sv_rV res) (as : List sv_V) (σ : sv_S) (h : n_Mo_layFirsts as σ = some res) : sv_T Γ 0 (sv_e0 5 as) [] σ := by
  unfold n_Mo_layFirsts at h
  split at h
  · refine sv_run X d_Mo_layFirsts (K := kk_Mo_layFirsts) (sv_lk_all (P := fun pc (k : sv_Lo → List sv_V → sv_S → Option (sv_S)) => ∀ lo st σ, k lo st σ = some res → sv_T Γ pc lo st σ) ?_) _ _ _ _ _ ((e_Mo_layFirsts _ _).trans h)
    clear h
    refine List.forall_mem_cons.mpr ⟨fun lo st σ h => ?_, fun _ h => absurd h List.not_mem_nil⟩
    · dsimp only at h
      split at h
      · exact w_Mo_layFirsts_7 X _ _ _ _ _ _ h
      · cases h
  · cases h
theorem a_Mo_layFirsts (as : List sv_V) (σ : sv_S) (x : sv_S) (h : n_Mo_layFirsts as σ = some x) : sv_args 5 ev_Mo_layFirsts.2.2.2.1 as := by
  unfold n_Mo_layFirsts at h
  split at h
  · exact ⟨Nat.le_of_ble_eq_true rfl, fun _ v hv => by
      simp only [List.mem_cons, List.not_mem_nil, or_false] at hv
      rcases hv with rfl | rfl <;> trivial⟩
  · cases h
theorem g_Mo_layFirsts (as : List sv_V) (σ : sv_S) (x : Option sv_V × sv_S) (h : sv_gV n_Mo_layFirsts as σ = some x) : ∃ r i as', as = sv_R r i :: as' ∧ sv_kd r i = .inl 12 := by
  obtain ⟨_, h, -⟩ := sv_b0_some h
  unfold n_Mo_layFirsts at h
  split at h
  · exact ⟨_, _, _, rfl, rfl⟩
  · cases h

set_option maxRecDepth 20000 in
theorem m_Mo_layFirsts (l : Launch) : sv_M l yX12_layFirsts cX12_layFirsts 5 none (sv_gV n_Mo_layFirsts) 5 := by
  refine sv_mV (E := ev_Mo_layFirsts) (by decide +kernel) (ln_gen fk_12 kk_12 (sv_ns _ (fun _ => rfl) _)) rfl ?_ a_Mo_layFirsts b_Mo_layFirsts
  intro p e R s m args below meth c cells slots Q base ad dC dI cA n0 S hkn hR hf pc n f hcs
  refine sv_lk_all (P := fun pc (x : Nat × sv_F) => sv_cok p l e R s m args below meth c cells slots Q base ad dC dI cA true 5 n0 pc x.1 x.2) ?_ pc (n, f) hcs
  exact List.forall_mem_cons.mpr ⟨(sv_cV S hkn (m_Mo_goesOn l) ⟨Nat.le_trans (by decide) hR.1, Nat.le_trans (by decide) hR.2⟩ (by decide) hf rfl (g_Mo_goesOn) (sv_w5 tw_1232 tw_1234 tw_25 tw_65 tw_1235) (by decide +kernel) (sv_dc3 d_Mo_layFirsts (pc := 34) rfl rfl)).I,
      List.forall_mem_cons.mpr ⟨(sv_cS S hkn (m_Mo_ones l) ⟨Nat.le_trans (by decide) hR.1, Nat.le_trans (by decide) hR.2⟩ (by decide) hf (sv_w4 tw_1236 tw_1237 tw_65 tw_1238) (by decide +kernel) (sv_dc3 d_Mo_layFirsts (pc := 40) rfl rfl)).I,
      List.forall_mem_cons.mpr ⟨(sv_cS S hkn (m_Mo_ones l) ⟨Nat.le_trans (by decide) hR.1, Nat.le_trans (by decide) hR.2⟩ (by decide) hf (sv_w4 tw_1236 tw_1237 tw_65 tw_1238) (by decide +kernel) (sv_dc3 d_Mo_layFirsts (pc := 51) rfl rfl)).I,
      fun _ h => absurd h List.not_mem_nil⟩⟩⟩
noncomputable def f_Mo_spreadOf_38 (k8 : Int32 → Int32 → Int32 → sv_S → Option (Int32 × sv_S)) (x2 : Int32) (x3 : Int32) (y0 : Int32) (σ : sv_S) : Option (Int32 × sv_S) :=
    sv_g (sv_in x3 10) (sv_if ((σ 31 14 (x3.toNatClampNeg)) ≤ x2)
      (k8 y0 x2 (x3 + (1 : Int32)) σ)
      (sv_g (sv_in x3 10) (k8 y0 (σ 31 14 (x3.toNatClampNeg)) (x3 + (1 : Int32)) σ)))
noncomputable def f_Mo_spreadOf_8 : Nat → Int32 → Int32 → Int32 → sv_S → Option (Int32 × sv_S)
  | 0, _, _, _, _ => none
  | n + 1, x1, x2, x3, σ =>
    sv_g (sv_in (0 : Int32) 3086) (sv_if ((σ 31 0 ((0 : Int32).toNatClampNeg)) ≤ x3)
      (sv_g (sv_in (0 : Int32) 3086) (sv_if ((σ 31 0 ((0 : Int32).toNatClampNeg)) = 0)
        (some ((-1 : Int32), σ))
        (sv_if (x1 = 0)
          (some ((-1 : Int32), σ))
          (some (x2 - x1, σ)))))
      (sv_g (sv_in x3 10) (sv_if (x1 ≤ (σ 31 14 (x3.toNatClampNeg)))
        (f_Mo_spreadOf_38 (f_Mo_spreadOf_8 n) x2 x3 x1 σ)
        (sv_g (sv_in x3 10) (f_Mo_spreadOf_38 (f_Mo_spreadOf_8 n) x2 x3 (σ 31 14 (x3.toNatClampNeg)) σ)))))
noncomputable def f_Mo_spreadOf (σ : sv_S) : Option (Int32 × sv_S) :=
  f_Mo_spreadOf_8 sv_fu (1000 : Int32) (0 : Int32) (0 : Int32) σ
noncomputable def n_Mo_spreadOf : List sv_V → sv_S → Option (Int32 × sv_S)
  | [.inr (.inr (some (30, 0)))], σ => f_Mo_spreadOf σ
  | _, _ => none
def cd_Mo_spreadOf : sv_C := [(0, (.sipush 1000, (.inl (1000 : Int32), (3, (0, []))))), (3, (.istore_n 1, (sv_N, (4, (0, []))))), (4, (.iconst 0, (.inl (0 : Int32), (5, (0, []))))), (5, (.istore_n 2, (sv_N, (6, (0, []))))), (6, (.iconst 0, (.inl (0 : Int32), (7, (0, []))))), (7, (.istore_n 3, (sv_N, (8, (0, []))))), (8, (.iload_n 3, (sv_N, (9, (0, []))))), (9, (.aload_n 0, (sv_N, (10, (0, []))))), (10, (.getfield 7, (sv_N, (13, (0, []))))), (13, (.iconst 0, (.inl (0 : Int32), (14, (0, []))))), (14, (.iaload, (sv_N, (15, (0, []))))), (15, (.if_icmp .ge 51, (sv_N, (18, (66, []))))), (18, (.aload_n 0, (sv_N, (19, (0, []))))), (19, (.getfield 49, (sv_N, (22, (0, []))))), (22, (.iload_n 3, (sv_N, (23, (0, []))))), (23, (.iaload, (sv_N, (24, (0, []))))), (24, (.iload_n 1, (sv_N, (25, (0, []))))), (25, (.if_icmp .ge 12, (sv_N, (28, (37, []))))), (28, (.aload_n 0, (sv_N, (29, (0, []))))), (29, (.getfield 49, (sv_N, (32, (0, []))))), (32, (.iload_n 3, (sv_N, (33, (0, []))))), (33, (.iaload, (sv_N, (34, (0, []))))), (34, (.goto 4, (sv_N, (37, (38, []))))), (37, (.iload_n 1, (sv_N, (38, (0, []))))), (38, (.istore_n 1, (sv_N, (39, (0, []))))), (39, (.aload_n 0, (sv_N, (40, (0, []))))), (40, (.getfield 49, (sv_N, (43, (0, []))))), (43, (.iload_n 3, (sv_N, (44, (0, []))))), (44, (.iaload, (sv_N, (45, (0, []))))), (45, (.iload_n 2, (sv_N, (46, (0, []))))), (46, (.if_icmp .le 12, (sv_N, (49, (58, []))))), (49, (.aload_n 0, (sv_N, (50, (0, []))))), (50, (.getfield 49, (sv_N, (53, (0, []))))), (53, (.iload_n 3, (sv_N, (54, (0, []))))), (54, (.iaload, (sv_N, (55, (0, []))))), (55, (.goto 4, (sv_N, (58, (59, []))))), (58, (.iload_n 2, (sv_N, (59, (0, []))))), (59, (.istore_n 2, (sv_N, (60, (0, []))))), (60, (.iinc 3 1, (.inl (1 : Int32), (63, (0, []))))), (63, (.goto (-55), (sv_N, (66, (8, []))))), (66, (.aload_n 0, (sv_N, (67, (0, []))))), (67, (.getfield 7, (sv_N, (70, (0, []))))), (70, (.iconst 0, (.inl (0 : Int32), (71, (0, []))))), (71, (.iaload, (sv_N, (72, (0, []))))), (72, (.ifCond .eq 7, (sv_N, (75, (79, []))))), (75, (.iload_n 1, (sv_N, (76, (0, []))))), (76, (.ifCond .ne 7, (sv_N, (79, (83, []))))), (79, (.iconst (-1), (.inl (-1 : Int32), (80, (0, []))))), (80, (.goto 6, (sv_N, (83, (86, []))))), (83, (.iload_n 2, (sv_N, (84, (0, []))))), (84, (.iload_n 1, (sv_N, (85, (0, []))))), (85, (.isub, (sv_N, (86, (0, []))))), (86, (.ireturn, (sv_N, (87, (0, [])))))]
noncomputable def ev_Mo_spreadOf : sv_E := (fun i => sv_lk i fl_12, (fun i => sv_lk i kc_12, (fun _ => 0, (true, (fun pc => sv_lk pc [], none)))))
noncomputable def kk_Mo_spreadOf_38 (k8 : Int32 → Int32 → Int32 → sv_S → Option (Int32 × sv_S)) : sv_K (Int32 × sv_S) := fun pc => sv_lk pc [(8, fun lo st σ => match lo, st with
    | [some (.inr (.inr (some (30, 0)))), some (.inl x1), some (.inl x2), some (.inl x3)], [] => k8 x1 x2 x3 σ
    | _, _ => none)]
set_option maxRecDepth 20000 in
theorem e_Mo_spreadOf_38 (k8 : Int32 → Int32 → Int32 → sv_S → Option (Int32 × sv_S)) (x2 : Int32) (x3 : Int32) (y0 : Int32) (z1 : Option sv_V) (σ : sv_S) : sv_ex ev_Mo_spreadOf sv_rI (kk_Mo_spreadOf_38 k8) cd_Mo_spreadOf 55 38 [some (.inr (.inr (some (30, 0)))), z1, some (.inl x2), some (.inl x3)] [.inl y0] σ = f_Mo_spreadOf_38 k8 x2 x3 y0 σ := by
  unfold f_Mo_spreadOf_38
  delta ev_Mo_spreadOf kk_Mo_spreadOf_38
  generalize f_Mo_spreadOf_8 = c0
  rfl
noncomputable def kk_Mo_spreadOf_8 (n : Nat) : sv_K (Int32 × sv_S) := fun pc => sv_lk pc [(38, fun lo st σ => match lo, st with
    | [some (.inr (.inr (some (30, 0)))), _, some (.inl x2), some (.inl x3)], [.inl y0] => f_Mo_spreadOf_38 (f_Mo_spreadOf_8 n) x2 x3 y0 σ
    | _, _ => none)]
set_option maxRecDepth 20000 in
theorem e_Mo_spreadOf_8 (n : Nat) (x1 : Int32) (x2 : Int32) (x3 : Int32) (σ : sv_S) : sv_ex ev_Mo_spreadOf sv_rI (kk_Mo_spreadOf_8 n) cd_Mo_spreadOf 55 8 [some (.inr (.inr (some (30, 0)))), some (.inl x1), some (.inl x2), some (.inl x3)] [] σ = f_Mo_spreadOf_8 (n + 1) x1 x2 x3 σ := by
  rw [f_Mo_spreadOf_8.eq_2]
  delta ev_Mo_spreadOf kk_Mo_spreadOf_8
  generalize f_Mo_spreadOf_38 = c0
  generalize f_Mo_spreadOf_8 = c1
  rfl
noncomputable def kk_Mo_spreadOf : sv_K (Int32 × sv_S) := fun pc => sv_lk pc [(8, fun lo st σ => match lo, st with
    | [some (.inr (.inr (some (30, 0)))), some (.inl x1), some (.inl x2), some (.inl x3)], [] => f_Mo_spreadOf_8 sv_fu x1 x2 x3 σ
    | _, _ => none)]
set_option maxRecDepth 20000 in
theorem e_Mo_spreadOf (σ : sv_S) : sv_ex ev_Mo_spreadOf sv_rI kk_Mo_spreadOf cd_Mo_spreadOf 55 0 [some (.inr (.inr (some (30, 0)))), none, none, none] [] σ = f_Mo_spreadOf σ := by
  unfold f_Mo_spreadOf
  delta ev_Mo_spreadOf kk_Mo_spreadOf
  generalize f_Mo_spreadOf_8 = c0
  rfl
theorem d_Mo_spreadOf : cd_Mo_spreadOf.all (sv_dk cX12_spreadOf) = true := by decide +kernel
set_option maxRecDepth 20000 in
theorem w_Mo_spreadOf_38 {Γ : sv_Ga} {res : Int32 × sv_S} (X : sv_Ok Γ ev_Mo_spreadOf cX12_spreadOf sv_rI res) (k8 : Int32 → Int32 → Int32 → sv_S → Option (Int32 × sv_S)) (h8 : ∀ (x1 : Int32) (x2 : Int32) (x3 : Int32) (σ : sv_S), k8 x1 x2 x3 σ = some res → sv_T Γ 8 [some (.inr (.inr (some (30, 0)))), some (.inl x1), some (.inl x2), some (.inl x3)] [] σ) : ∀ (x2 : Int32) (x3 : Int32) (y0 : Int32) (z1 : Option sv_V) (σ : sv_S), f_Mo_spreadOf_38 k8 x2 x3 y0 σ = some res → sv_T Γ 38 [some (.inr (.inr (some (30, 0)))), z1, some (.inl x2), some (.inl x3)] [.inl y0] σ := by
  intro x2 x3 y0 z1 σ h
  refine sv_run X d_Mo_spreadOf (K := kk_Mo_spreadOf_38 k8) (sv_lk_all (P := fun pc (k : sv_Lo → List sv_V → sv_S → Option (Int32 × sv_S)) => ∀ lo st σ, k lo st σ = some res → sv_T Γ pc lo st σ) ?_) _ _ _ _ _ ((e_Mo_spreadOf_38 k8 x2 x3 y0 z1 σ).trans h)
  clear h
  refine List.forall_mem_cons.mpr ⟨fun lo st σ h => ?_, fun _ h => absurd h List.not_mem_nil⟩
  · dsimp only at h
    split at h
    · exact h8 _ _ _ _ h
    · cases h

set_option maxRecDepth 20000 in
theorem w_Mo_spreadOf_8 {Γ : sv_Ga} {res : Int32 × sv_S} (X : sv_Ok Γ ev_Mo_spreadOf cX12_spreadOf sv_rI res) : ∀ (n : Nat) (x1 : Int32) (x2 : Int32) (x3 : Int32) (σ : sv_S), f_Mo_spreadOf_8 n x1 x2 x3 σ = some res → sv_T Γ 8 [some (.inr (.inr (some (30, 0)))), some (.inl x1), some (.inl x2), some (.inl x3)] [] σ := by
  intro n
  induction n with
  | zero =>
    intro x1 x2 x3 σ h
    rw [f_Mo_spreadOf_8.eq_1] at h
    cases h
  | succ n ih =>
    intro x1 x2 x3 σ h
    refine sv_run X d_Mo_spreadOf (K := kk_Mo_spreadOf_8 n) (sv_lk_all (P := fun pc (k : sv_Lo → List sv_V → sv_S → Option (Int32 × sv_S)) => ∀ lo st σ, k lo st σ = some res → sv_T Γ pc lo st σ) ?_) _ _ _ _ _ ((e_Mo_spreadOf_8 n x1 x2 x3 σ).trans h)
    clear h
    refine List.forall_mem_cons.mpr ⟨fun lo st σ h => ?_, fun _ h => absurd h List.not_mem_nil⟩
    · dsimp only at h
      split at h
      · exact w_Mo_spreadOf_38 X _ ih _ _ _ _ _ h
      · cases h

set_option maxRecDepth 20000 in
theorem b_Mo_spreadOf (Γ : sv_Ga) (res : Int32 × sv_S) (X : sv_Ok Γ ev_Mo_spreadOf cX12_spreadOf sv_rI res) (as : List sv_V) (σ : sv_S) (h : n_Mo_spreadOf as σ = some res) : sv_T Γ 0 (sv_e0 4 as) [] σ := by
  unfold n_Mo_spreadOf at h
  split at h
  · refine sv_run X d_Mo_spreadOf (K := kk_Mo_spreadOf) (sv_lk_all (P := fun pc (k : sv_Lo → List sv_V → sv_S → Option (Int32 × sv_S)) => ∀ lo st σ, k lo st σ = some res → sv_T Γ pc lo st σ) ?_) _ _ _ _ _ ((e_Mo_spreadOf _).trans h)
    clear h
    refine List.forall_mem_cons.mpr ⟨fun lo st σ h => ?_, fun _ h => absurd h List.not_mem_nil⟩
    · dsimp only at h
      split at h
      · exact w_Mo_spreadOf_8 X _ _ _ _ _ h
      · cases h
  · cases h
theorem a_Mo_spreadOf (as : List sv_V) (σ : sv_S) (x : Int32 × sv_S) (h : n_Mo_spreadOf as σ = some x) : sv_args 4 ev_Mo_spreadOf.2.2.2.1 as := by
  unfold n_Mo_spreadOf at h
  split at h
  · exact ⟨Nat.le_of_ble_eq_true rfl, fun _ v hv => by
      simp only [List.mem_cons, List.not_mem_nil, or_false] at hv
      rcases hv with rfl <;> trivial⟩
  · cases h
theorem g_Mo_spreadOf (as : List sv_V) (σ : sv_S) (x : Option sv_V × sv_S) (h : sv_gI n_Mo_spreadOf as σ = some x) : ∃ r i as', as = sv_R r i :: as' ∧ sv_kd r i = .inl 12 := by
  obtain ⟨_, _, h, -⟩ := sv_b_some h
  unfold n_Mo_spreadOf at h
  split at h
  · exact ⟨_, _, _, rfl, rfl⟩
  · cases h

set_option maxRecDepth 20000 in
theorem m_Mo_spreadOf (l : Launch) : sv_M l yX12_spreadOf cX12_spreadOf 4 (some .int) (sv_gI n_Mo_spreadOf) 0 := by
  refine sv_mI (E := ev_Mo_spreadOf) (by decide +kernel) (ln_gen fk_12 kk_12 (sv_ns _ (fun _ => rfl) _)) rfl ?_ a_Mo_spreadOf b_Mo_spreadOf
  intro p e R s m args below meth c cells slots Q base ad dC dI cA n0 S hkn hR hf pc n f hcs
  refine sv_lk_all (P := fun pc (x : Nat × sv_F) => sv_cok p l e R s m args below meth c cells slots Q base ad dC dI cA true 4 n0 pc x.1 x.2) ?_ pc (n, f) hcs
  exact fun _ h => absurd h List.not_mem_nil
noncomputable def f_Mo_spread (a1 : Int32) (σ : sv_S) : Option (Int32 × sv_S) :=
  sv_b (f_Mo_isIn (a1.toInt64) (1 : Int64) (100 : Int64) σ) (fun v1 σ2 =>
    sv_if (v1 = 0)
      (some ((-1000000001 : Int32), σ2))
      (sv_b0 (f_Mo_laysBy σ2) (fun σ3 =>
        sv_b0 (f_Mo_layFirsts a1 σ3) (fun σ4 =>
          sv_b0 (f_Mo_laysBack σ4) (fun σ5 =>
            sv_b (f_Mo_spreadOf σ5) (fun v6 σ7 =>
              sv_b (f_Mo_orNone v6 σ7) (fun v8 σ9 =>
                some (v8, σ9))))))))
noncomputable def n_Mo_spread : List sv_V → sv_S → Option (Int32 × sv_S)
  | [.inr (.inr (some (30, 0))), .inl a1], σ => f_Mo_spread a1 σ
  | _, _ => none
def cd_Mo_spread : sv_C := [(0, (.iload_n 1, (sv_N, (1, (0, []))))), (1, (.i2l, (sv_N, (2, (0, []))))), (2, (.lconst 1, (.inr (.inl (1 : Int64)), (3, (0, []))))), (3, (.ldc2_w 139, (sv_N, (6, (0, []))))), (6, (.invokestatic 71, (sv_N, (9, (0, []))))), (9, (.ifCond .ne 6, (sv_N, (12, (15, []))))), (12, (.ldc 84, (sv_N, (14, (0, []))))), (14, (.ireturn, (sv_N, (15, (0, []))))), (15, (.aload_n 0, (sv_N, (16, (0, []))))), (16, (.invokevirtual 162, (sv_N, (19, (0, []))))), (19, (.aload_n 0, (sv_N, (20, (0, []))))), (20, (.iload_n 1, (sv_N, (21, (0, []))))), (21, (.invokevirtual 178, (sv_N, (24, (0, []))))), (24, (.aload_n 0, (sv_N, (25, (0, []))))), (25, (.invokevirtual 165, (sv_N, (28, (0, []))))), (28, (.aload_n 0, (sv_N, (29, (0, []))))), (29, (.invokevirtual 182, (sv_N, (32, (0, []))))), (32, (.invokestatic 171, (sv_N, (35, (0, []))))), (35, (.ireturn, (sv_N, (36, (0, [])))))]
noncomputable def ev_Mo_spread : sv_E := (fun i => sv_lk i fl_12, (fun i => sv_lk i kc_12, (fun _ => 0, (true, (fun pc => sv_lk pc [(6, (3, .inl n_Mo_isIn)), (16, (1, .inr (.inl n_Mo_laysBy))), (21, (2, .inr (.inl n_Mo_layFirsts))), (25, (1, .inr (.inl n_Mo_laysBack))), (29, (1, .inl n_Mo_spreadOf)), (32, (1, .inl n_Mo_orNone))], none)))))
noncomputable def kk_Mo_spread : sv_K (Int32 × sv_S) := fun pc => sv_lk pc []
set_option maxRecDepth 20000 in
theorem e_Mo_spread (a1 : Int32) (σ : sv_S) : sv_ex ev_Mo_spread sv_rI kk_Mo_spread cd_Mo_spread 21 0 [some (.inr (.inr (some (30, 0)))), some (.inl a1)] [] σ = f_Mo_spread a1 σ := by
  unfold f_Mo_spread
  delta ev_Mo_spread kk_Mo_spread n_Mo_isIn n_Mo_laysBy n_Mo_layFirsts n_Mo_laysBack n_Mo_spreadOf n_Mo_orNone
  generalize f_Mo_isIn = c0
  generalize f_Mo_laysBy = c1
  generalize f_Mo_layFirsts = c2
  generalize f_Mo_laysBack = c3
  generalize f_Mo_spreadOf = c4
  generalize f_Mo_orNone = c5
  rfl
theorem d_Mo_spread : cd_Mo_spread.all (sv_dk cX12_spread) = true := by decide +kernel
set_option maxRecDepth 20000 in
theorem b_Mo_spread (Γ : sv_Ga) (res : Int32 × sv_S) (X : sv_Ok Γ ev_Mo_spread cX12_spread sv_rI res) (as : List sv_V) (σ : sv_S) (h : n_Mo_spread as σ = some res) : sv_T Γ 0 (sv_e0 2 as) [] σ := by
  unfold n_Mo_spread at h
  split at h
  · refine sv_run X d_Mo_spread (K := kk_Mo_spread) (sv_lk_all (P := fun pc (k : sv_Lo → List sv_V → sv_S → Option (Int32 × sv_S)) => ∀ lo st σ, k lo st σ = some res → sv_T Γ pc lo st σ) ?_) _ _ _ _ _ ((e_Mo_spread _ _).trans h)
    clear h
    exact fun _ h => absurd h List.not_mem_nil
  · cases h
theorem a_Mo_spread (as : List sv_V) (σ : sv_S) (x : Int32 × sv_S) (h : n_Mo_spread as σ = some x) : sv_args 2 ev_Mo_spread.2.2.2.1 as := by
  unfold n_Mo_spread at h
  split at h
  · exact ⟨Nat.le_of_ble_eq_true rfl, fun _ v hv => by
      simp only [List.mem_cons, List.not_mem_nil, or_false] at hv
      rcases hv with rfl | rfl <;> trivial⟩
  · cases h
theorem g_Mo_spread (as : List sv_V) (σ : sv_S) (x : Option sv_V × sv_S) (h : sv_gI n_Mo_spread as σ = some x) : ∃ r i as', as = sv_R r i :: as' ∧ sv_kd r i = .inl 12 := by
  obtain ⟨_, _, h, -⟩ := sv_b_some h
  unfold n_Mo_spread at h
  split at h
  · exact ⟨_, _, _, rfl, rfl⟩
  · cases h
theorem tw_29 : Cond.selects RX12 yX12_layFirsts yX12_layFirsts ∈ gw_tbl := gw_at 29 (by decide +kernel) rfl
theorem tw_30 : Cond.selects RX12 yX12_spreadOf yX12_spreadOf ∈ gw_tbl := gw_at 30 (by decide +kernel) rfl
theorem tw_1271 : Cond.methodLink RX12 178 yX12_layFirsts ∈ gw_tbl := gw_at 1271 (by decide +kernel) rfl
theorem tw_1273 : Cond.instanceMethod yX12_layFirsts ∈ gw_tbl := gw_at 1273 (by decide +kernel) rfl
theorem tw_1274 : Cond.code yX12_layFirsts cX12_layFirsts 5 none ∈ gw_tbl := gw_at 1274 (by decide +kernel) rfl
theorem tw_1275 : Cond.methodLink RX12 182 yX12_spreadOf ∈ gw_tbl := gw_at 1275 (by decide +kernel) rfl
theorem tw_1277 : Cond.instanceMethod yX12_spreadOf ∈ gw_tbl := gw_at 1277 (by decide +kernel) rfl
theorem tw_1278 : Cond.code yX12_spreadOf cX12_spreadOf 4 (some .int) ∈ gw_tbl := gw_at 1278 (by decide +kernel) rfl
set_option maxRecDepth 20000 in
theorem m_Mo_spread (l : Launch) : sv_M l yX12_spread cX12_spread 2 (some .int) (sv_gI n_Mo_spread) 6 := by
  refine sv_mI (E := ev_Mo_spread) (by decide +kernel) (ln_gen fk_12 kk_12 (sv_ns _ (fun _ => rfl) _)) rfl ?_ a_Mo_spread b_Mo_spread
  intro p e R s m args below meth c cells slots Q base ad dC dI cA n0 S hkn hR hf pc n f hcs
  refine sv_lk_all (P := fun pc (x : Nat × sv_F) => sv_cok p l e R s m args below meth c cells slots Q base ad dC dI cA true 2 n0 pc x.1 x.2) ?_ pc (n, f) hcs
  exact List.forall_mem_cons.mpr ⟨(sv_cS S hkn (m_Mo_isIn l) ⟨Nat.le_trans (by decide) hR.1, Nat.le_trans (by decide) hR.2⟩ (by decide) hf (sv_w4 tw_1098 tw_1099 tw_65 tw_1100) (by decide +kernel) (sv_dc3 d_Mo_spread (pc := 6) rfl rfl)).I,
      List.forall_mem_cons.mpr ⟨(sv_cV S hkn (m_Mo_laysBy l) ⟨Nat.le_trans (by decide) hR.1, Nat.le_trans (by decide) hR.2⟩ (by decide) hf rfl (g_Mo_laysBy) (sv_w5 tw_1244 tw_1246 tw_26 tw_65 tw_1247) (by decide +kernel) (sv_dc3 d_Mo_spread (pc := 16) rfl rfl)).V,
      List.forall_mem_cons.mpr ⟨(sv_cV S hkn (m_Mo_layFirsts l) ⟨Nat.le_trans (by decide) hR.1, Nat.le_trans (by decide) hR.2⟩ (by decide) hf rfl (g_Mo_layFirsts) (sv_w5 tw_1271 tw_1273 tw_29 tw_65 tw_1274) (by decide +kernel) (sv_dc3 d_Mo_spread (pc := 21) rfl rfl)).V,
      List.forall_mem_cons.mpr ⟨(sv_cV S hkn (m_Mo_laysBack l) ⟨Nat.le_trans (by decide) hR.1, Nat.le_trans (by decide) hR.2⟩ (by decide) hf rfl (g_Mo_laysBack) (sv_w5 tw_1248 tw_1250 tw_27 tw_65 tw_1251) (by decide +kernel) (sv_dc3 d_Mo_spread (pc := 25) rfl rfl)).V,
      List.forall_mem_cons.mpr ⟨(sv_cV S hkn (m_Mo_spreadOf l) ⟨Nat.le_trans (by decide) hR.1, Nat.le_trans (by decide) hR.2⟩ (by decide) hf rfl (g_Mo_spreadOf) (sv_w5 tw_1275 tw_1277 tw_30 tw_65 tw_1278) (by decide +kernel) (sv_dc3 d_Mo_spread (pc := 29) rfl rfl)).I,
      List.forall_mem_cons.mpr ⟨(sv_cS S hkn (m_Mo_orNone l) ⟨Nat.le_trans (by decide) hR.1, Nat.le_trans (by decide) hR.2⟩ (by decide) hf (sv_w4 tw_1260 tw_1261 tw_65 tw_1262) (by decide +kernel) (sv_dc3 d_Mo_spread (pc := 32) rfl rfl)).I,
      fun _ h => absurd h List.not_mem_nil⟩⟩⟩⟩⟩⟩
noncomputable def f_Mo_toWhom_84 (k26 : Int32 → Int32 → Int32 → Int32 → sv_S → Option (Int32 × sv_S)) (x1 : Int32) (x4 : Int32) (x6 : Int32) (σ : sv_S) : Option (Int32 × sv_S) :=
    k26 x1 x4 x6 (x4 + (1 : Int32)) σ
noncomputable def f_Mo_toWhom_26 : Nat → Int32 → Int32 → Int32 → Int32 → sv_S → Option (Int32 × sv_S)
  | 0, _, _, _, _, _ => none
  | n + 1, x1, x2, x3, x4, σ =>
    sv_g (sv_in (0 : Int32) 3086) (sv_if ((σ 31 0 ((0 : Int32).toNatClampNeg)) ≤ x4)
      (sv_b (f_Mo_orNone x2 σ) (fun v1 σ2 =>
        some (v1, σ2)))
      (sv_b (f_Mo_mayOrder x4 σ) (fun v3 σ4 =>
        sv_if (v3 = 0)
          (f_Mo_toWhom_26 n x1 x2 x3 (x4 + (1 : Int32)) σ4)
          (sv_b (f_Mo_orders x4 σ4) (fun v5 σ6 =>
            sv_b0 (f_Mo_layFirsts x1 σ6) (fun σ7 =>
              sv_b0 (f_Mo_laysBack σ7) (fun σ8 =>
                sv_b (f_Mo_spreadOf σ8) (fun v9 σ10 =>
                  sv_if (v9 < 0)
                    (f_Mo_toWhom_26 n x1 x2 x3 (x4 + (1 : Int32)) σ10)
                    (sv_if (x2 < 0)
                      (f_Mo_toWhom_84 (f_Mo_toWhom_26 n) x1 x4 v9 σ10)
                      (sv_if (x3 ≤ v9)
                        (f_Mo_toWhom_26 n x1 x2 x3 (x4 + (1 : Int32)) σ10)
                        (f_Mo_toWhom_84 (f_Mo_toWhom_26 n) x1 x4 v9 σ10)))))))))))
noncomputable def f_Mo_toWhom (a1 : Int32) (σ : sv_S) : Option (Int32 × sv_S) :=
  sv_b (f_Mo_isIn (a1.toInt64) (1 : Int64) (60 : Int64) σ) (fun v1 σ2 =>
    sv_if (v1 = 0)
      (some ((-1000000001 : Int32), σ2))
      (sv_b0 (f_Mo_laysBy σ2) (fun σ3 =>
        f_Mo_toWhom_26 sv_fu a1 (-1 : Int32) (0 : Int32) (0 : Int32) σ3)))
noncomputable def n_Mo_toWhom : List sv_V → sv_S → Option (Int32 × sv_S)
  | [.inr (.inr (some (30, 0))), .inl a1], σ => f_Mo_toWhom a1 σ
  | _, _ => none
def cd_Mo_toWhom : sv_C := [(0, (.iload_n 1, (sv_N, (1, (0, []))))), (1, (.i2l, (sv_N, (2, (0, []))))), (2, (.lconst 1, (.inr (.inl (1 : Int64)), (3, (0, []))))), (3, (.ldc2_w 185, (sv_N, (6, (0, []))))), (6, (.invokestatic 71, (sv_N, (9, (0, []))))), (9, (.ifCond .ne 6, (sv_N, (12, (15, []))))), (12, (.ldc 84, (sv_N, (14, (0, []))))), (14, (.ireturn, (sv_N, (15, (0, []))))), (15, (.aload_n 0, (sv_N, (16, (0, []))))), (16, (.invokevirtual 162, (sv_N, (19, (0, []))))), (19, (.iconst (-1), (.inl (-1 : Int32), (20, (0, []))))), (20, (.istore_n 2, (sv_N, (21, (0, []))))), (21, (.iconst 0, (.inl (0 : Int32), (22, (0, []))))), (22, (.istore_n 3, (sv_N, (23, (0, []))))), (23, (.iconst 0, (.inl (0 : Int32), (24, (0, []))))), (24, (.istore 4, (sv_N, (26, (0, []))))), (26, (.iload 4, (sv_N, (28, (0, []))))), (28, (.aload_n 0, (sv_N, (29, (0, []))))), (29, (.getfield 7, (sv_N, (32, (0, []))))), (32, (.iconst 0, (.inl (0 : Int32), (33, (0, []))))), (33, (.iaload, (sv_N, (34, (0, []))))), (34, (.if_icmp .ge 62, (sv_N, (37, (96, []))))), (37, (.aload_n 0, (sv_N, (38, (0, []))))), (38, (.iload 4, (sv_N, (40, (0, []))))), (40, (.invokevirtual 147, (sv_N, (43, (0, []))))), (43, (.ifCond .eq 47, (sv_N, (46, (90, []))))), (46, (.aload_n 0, (sv_N, (47, (0, []))))), (47, (.iload 4, (sv_N, (49, (0, []))))), (49, (.invokevirtual 150, (sv_N, (52, (0, []))))), (52, (.istore 5, (sv_N, (54, (0, []))))), (54, (.aload_n 0, (sv_N, (55, (0, []))))), (55, (.iload_n 1, (sv_N, (56, (0, []))))), (56, (.invokevirtual 178, (sv_N, (59, (0, []))))), (59, (.aload_n 0, (sv_N, (60, (0, []))))), (60, (.invokevirtual 165, (sv_N, (63, (0, []))))), (63, (.aload_n 0, (sv_N, (64, (0, []))))), (64, (.invokevirtual 182, (sv_N, (67, (0, []))))), (67, (.istore 6, (sv_N, (69, (0, []))))), (69, (.iload 6, (sv_N, (71, (0, []))))), (71, (.ifCond .lt 19, (sv_N, (74, (90, []))))), (74, (.iload_n 2, (sv_N, (75, (0, []))))), (75, (.ifCond .lt 9, (sv_N, (78, (84, []))))), (78, (.iload 6, (sv_N, (80, (0, []))))), (80, (.iload_n 3, (sv_N, (81, (0, []))))), (81, (.if_icmp .ge 9, (sv_N, (84, (90, []))))), (84, (.iload 4, (sv_N, (86, (0, []))))), (86, (.istore_n 2, (sv_N, (87, (0, []))))), (87, (.iload 6, (sv_N, (89, (0, []))))), (89, (.istore_n 3, (sv_N, (90, (0, []))))), (90, (.iinc 4 1, (.inl (1 : Int32), (93, (0, []))))), (93, (.goto (-67), (sv_N, (96, (26, []))))), (96, (.iload_n 2, (sv_N, (97, (0, []))))), (97, (.invokestatic 171, (sv_N, (100, (0, []))))), (100, (.ireturn, (sv_N, (101, (0, [])))))]
noncomputable def ev_Mo_toWhom : sv_E := (fun i => sv_lk i fl_12, (fun i => sv_lk i kc_12, (fun _ => 0, (true, (fun pc => sv_lk pc [(6, (3, .inl n_Mo_isIn)), (16, (1, .inr (.inl n_Mo_laysBy))), (40, (2, .inl n_Mo_mayOrder)), (49, (2, .inl n_Mo_orders)), (56, (2, .inr (.inl n_Mo_layFirsts))), (60, (1, .inr (.inl n_Mo_laysBack))), (64, (1, .inl n_Mo_spreadOf)), (97, (1, .inl n_Mo_orNone))], none)))))
noncomputable def kk_Mo_toWhom_84 (k26 : Int32 → Int32 → Int32 → Int32 → sv_S → Option (Int32 × sv_S)) : sv_K (Int32 × sv_S) := fun pc => sv_lk pc [(26, fun lo st σ => match lo, st with
    | [some (.inr (.inr (some (30, 0)))), some (.inl x1), some (.inl x2), some (.inl x3), some (.inl x4), _, _], [] => k26 x1 x2 x3 x4 σ
    | _, _ => none)]
set_option maxRecDepth 20000 in
theorem e_Mo_toWhom_84 (k26 : Int32 → Int32 → Int32 → Int32 → sv_S → Option (Int32 × sv_S)) (x1 : Int32) (x4 : Int32) (x6 : Int32) (z2 z3 z5 : Option sv_V) (σ : sv_S) : sv_ex ev_Mo_toWhom sv_rI (kk_Mo_toWhom_84 k26) cd_Mo_toWhom 56 84 [some (.inr (.inr (some (30, 0)))), some (.inl x1), z2, z3, some (.inl x4), z5, some (.inl x6)] [] σ = f_Mo_toWhom_84 k26 x1 x4 x6 σ := by
  unfold f_Mo_toWhom_84
  delta ev_Mo_toWhom kk_Mo_toWhom_84 n_Mo_isIn n_Mo_laysBy n_Mo_mayOrder n_Mo_orders n_Mo_layFirsts n_Mo_laysBack n_Mo_spreadOf n_Mo_orNone
  generalize f_Mo_isIn = c0
  generalize f_Mo_laysBy = c1
  generalize f_Mo_mayOrder = c2
  generalize f_Mo_orders = c3
  generalize f_Mo_layFirsts = c4
  generalize f_Mo_laysBack = c5
  generalize f_Mo_spreadOf = c6
  generalize f_Mo_orNone = c7
  generalize f_Mo_toWhom_26 = c8
  rfl
noncomputable def kk_Mo_toWhom_26 (n : Nat) : sv_K (Int32 × sv_S) := fun pc => sv_lk pc [(26, fun lo st σ => match lo, st with
    | [some (.inr (.inr (some (30, 0)))), some (.inl x1), some (.inl x2), some (.inl x3), some (.inl x4), _, _], [] => f_Mo_toWhom_26 n x1 x2 x3 x4 σ
    | _, _ => none),
  (84, fun lo st σ => match lo, st with
    | [some (.inr (.inr (some (30, 0)))), some (.inl x1), _, _, some (.inl x4), _, some (.inl x6)], [] => f_Mo_toWhom_84 (f_Mo_toWhom_26 n) x1 x4 x6 σ
    | _, _ => none)]
set_option maxRecDepth 20000 in
theorem e_Mo_toWhom_26 (n : Nat) (x1 : Int32) (x2 : Int32) (x3 : Int32) (x4 : Int32) (z5 z6 : Option sv_V) (σ : sv_S) : sv_ex ev_Mo_toWhom sv_rI (kk_Mo_toWhom_26 n) cd_Mo_toWhom 56 26 [some (.inr (.inr (some (30, 0)))), some (.inl x1), some (.inl x2), some (.inl x3), some (.inl x4), z5, z6] [] σ = f_Mo_toWhom_26 (n + 1) x1 x2 x3 x4 σ := by
  rw [f_Mo_toWhom_26.eq_2]
  delta ev_Mo_toWhom kk_Mo_toWhom_26 n_Mo_isIn n_Mo_laysBy n_Mo_mayOrder n_Mo_orders n_Mo_layFirsts n_Mo_laysBack n_Mo_spreadOf n_Mo_orNone
  generalize f_Mo_isIn = c0
  generalize f_Mo_laysBy = c1
  generalize f_Mo_mayOrder = c2
  generalize f_Mo_orders = c3
  generalize f_Mo_layFirsts = c4
  generalize f_Mo_laysBack = c5
  generalize f_Mo_spreadOf = c6
  generalize f_Mo_orNone = c7
  generalize f_Mo_toWhom_26 = c8
  generalize f_Mo_toWhom_84 = c9
  rfl
noncomputable def kk_Mo_toWhom : sv_K (Int32 × sv_S) := fun pc => sv_lk pc [(26, fun lo st σ => match lo, st with
    | [some (.inr (.inr (some (30, 0)))), some (.inl x1), some (.inl x2), some (.inl x3), some (.inl x4), _, _], [] => f_Mo_toWhom_26 sv_fu x1 x2 x3 x4 σ
    | _, _ => none)]
set_option maxRecDepth 20000 in
theorem e_Mo_toWhom (a1 : Int32) (σ : sv_S) : sv_ex ev_Mo_toWhom sv_rI kk_Mo_toWhom cd_Mo_toWhom 56 0 [some (.inr (.inr (some (30, 0)))), some (.inl a1), none, none, none, none, none] [] σ = f_Mo_toWhom a1 σ := by
  unfold f_Mo_toWhom
  delta ev_Mo_toWhom kk_Mo_toWhom n_Mo_isIn n_Mo_laysBy n_Mo_mayOrder n_Mo_orders n_Mo_layFirsts n_Mo_laysBack n_Mo_spreadOf n_Mo_orNone
  generalize f_Mo_isIn = c0
  generalize f_Mo_laysBy = c1
  generalize f_Mo_mayOrder = c2
  generalize f_Mo_orders = c3
  generalize f_Mo_layFirsts = c4
  generalize f_Mo_laysBack = c5
  generalize f_Mo_spreadOf = c6
  generalize f_Mo_orNone = c7
  generalize f_Mo_toWhom_26 = c8
  rfl
theorem d_Mo_toWhom : cd_Mo_toWhom.all (sv_dk cX12_toWhom) = true := by decide +kernel
set_option maxRecDepth 20000 in
theorem w_Mo_toWhom_84 {Γ : sv_Ga} {res : Int32 × sv_S} (X : sv_Ok Γ ev_Mo_toWhom cX12_toWhom sv_rI res) (k26 : Int32 → Int32 → Int32 → Int32 → sv_S → Option (Int32 × sv_S)) (h26 : ∀ (x1 : Int32) (x2 : Int32) (x3 : Int32) (x4 : Int32) (z5 z6 : Option sv_V) (σ : sv_S), k26 x1 x2 x3 x4 σ = some res → sv_T Γ 26 [some (.inr (.inr (some (30, 0)))), some (.inl x1), some (.inl x2), some (.inl x3), some (.inl x4), z5, z6] [] σ) : ∀ (x1 : Int32) (x4 : Int32) (x6 : Int32) (z2 z3 z5 : Option sv_V) (σ : sv_S), f_Mo_toWhom_84 k26 x1 x4 x6 σ = some res → sv_T Γ 84 [some (.inr (.inr (some (30, 0)))), some (.inl x1), z2, z3, some (.inl x4), z5, some (.inl x6)] [] σ := by
  intro x1 x4 x6 z2 z3 z5 σ h
  refine sv_run X d_Mo_toWhom (K := kk_Mo_toWhom_84 k26) (sv_lk_all (P := fun pc (k : sv_Lo → List sv_V → sv_S → Option (Int32 × sv_S)) => ∀ lo st σ, k lo st σ = some res → sv_T Γ pc lo st σ) ?_) _ _ _ _ _ ((e_Mo_toWhom_84 k26 x1 x4 x6 z2 z3 z5 σ).trans h)
  clear h
  refine List.forall_mem_cons.mpr ⟨fun lo st σ h => ?_, fun _ h => absurd h List.not_mem_nil⟩
  · dsimp only at h
    split at h
    · exact h26 _ _ _ _ _ _ _ h
    · cases h

set_option maxRecDepth 20000 in
theorem w_Mo_toWhom_26 {Γ : sv_Ga} {res : Int32 × sv_S} (X : sv_Ok Γ ev_Mo_toWhom cX12_toWhom sv_rI res) : ∀ (n : Nat) (x1 : Int32) (x2 : Int32) (x3 : Int32) (x4 : Int32) (z5 z6 : Option sv_V) (σ : sv_S), f_Mo_toWhom_26 n x1 x2 x3 x4 σ = some res → sv_T Γ 26 [some (.inr (.inr (some (30, 0)))), some (.inl x1), some (.inl x2), some (.inl x3), some (.inl x4), z5, z6] [] σ := by
  intro n
  induction n with
  | zero =>
    intro x1 x2 x3 x4 z5 z6 σ h
    rw [f_Mo_toWhom_26.eq_1] at h
    cases h
  | succ n ih =>
    intro x1 x2 x3 x4 z5 z6 σ h
    refine sv_run X d_Mo_toWhom (K := kk_Mo_toWhom_26 n) (sv_lk_all (P := fun pc (k : sv_Lo → List sv_V → sv_S → Option (Int32 × sv_S)) => ∀ lo st σ, k lo st σ = some res → sv_T Γ pc lo st σ) ?_) _ _ _ _ _ ((e_Mo_toWhom_26 n x1 x2 x3 x4 z5 z6 σ).trans h)
    clear h
    refine List.forall_mem_cons.mpr ⟨fun lo st σ h => ?_, List.forall_mem_cons.mpr ⟨fun lo st σ h => ?_, fun _ h => absurd h List.not_mem_nil⟩⟩
    · dsimp only at h
      split at h
      · exact ih _ _ _ _ _ _ _ h
      · cases h
    · dsimp only at h
      split at h
      · exact w_Mo_toWhom_84 X _ ih _ _ _ _ _ _ _ h
      · cases h

set_option maxRecDepth 20000 in
theorem b_Mo_toWhom (Γ : sv_Ga) (res : Int32 × sv_S) (X : sv_Ok Γ ev_Mo_toWhom cX12_toWhom sv_rI res) (as : List sv_V) (σ : sv_S) (h : n_Mo_toWhom as σ = some res) : sv_T Γ 0 (sv_e0 7 as) [] σ := by
  unfold n_Mo_toWhom at h
  split at h
  · refine sv_run X d_Mo_toWhom (K := kk_Mo_toWhom) (sv_lk_all (P := fun pc (k : sv_Lo → List sv_V → sv_S → Option (Int32 × sv_S)) => ∀ lo st σ, k lo st σ = some res → sv_T Γ pc lo st σ) ?_) _ _ _ _ _ ((e_Mo_toWhom _ _).trans h)
    clear h
    refine List.forall_mem_cons.mpr ⟨fun lo st σ h => ?_, fun _ h => absurd h List.not_mem_nil⟩
    · dsimp only at h
      split at h
      · exact w_Mo_toWhom_26 X _ _ _ _ _ _ _ _ h
      · cases h
  · cases h
theorem a_Mo_toWhom (as : List sv_V) (σ : sv_S) (x : Int32 × sv_S) (h : n_Mo_toWhom as σ = some x) : sv_args 7 ev_Mo_toWhom.2.2.2.1 as := by
  unfold n_Mo_toWhom at h
  split at h
  · exact ⟨Nat.le_of_ble_eq_true rfl, fun _ v hv => by
      simp only [List.mem_cons, List.not_mem_nil, or_false] at hv
      rcases hv with rfl | rfl <;> trivial⟩
  · cases h
theorem g_Mo_toWhom (as : List sv_V) (σ : sv_S) (x : Option sv_V × sv_S) (h : sv_gI n_Mo_toWhom as σ = some x) : ∃ r i as', as = sv_R r i :: as' ∧ sv_kd r i = .inl 12 := by
  obtain ⟨_, _, h, -⟩ := sv_b_some h
  unfold n_Mo_toWhom at h
  split at h
  · exact ⟨_, _, _, rfl, rfl⟩
  · cases h

set_option maxRecDepth 20000 in
theorem m_Mo_toWhom (l : Launch) : sv_M l yX12_toWhom cX12_toWhom 7 (some .int) (sv_gI n_Mo_toWhom) 6 := by
  refine sv_mI (E := ev_Mo_toWhom) (by decide +kernel) (ln_gen fk_12 kk_12 (sv_ns _ (fun _ => rfl) _)) rfl ?_ a_Mo_toWhom b_Mo_toWhom
  intro p e R s m args below meth c cells slots Q base ad dC dI cA n0 S hkn hR hf pc n f hcs
  refine sv_lk_all (P := fun pc (x : Nat × sv_F) => sv_cok p l e R s m args below meth c cells slots Q base ad dC dI cA true 7 n0 pc x.1 x.2) ?_ pc (n, f) hcs
  exact List.forall_mem_cons.mpr ⟨(sv_cS S hkn (m_Mo_isIn l) ⟨Nat.le_trans (by decide) hR.1, Nat.le_trans (by decide) hR.2⟩ (by decide) hf (sv_w4 tw_1098 tw_1099 tw_65 tw_1100) (by decide +kernel) (sv_dc3 d_Mo_toWhom (pc := 6) rfl rfl)).I,
      List.forall_mem_cons.mpr ⟨(sv_cV S hkn (m_Mo_laysBy l) ⟨Nat.le_trans (by decide) hR.1, Nat.le_trans (by decide) hR.2⟩ (by decide) hf rfl (g_Mo_laysBy) (sv_w5 tw_1244 tw_1246 tw_26 tw_65 tw_1247) (by decide +kernel) (sv_dc3 d_Mo_toWhom (pc := 16) rfl rfl)).V,
      List.forall_mem_cons.mpr ⟨(sv_cV S hkn (m_Mo_mayOrder l) ⟨Nat.le_trans (by decide) hR.1, Nat.le_trans (by decide) hR.2⟩ (by decide) hf rfl (g_Mo_mayOrder) (sv_w5 tw_1215 tw_1217 tw_23 tw_65 tw_1218) (by decide +kernel) (sv_dc3 d_Mo_toWhom (pc := 40) rfl rfl)).I,
      List.forall_mem_cons.mpr ⟨(sv_cV S hkn (m_Mo_orders l) ⟨Nat.le_trans (by decide) hR.1, Nat.le_trans (by decide) hR.2⟩ (by decide) hf rfl (g_Mo_orders) (sv_w5 tw_1219 tw_1221 tw_24 tw_65 tw_1222) (by decide +kernel) (sv_dc3 d_Mo_toWhom (pc := 49) rfl rfl)).I,
      List.forall_mem_cons.mpr ⟨(sv_cV S hkn (m_Mo_layFirsts l) ⟨Nat.le_trans (by decide) hR.1, Nat.le_trans (by decide) hR.2⟩ (by decide) hf rfl (g_Mo_layFirsts) (sv_w5 tw_1271 tw_1273 tw_29 tw_65 tw_1274) (by decide +kernel) (sv_dc3 d_Mo_toWhom (pc := 56) rfl rfl)).V,
      List.forall_mem_cons.mpr ⟨(sv_cV S hkn (m_Mo_laysBack l) ⟨Nat.le_trans (by decide) hR.1, Nat.le_trans (by decide) hR.2⟩ (by decide) hf rfl (g_Mo_laysBack) (sv_w5 tw_1248 tw_1250 tw_27 tw_65 tw_1251) (by decide +kernel) (sv_dc3 d_Mo_toWhom (pc := 60) rfl rfl)).V,
      List.forall_mem_cons.mpr ⟨(sv_cV S hkn (m_Mo_spreadOf l) ⟨Nat.le_trans (by decide) hR.1, Nat.le_trans (by decide) hR.2⟩ (by decide) hf rfl (g_Mo_spreadOf) (sv_w5 tw_1275 tw_1277 tw_30 tw_65 tw_1278) (by decide +kernel) (sv_dc3 d_Mo_toWhom (pc := 64) rfl rfl)).I,
      List.forall_mem_cons.mpr ⟨(sv_cS S hkn (m_Mo_orNone l) ⟨Nat.le_trans (by decide) hR.1, Nat.le_trans (by decide) hR.2⟩ (by decide) hf (sv_w4 tw_1260 tw_1261 tw_65 tw_1262) (by decide +kernel) (sv_dc3 d_Mo_toWhom (pc := 97) rfl rfl)).I,
      fun _ h => absurd h List.not_mem_nil⟩⟩⟩⟩⟩⟩⟩⟩
noncomputable def f_Mo_mend_68 (k54 : Int32 → Int32 → Int32 → Int32 → Int32 → Int32 → sv_S → Option (Int32 × sv_S)) : Nat → Int32 → Int32 → Int32 → Int32 → Int32 → Int32 → Int32 → sv_S → Option (Int32 × sv_S)
  | 0, _, _, _, _, _, _, _, _ => none
  | n + 1, x1, x2, x3, x4, x5, x6, x7, σ =>
    sv_if ((9 : Int32) < x7)
      (k54 x1 x2 x3 x4 x5 (x6 + (1 : Int32)) σ)
      (sv_b0 (f_Mo_sets x6 (1 : Int32) x7 σ) (fun σ1 =>
        sv_b0 (f_Mo_layFirsts x1 σ1) (fun σ2 =>
          sv_b0 (f_Mo_laysBack σ2) (fun σ3 =>
            sv_if ((σ3 30 0 15) ≤ x3)
              (f_Mo_mend_68 k54 n x1 x2 x3 x4 x5 x6 (x7 + (1 : Int32)) σ3)
              (f_Mo_mend_68 k54 n x1 x2 (σ3 30 0 15) x6 x7 x6 (x7 + (1 : Int32)) σ3)))))
noncomputable def f_Mo_mend_54 : Nat → Int32 → Int32 → Int32 → Int32 → Int32 → Int32 → sv_S → Option (Int32 × sv_S)
  | 0, _, _, _, _, _, _, _ => none
  | n + 1, x1, x2, x3, x4, x5, x6, σ =>
    sv_g (sv_in (0 : Int32) 3086) (sv_if ((σ 31 0 ((0 : Int32).toNatClampNeg)) ≤ x6)
      (sv_if (0 ≤ x4)
        (sv_if (x2 = 0)
          (some (x4, σ))
          (sv_if (x2 = (1 : Int32))
            (some (x5, σ))
            (some (x3, σ))))
        (some ((-1000000005 : Int32), σ)))
      (f_Mo_mend_68 (f_Mo_mend_54 n) sv_fu x1 x2 x3 x4 x5 x6 (1 : Int32) σ))
noncomputable def f_Mo_mend (a1 : Int32) (a2 : Int32) (σ : sv_S) : Option (Int32 × sv_S) :=
  sv_b (f_Mo_isIn (a1.toInt64) (1 : Int64) (40 : Int64) σ) (fun v1 σ2 =>
    sv_if (v1 = 0)
      (some ((-1000000001 : Int32), σ2))
      (sv_b (f_Mo_isIn (a2.toInt64) (0 : Int64) (2 : Int64) σ2) (fun v3 σ4 =>
        sv_if (v3 = 0)
          (some ((-1000000001 : Int32), σ4))
          (sv_b0 (f_Mo_laysBy σ4) (fun σ5 =>
            sv_b0 (f_Mo_layFirsts a1 σ5) (fun σ6 =>
              sv_b0 (f_Mo_laysBack σ6) (fun σ7 =>
                f_Mo_mend_54 sv_fu a1 a2 (σ7 30 0 15) (-1 : Int32) (0 : Int32) (0 : Int32) σ7)))))))
noncomputable def n_Mo_mend : List sv_V → sv_S → Option (Int32 × sv_S)
  | [.inr (.inr (some (30, 0))), .inl a1, .inl a2], σ => f_Mo_mend a1 a2 σ
  | _, _ => none
def cd_Mo_mend : sv_C := [(0, (.iload_n 1, (sv_N, (1, (0, []))))), (1, (.i2l, (sv_N, (2, (0, []))))), (2, (.lconst 1, (.inr (.inl (1 : Int64)), (3, (0, []))))), (3, (.ldc2_w 187, (sv_N, (6, (0, []))))), (6, (.invokestatic 71, (sv_N, (9, (0, []))))), (9, (.ifCond .eq 15, (sv_N, (12, (24, []))))), (12, (.iload_n 2, (sv_N, (13, (0, []))))), (13, (.i2l, (sv_N, (14, (0, []))))), (14, (.lconst 0, (.inr (.inl (0 : Int64)), (15, (0, []))))), (15, (.ldc2_w 160, (sv_N, (18, (0, []))))), (18, (.invokestatic 71, (sv_N, (21, (0, []))))), (21, (.ifCond .ne 6, (sv_N, (24, (27, []))))), (24, (.ldc 84, (sv_N, (26, (0, []))))), (26, (.ireturn, (sv_N, (27, (0, []))))), (27, (.aload_n 0, (sv_N, (28, (0, []))))), (28, (.invokevirtual 162, (sv_N, (31, (0, []))))), (31, (.aload_n 0, (sv_N, (32, (0, []))))), (32, (.iload_n 1, (sv_N, (33, (0, []))))), (33, (.invokevirtual 178, (sv_N, (36, (0, []))))), (36, (.aload_n 0, (sv_N, (37, (0, []))))), (37, (.invokevirtual 165, (sv_N, (40, (0, []))))), (40, (.aload_n 0, (sv_N, (41, (0, []))))), (41, (.getfield 174, (sv_N, (44, (0, []))))), (44, (.istore_n 3, (sv_N, (45, (0, []))))), (45, (.iconst (-1), (.inl (-1 : Int32), (46, (0, []))))), (46, (.istore 4, (sv_N, (48, (0, []))))), (48, (.iconst 0, (.inl (0 : Int32), (49, (0, []))))), (49, (.istore 5, (sv_N, (51, (0, []))))), (51, (.iconst 0, (.inl (0 : Int32), (52, (0, []))))), (52, (.istore 6, (sv_N, (54, (0, []))))), (54, (.iload 6, (sv_N, (56, (0, []))))), (56, (.aload_n 0, (sv_N, (57, (0, []))))), (57, (.getfield 7, (sv_N, (60, (0, []))))), (60, (.iconst 0, (.inl (0 : Int32), (61, (0, []))))), (61, (.iaload, (sv_N, (62, (0, []))))), (62, (.if_icmp .ge 64, (sv_N, (65, (126, []))))), (65, (.iconst 1, (.inl (1 : Int32), (66, (0, []))))), (66, (.istore 7, (sv_N, (68, (0, []))))), (68, (.iload 7, (sv_N, (70, (0, []))))), (70, (.bipush 9, (.inl (9 : Int32), (72, (0, []))))), (72, (.if_icmp .gt 48, (sv_N, (75, (120, []))))), (75, (.aload_n 0, (sv_N, (76, (0, []))))), (76, (.iload 6, (sv_N, (78, (0, []))))), (78, (.iconst 1, (.inl (1 : Int32), (79, (0, []))))), (79, (.iload 7, (sv_N, (81, (0, []))))), (81, (.invokevirtual 76, (sv_N, (84, (0, []))))), (84, (.aload_n 0, (sv_N, (85, (0, []))))), (85, (.iload_n 1, (sv_N, (86, (0, []))))), (86, (.invokevirtual 178, (sv_N, (89, (0, []))))), (89, (.aload_n 0, (sv_N, (90, (0, []))))), (90, (.invokevirtual 165, (sv_N, (93, (0, []))))), (93, (.aload_n 0, (sv_N, (94, (0, []))))), (94, (.getfield 174, (sv_N, (97, (0, []))))), (97, (.iload_n 3, (sv_N, (98, (0, []))))), (98, (.if_icmp .le 16, (sv_N, (101, (114, []))))), (101, (.aload_n 0, (sv_N, (102, (0, []))))), (102, (.getfield 174, (sv_N, (105, (0, []))))), (105, (.istore_n 3, (sv_N, (106, (0, []))))), (106, (.iload 6, (sv_N, (108, (0, []))))), (108, (.istore 4, (sv_N, (110, (0, []))))), (110, (.iload 7, (sv_N, (112, (0, []))))), (112, (.istore 5, (sv_N, (114, (0, []))))), (114, (.iinc 7 1, (.inl (1 : Int32), (117, (0, []))))), (117, (.goto (-49), (sv_N, (120, (68, []))))), (120, (.iinc 6 1, (.inl (1 : Int32), (123, (0, []))))), (123, (.goto (-69), (sv_N, (126, (54, []))))), (126, (.iload 4, (sv_N, (128, (0, []))))), (128, (.ifCond .ge 8, (sv_N, (131, (136, []))))), (131, (.ldc 70, (sv_N, (133, (0, []))))), (133, (.goto 23, (sv_N, (136, (156, []))))), (136, (.iload_n 2, (sv_N, (137, (0, []))))), (137, (.ifCond .ne 8, (sv_N, (140, (145, []))))), (140, (.iload 4, (sv_N, (142, (0, []))))), (142, (.goto 14, (sv_N, (145, (156, []))))), (145, (.iload_n 2, (sv_N, (146, (0, []))))), (146, (.iconst 1, (.inl (1 : Int32), (147, (0, []))))), (147, (.if_icmp .ne 8, (sv_N, (150, (155, []))))), (150, (.iload 5, (sv_N, (152, (0, []))))), (152, (.goto 4, (sv_N, (155, (156, []))))), (155, (.iload_n 3, (sv_N, (156, (0, []))))), (156, (.ireturn, (sv_N, (157, (0, [])))))]
noncomputable def ev_Mo_mend : sv_E := (fun i => sv_lk i fl_12, (fun i => sv_lk i kc_12, (fun _ => 0, (true, (fun pc => sv_lk pc [(6, (3, .inl n_Mo_isIn)), (18, (3, .inl n_Mo_isIn)), (28, (1, .inr (.inl n_Mo_laysBy))), (33, (2, .inr (.inl n_Mo_layFirsts))), (37, (1, .inr (.inl n_Mo_laysBack))), (81, (4, .inr (.inl n_Mo_sets))), (86, (2, .inr (.inl n_Mo_layFirsts))), (90, (1, .inr (.inl n_Mo_laysBack)))], none)))))
noncomputable def kk_Mo_mend_68 (k54 : Int32 → Int32 → Int32 → Int32 → Int32 → Int32 → sv_S → Option (Int32 × sv_S)) (n : Nat) : sv_K (Int32 × sv_S) := fun pc => sv_lk pc [(54, fun lo st σ => match lo, st with
    | [some (.inr (.inr (some (30, 0)))), some (.inl x1), some (.inl x2), some (.inl x3), some (.inl x4), some (.inl x5), some (.inl x6), _], [] => k54 x1 x2 x3 x4 x5 x6 σ
    | _, _ => none),
  (68, fun lo st σ => match lo, st with
    | [some (.inr (.inr (some (30, 0)))), some (.inl x1), some (.inl x2), some (.inl x3), some (.inl x4), some (.inl x5), some (.inl x6), some (.inl x7)], [] => f_Mo_mend_68 k54 n x1 x2 x3 x4 x5 x6 x7 σ
    | _, _ => none)]
set_option maxRecDepth 20000 in
theorem e_Mo_mend_68 (k54 : Int32 → Int32 → Int32 → Int32 → Int32 → Int32 → sv_S → Option (Int32 × sv_S)) (n : Nat) (x1 : Int32) (x2 : Int32) (x3 : Int32) (x4 : Int32) (x5 : Int32) (x6 : Int32) (x7 : Int32) (σ : sv_S) : sv_ex ev_Mo_mend sv_rI (kk_Mo_mend_68 k54 n) cd_Mo_mend 83 68 [some (.inr (.inr (some (30, 0)))), some (.inl x1), some (.inl x2), some (.inl x3), some (.inl x4), some (.inl x5), some (.inl x6), some (.inl x7)] [] σ = f_Mo_mend_68 k54 (n + 1) x1 x2 x3 x4 x5 x6 x7 σ := by
  rw [f_Mo_mend_68.eq_2]
  delta ev_Mo_mend kk_Mo_mend_68 n_Mo_isIn n_Mo_laysBy n_Mo_layFirsts n_Mo_laysBack n_Mo_sets
  generalize f_Mo_isIn = c0
  generalize f_Mo_laysBy = c1
  generalize f_Mo_layFirsts = c2
  generalize f_Mo_laysBack = c3
  generalize f_Mo_sets = c4
  generalize f_Mo_mend_54 = c5
  generalize f_Mo_mend_68 = c6
  rfl
noncomputable def kk_Mo_mend_54 (n : Nat) : sv_K (Int32 × sv_S) := fun pc => sv_lk pc [(68, fun lo st σ => match lo, st with
    | [some (.inr (.inr (some (30, 0)))), some (.inl x1), some (.inl x2), some (.inl x3), some (.inl x4), some (.inl x5), some (.inl x6), some (.inl x7)], [] => f_Mo_mend_68 (f_Mo_mend_54 n) sv_fu x1 x2 x3 x4 x5 x6 x7 σ
    | _, _ => none)]
set_option maxRecDepth 20000 in
theorem e_Mo_mend_54 (n : Nat) (x1 : Int32) (x2 : Int32) (x3 : Int32) (x4 : Int32) (x5 : Int32) (x6 : Int32) (z7 : Option sv_V) (σ : sv_S) : sv_ex ev_Mo_mend sv_rI (kk_Mo_mend_54 n) cd_Mo_mend 83 54 [some (.inr (.inr (some (30, 0)))), some (.inl x1), some (.inl x2), some (.inl x3), some (.inl x4), some (.inl x5), some (.inl x6), z7] [] σ = f_Mo_mend_54 (n + 1) x1 x2 x3 x4 x5 x6 σ := by
  rw [f_Mo_mend_54.eq_2]
  delta ev_Mo_mend kk_Mo_mend_54 n_Mo_isIn n_Mo_laysBy n_Mo_layFirsts n_Mo_laysBack n_Mo_sets
  generalize f_Mo_isIn = c0
  generalize f_Mo_laysBy = c1
  generalize f_Mo_layFirsts = c2
  generalize f_Mo_laysBack = c3
  generalize f_Mo_sets = c4
  generalize f_Mo_mend_68 = c5
  generalize f_Mo_mend_54 = c6
  rfl
noncomputable def kk_Mo_mend : sv_K (Int32 × sv_S) := fun pc => sv_lk pc [(54, fun lo st σ => match lo, st with
    | [some (.inr (.inr (some (30, 0)))), some (.inl x1), some (.inl x2), some (.inl x3), some (.inl x4), some (.inl x5), some (.inl x6), _], [] => f_Mo_mend_54 sv_fu x1 x2 x3 x4 x5 x6 σ
    | _, _ => none)]
set_option maxRecDepth 20000 in
theorem e_Mo_mend (a1 : Int32) (a2 : Int32) (σ : sv_S) : sv_ex ev_Mo_mend sv_rI kk_Mo_mend cd_Mo_mend 83 0 [some (.inr (.inr (some (30, 0)))), some (.inl a1), some (.inl a2), none, none, none, none, none] [] σ = f_Mo_mend a1 a2 σ := by
  unfold f_Mo_mend
  delta ev_Mo_mend kk_Mo_mend n_Mo_isIn n_Mo_laysBy n_Mo_layFirsts n_Mo_laysBack n_Mo_sets
  generalize f_Mo_isIn = c0
  generalize f_Mo_laysBy = c1
  generalize f_Mo_layFirsts = c2
  generalize f_Mo_laysBack = c3
  generalize f_Mo_sets = c4
  generalize f_Mo_mend_54 = c5
  rfl
theorem d_Mo_mend : cd_Mo_mend.all (sv_dk cX12_mend) = true := by decide +kernel
set_option maxRecDepth 20000 in
theorem w_Mo_mend_68 {Γ : sv_Ga} {res : Int32 × sv_S} (X : sv_Ok Γ ev_Mo_mend cX12_mend sv_rI res) (k54 : Int32 → Int32 → Int32 → Int32 → Int32 → Int32 → sv_S → Option (Int32 × sv_S)) (h54 : ∀ (x1 : Int32) (x2 : Int32) (x3 : Int32) (x4 : Int32) (x5 : Int32) (x6 : Int32) (z7 : Option sv_V) (σ : sv_S), k54 x1 x2 x3 x4 x5 x6 σ = some res → sv_T Γ 54 [some (.inr (.inr (some (30, 0)))), some (.inl x1), some (.inl x2), some (.inl x3), some (.inl x4), some (.inl x5), some (.inl x6), z7] [] σ) : ∀ (n : Nat) (x1 : Int32) (x2 : Int32) (x3 : Int32) (x4 : Int32) (x5 : Int32) (x6 : Int32) (x7 : Int32) (σ : sv_S), f_Mo_mend_68 k54 n x1 x2 x3 x4 x5 x6 x7 σ = some res → sv_T Γ 68 [some (.inr (.inr (some (30, 0)))), some (.inl x1), some (.inl x2), some (.inl x3), some (.inl x4), some (.inl x5), some (.inl x6), some (.inl x7)] [] σ := by
  intro n
  induction n with
  | zero =>
    intro x1 x2 x3 x4 x5 x6 x7 σ h
    rw [f_Mo_mend_68.eq_1] at h
    cases h
  | succ n ih =>
    intro x1 x2 x3 x4 x5 x6 x7 σ h
    refine sv_run X d_Mo_mend (K := kk_Mo_mend_68 k54 n) (sv_lk_all (P := fun pc (k : sv_Lo → List sv_V → sv_S → Option (Int32 × sv_S)) => ∀ lo st σ, k lo st σ = some res → sv_T Γ pc lo st σ) ?_) _ _ _ _ _ ((e_Mo_mend_68 k54 n x1 x2 x3 x4 x5 x6 x7 σ).trans h)
    clear h
    refine List.forall_mem_cons.mpr ⟨fun lo st σ h => ?_, List.forall_mem_cons.mpr ⟨fun lo st σ h => ?_, fun _ h => absurd h List.not_mem_nil⟩⟩
    · dsimp only at h
      split at h
      · exact h54 _ _ _ _ _ _ _ _ h
      · cases h
    · dsimp only at h
      split at h
      · exact ih _ _ _ _ _ _ _ _ h
      · cases h

set_option maxRecDepth 20000 in
theorem w_Mo_mend_54 {Γ : sv_Ga} {res : Int32 × sv_S} (X : sv_Ok Γ ev_Mo_mend cX12_mend sv_rI res) : ∀ (n : Nat) (x1 : Int32) (x2 : Int32) (x3 : Int32) (x4 : Int32) (x5 : Int32) (x6 : Int32) (z7 : Option sv_V) (σ : sv_S), f_Mo_mend_54 n x1 x2 x3 x4 x5 x6 σ = some res → sv_T Γ 54 [some (.inr (.inr (some (30, 0)))), some (.inl x1), some (.inl x2), some (.inl x3), some (.inl x4), some (.inl x5), some (.inl x6), z7] [] σ := by
  intro n
  induction n with
  | zero =>
    intro x1 x2 x3 x4 x5 x6 z7 σ h
    rw [f_Mo_mend_54.eq_1] at h
    cases h
  | succ n ih =>
    intro x1 x2 x3 x4 x5 x6 z7 σ h
    refine sv_run X d_Mo_mend (K := kk_Mo_mend_54 n) (sv_lk_all (P := fun pc (k : sv_Lo → List sv_V → sv_S → Option (Int32 × sv_S)) => ∀ lo st σ, k lo st σ = some res → sv_T Γ pc lo st σ) ?_) _ _ _ _ _ ((e_Mo_mend_54 n x1 x2 x3 x4 x5 x6 z7 σ).trans h)
    clear h
    refine List.forall_mem_cons.mpr ⟨fun lo st σ h => ?_, fun _ h => absurd h List.not_mem_nil⟩
    · dsimp only at h
      split at h
      · exact w_Mo_mend_68 X _ ih _ _ _ _ _ _ _ _ _ h
      · cases h

set_option maxRecDepth 20000 in
theorem b_Mo_mend (Γ : sv_Ga) (res : Int32 × sv_S) (X : sv_Ok Γ ev_Mo_mend cX12_mend sv_rI res) (as : List sv_V) (σ : sv_S) (h : n_Mo_mend as σ = some res) : sv_T Γ 0 (sv_e0 8 as) [] σ := by
  unfold n_Mo_mend at h
  split at h
  · refine sv_run X d_Mo_mend (K := kk_Mo_mend) (sv_lk_all (P := fun pc (k : sv_Lo → List sv_V → sv_S → Option (Int32 × sv_S)) => ∀ lo st σ, k lo st σ = some res → sv_T Γ pc lo st σ) ?_) _ _ _ _ _ ((e_Mo_mend _ _ _).trans h)
    clear h
    refine List.forall_mem_cons.mpr ⟨fun lo st σ h => ?_, fun _ h => absurd h List.not_mem_nil⟩
    · dsimp only at h
      split at h
      · exact w_Mo_mend_54 X _ _ _ _ _ _ _ _ _ h
      · cases h
  · cases h
theorem a_Mo_mend (as : List sv_V) (σ : sv_S) (x : Int32 × sv_S) (h : n_Mo_mend as σ = some x) : sv_args 8 ev_Mo_mend.2.2.2.1 as := by
  unfold n_Mo_mend at h
  split at h
  · exact ⟨Nat.le_of_ble_eq_true rfl, fun _ v hv => by
      simp only [List.mem_cons, List.not_mem_nil, or_false] at hv
      rcases hv with rfl | rfl | rfl <;> trivial⟩
  · cases h
theorem g_Mo_mend (as : List sv_V) (σ : sv_S) (x : Option sv_V × sv_S) (h : sv_gI n_Mo_mend as σ = some x) : ∃ r i as', as = sv_R r i :: as' ∧ sv_kd r i = .inl 12 := by
  obtain ⟨_, _, h, -⟩ := sv_b_some h
  unfold n_Mo_mend at h
  split at h
  · exact ⟨_, _, _, rfl, rfl⟩
  · cases h

set_option maxRecDepth 20000 in
theorem m_Mo_mend (l : Launch) : sv_M l yX12_mend cX12_mend 8 (some .int) (sv_gI n_Mo_mend) 6 := by
  refine sv_mI (E := ev_Mo_mend) (by decide +kernel) (ln_gen fk_12 kk_12 (sv_ns _ (fun _ => rfl) _)) rfl ?_ a_Mo_mend b_Mo_mend
  intro p e R s m args below meth c cells slots Q base ad dC dI cA n0 S hkn hR hf pc n f hcs
  refine sv_lk_all (P := fun pc (x : Nat × sv_F) => sv_cok p l e R s m args below meth c cells slots Q base ad dC dI cA true 8 n0 pc x.1 x.2) ?_ pc (n, f) hcs
  exact List.forall_mem_cons.mpr ⟨(sv_cS S hkn (m_Mo_isIn l) ⟨Nat.le_trans (by decide) hR.1, Nat.le_trans (by decide) hR.2⟩ (by decide) hf (sv_w4 tw_1098 tw_1099 tw_65 tw_1100) (by decide +kernel) (sv_dc3 d_Mo_mend (pc := 6) rfl rfl)).I,
      List.forall_mem_cons.mpr ⟨(sv_cS S hkn (m_Mo_isIn l) ⟨Nat.le_trans (by decide) hR.1, Nat.le_trans (by decide) hR.2⟩ (by decide) hf (sv_w4 tw_1098 tw_1099 tw_65 tw_1100) (by decide +kernel) (sv_dc3 d_Mo_mend (pc := 18) rfl rfl)).I,
      List.forall_mem_cons.mpr ⟨(sv_cV S hkn (m_Mo_laysBy l) ⟨Nat.le_trans (by decide) hR.1, Nat.le_trans (by decide) hR.2⟩ (by decide) hf rfl (g_Mo_laysBy) (sv_w5 tw_1244 tw_1246 tw_26 tw_65 tw_1247) (by decide +kernel) (sv_dc3 d_Mo_mend (pc := 28) rfl rfl)).V,
      List.forall_mem_cons.mpr ⟨(sv_cV S hkn (m_Mo_layFirsts l) ⟨Nat.le_trans (by decide) hR.1, Nat.le_trans (by decide) hR.2⟩ (by decide) hf rfl (g_Mo_layFirsts) (sv_w5 tw_1271 tw_1273 tw_29 tw_65 tw_1274) (by decide +kernel) (sv_dc3 d_Mo_mend (pc := 33) rfl rfl)).V,
      List.forall_mem_cons.mpr ⟨(sv_cV S hkn (m_Mo_laysBack l) ⟨Nat.le_trans (by decide) hR.1, Nat.le_trans (by decide) hR.2⟩ (by decide) hf rfl (g_Mo_laysBack) (sv_w5 tw_1248 tw_1250 tw_27 tw_65 tw_1251) (by decide +kernel) (sv_dc3 d_Mo_mend (pc := 37) rfl rfl)).V,
      List.forall_mem_cons.mpr ⟨(sv_cV S hkn (m_Mo_sets l) ⟨Nat.le_trans (by decide) hR.1, Nat.le_trans (by decide) hR.2⟩ (by decide) hf rfl (g_Mo_sets) (sv_w5 tw_1108 tw_1110 tw_8 tw_65 tw_1111) (by decide +kernel) (sv_dc3 d_Mo_mend (pc := 81) rfl rfl)).V,
      List.forall_mem_cons.mpr ⟨(sv_cV S hkn (m_Mo_layFirsts l) ⟨Nat.le_trans (by decide) hR.1, Nat.le_trans (by decide) hR.2⟩ (by decide) hf rfl (g_Mo_layFirsts) (sv_w5 tw_1271 tw_1273 tw_29 tw_65 tw_1274) (by decide +kernel) (sv_dc3 d_Mo_mend (pc := 86) rfl rfl)).V,
      List.forall_mem_cons.mpr ⟨(sv_cV S hkn (m_Mo_laysBack l) ⟨Nat.le_trans (by decide) hR.1, Nat.le_trans (by decide) hR.2⟩ (by decide) hf rfl (g_Mo_laysBack) (sv_w5 tw_1248 tw_1250 tw_27 tw_65 tw_1251) (by decide +kernel) (sv_dc3 d_Mo_mend (pc := 90) rfl rfl)).V,
      fun _ h => absurd h List.not_mem_nil⟩⟩⟩⟩⟩⟩⟩⟩
noncomputable def f_Mo_farOf_26 (k14 : Int32 → Int32 → Int32 → Int32 → sv_S → Option (Int32 × sv_S)) (x1 : Int32) (x2 : Int32) (x3 : Int32) (x4 : Int32) (y0 : Int32) (y1 : Int32) (σ : sv_S) : Option (Int32 × sv_S) :=
    sv_if (y0 ≤ y1)
      (some (x3, σ))
      (sv_b (f_Mo_of x4 (7 : Int32) σ) (fun v1 σ2 =>
        k14 x1 x2 (x3 + v1) (x4 + (1 : Int32)) σ2))
noncomputable def f_Mo_farOf_14 : Nat → Int32 → Int32 → Int32 → Int32 → sv_S → Option (Int32 × sv_S)
  | 0, _, _, _, _, _ => none
  | n + 1, x1, x2, x3, x4, σ =>
    sv_if (x2 ≤ x1)
      (f_Mo_farOf_26 (f_Mo_farOf_14 n) x1 x2 x3 x4 x1 x4 σ)
      (f_Mo_farOf_26 (f_Mo_farOf_14 n) x1 x2 x3 x4 x2 x4 σ)
noncomputable def f_Mo_farOf (a1 : Int32) (a2 : Int32) (σ : sv_S) : Option (Int32 × sv_S) :=
  sv_if (a2 ≤ a1)
    (f_Mo_farOf_14 sv_fu a1 a2 (0 : Int32) a2 σ)
    (f_Mo_farOf_14 sv_fu a1 a2 (0 : Int32) a1 σ)
noncomputable def n_Mo_farOf : List sv_V → sv_S → Option (Int32 × sv_S)
  | [.inr (.inr (some (30, 0))), .inl a1, .inl a2], σ => f_Mo_farOf a1 a2 σ
  | _, _ => none
def cd_Mo_farOf : sv_C := [(0, (.iconst 0, (.inl (0 : Int32), (1, (0, []))))), (1, (.istore_n 3, (sv_N, (2, (0, []))))), (2, (.iload_n 1, (sv_N, (3, (0, []))))), (3, (.iload_n 2, (sv_N, (4, (0, []))))), (4, (.if_icmp .ge 7, (sv_N, (7, (11, []))))), (7, (.iload_n 1, (sv_N, (8, (0, []))))), (8, (.goto 4, (sv_N, (11, (12, []))))), (11, (.iload_n 2, (sv_N, (12, (0, []))))), (12, (.istore 4, (sv_N, (14, (0, []))))), (14, (.iload 4, (sv_N, (16, (0, []))))), (16, (.iload_n 1, (sv_N, (17, (0, []))))), (17, (.iload_n 2, (sv_N, (18, (0, []))))), (18, (.if_icmp .ge 7, (sv_N, (21, (25, []))))), (21, (.iload_n 2, (sv_N, (22, (0, []))))), (22, (.goto 4, (sv_N, (25, (26, []))))), (25, (.iload_n 1, (sv_N, (26, (0, []))))), (26, (.if_icmp .ge 20, (sv_N, (29, (46, []))))), (29, (.iload_n 3, (sv_N, (30, (0, []))))), (30, (.aload_n 0, (sv_N, (31, (0, []))))), (31, (.iload 4, (sv_N, (33, (0, []))))), (33, (.bipush 7, (.inl (7 : Int32), (35, (0, []))))), (35, (.invokevirtual 90, (sv_N, (38, (0, []))))), (38, (.iadd, (sv_N, (39, (0, []))))), (39, (.istore_n 3, (sv_N, (40, (0, []))))), (40, (.iinc 4 1, (.inl (1 : Int32), (43, (0, []))))), (43, (.goto (-29), (sv_N, (46, (14, []))))), (46, (.iload_n 3, (sv_N, (47, (0, []))))), (47, (.ireturn, (sv_N, (48, (0, [])))))]
noncomputable def ev_Mo_farOf : sv_E := (fun i => sv_lk i fl_12, (fun i => sv_lk i kc_12, (fun _ => 0, (true, (fun pc => sv_lk pc [(35, (3, .inl n_Mo_of))], none)))))
noncomputable def kk_Mo_farOf_26 (k14 : Int32 → Int32 → Int32 → Int32 → sv_S → Option (Int32 × sv_S)) : sv_K (Int32 × sv_S) := fun pc => sv_lk pc [(14, fun lo st σ => match lo, st with
    | [some (.inr (.inr (some (30, 0)))), some (.inl x1), some (.inl x2), some (.inl x3), some (.inl x4)], [] => k14 x1 x2 x3 x4 σ
    | _, _ => none)]
set_option maxRecDepth 20000 in
theorem e_Mo_farOf_26 (k14 : Int32 → Int32 → Int32 → Int32 → sv_S → Option (Int32 × sv_S)) (x1 : Int32) (x2 : Int32) (x3 : Int32) (x4 : Int32) (y0 : Int32) (y1 : Int32) (σ : sv_S) : sv_ex ev_Mo_farOf sv_rI (kk_Mo_farOf_26 k14) cd_Mo_farOf 30 26 [some (.inr (.inr (some (30, 0)))), some (.inl x1), some (.inl x2), some (.inl x3), some (.inl x4)] [.inl y0, .inl y1] σ = f_Mo_farOf_26 k14 x1 x2 x3 x4 y0 y1 σ := by
  unfold f_Mo_farOf_26
  delta ev_Mo_farOf kk_Mo_farOf_26 n_Mo_of
  generalize f_Mo_of = c0
  generalize f_Mo_farOf_14 = c1
  rfl
noncomputable def kk_Mo_farOf_14 (n : Nat) : sv_K (Int32 × sv_S) := fun pc => sv_lk pc [(26, fun lo st σ => match lo, st with
    | [some (.inr (.inr (some (30, 0)))), some (.inl x1), some (.inl x2), some (.inl x3), some (.inl x4)], [.inl y0, .inl y1] => f_Mo_farOf_26 (f_Mo_farOf_14 n) x1 x2 x3 x4 y0 y1 σ
    | _, _ => none)]
set_option maxRecDepth 20000 in
theorem e_Mo_farOf_14 (n : Nat) (x1 : Int32) (x2 : Int32) (x3 : Int32) (x4 : Int32) (σ : sv_S) : sv_ex ev_Mo_farOf sv_rI (kk_Mo_farOf_14 n) cd_Mo_farOf 30 14 [some (.inr (.inr (some (30, 0)))), some (.inl x1), some (.inl x2), some (.inl x3), some (.inl x4)] [] σ = f_Mo_farOf_14 (n + 1) x1 x2 x3 x4 σ := by
  rw [f_Mo_farOf_14.eq_2]
  delta ev_Mo_farOf kk_Mo_farOf_14 n_Mo_of
  generalize f_Mo_of = c0
  generalize f_Mo_farOf_26 = c1
  generalize f_Mo_farOf_14 = c2
  rfl
noncomputable def kk_Mo_farOf : sv_K (Int32 × sv_S) := fun pc => sv_lk pc [(14, fun lo st σ => match lo, st with
    | [some (.inr (.inr (some (30, 0)))), some (.inl x1), some (.inl x2), some (.inl x3), some (.inl x4)], [] => f_Mo_farOf_14 sv_fu x1 x2 x3 x4 σ
    | _, _ => none)]
set_option maxRecDepth 20000 in
theorem e_Mo_farOf (a1 : Int32) (a2 : Int32) (σ : sv_S) : sv_ex ev_Mo_farOf sv_rI kk_Mo_farOf cd_Mo_farOf 30 0 [some (.inr (.inr (some (30, 0)))), some (.inl a1), some (.inl a2), none, none] [] σ = f_Mo_farOf a1 a2 σ := by
  unfold f_Mo_farOf
  delta ev_Mo_farOf kk_Mo_farOf n_Mo_of
  generalize f_Mo_of = c0
  generalize f_Mo_farOf_14 = c1
  rfl
theorem d_Mo_farOf : cd_Mo_farOf.all (sv_dk cX12_farOf) = true := by decide +kernel
set_option maxRecDepth 20000 in
theorem w_Mo_farOf_26 {Γ : sv_Ga} {res : Int32 × sv_S} (X : sv_Ok Γ ev_Mo_farOf cX12_farOf sv_rI res) (k14 : Int32 → Int32 → Int32 → Int32 → sv_S → Option (Int32 × sv_S)) (h14 : ∀ (x1 : Int32) (x2 : Int32) (x3 : Int32) (x4 : Int32) (σ : sv_S), k14 x1 x2 x3 x4 σ = some res → sv_T Γ 14 [some (.inr (.inr (some (30, 0)))), some (.inl x1), some (.inl x2), some (.inl x3), some (.inl x4)] [] σ) : ∀ (x1 : Int32) (x2 : Int32) (x3 : Int32) (x4 : Int32) (y0 : Int32) (y1 : Int32) (σ : sv_S), f_Mo_farOf_26 k14 x1 x2 x3 x4 y0 y1 σ = some res → sv_T Γ 26 [some (.inr (.inr (some (30, 0)))), some (.inl x1), some (.inl x2), some (.inl x3), some (.inl x4)] [.inl y0, .inl y1] σ := by
  intro x1 x2 x3 x4 y0 y1 σ h
  refine sv_run X d_Mo_farOf (K := kk_Mo_farOf_26 k14) (sv_lk_all (P := fun pc (k : sv_Lo → List sv_V → sv_S → Option (Int32 × sv_S)) => ∀ lo st σ, k lo st σ = some res → sv_T Γ pc lo st σ) ?_) _ _ _ _ _ ((e_Mo_farOf_26 k14 x1 x2 x3 x4 y0 y1 σ).trans h)
  clear h
  refine List.forall_mem_cons.mpr ⟨fun lo st σ h => ?_, fun _ h => absurd h List.not_mem_nil⟩
  · dsimp only at h
    split at h
    · exact h14 _ _ _ _ _ h
    · cases h

set_option maxRecDepth 20000 in
theorem w_Mo_farOf_14 {Γ : sv_Ga} {res : Int32 × sv_S} (X : sv_Ok Γ ev_Mo_farOf cX12_farOf sv_rI res) : ∀ (n : Nat) (x1 : Int32) (x2 : Int32) (x3 : Int32) (x4 : Int32) (σ : sv_S), f_Mo_farOf_14 n x1 x2 x3 x4 σ = some res → sv_T Γ 14 [some (.inr (.inr (some (30, 0)))), some (.inl x1), some (.inl x2), some (.inl x3), some (.inl x4)] [] σ := by
  intro n
  induction n with
  | zero =>
    intro x1 x2 x3 x4 σ h
    rw [f_Mo_farOf_14.eq_1] at h
    cases h
  | succ n ih =>
    intro x1 x2 x3 x4 σ h
    refine sv_run X d_Mo_farOf (K := kk_Mo_farOf_14 n) (sv_lk_all (P := fun pc (k : sv_Lo → List sv_V → sv_S → Option (Int32 × sv_S)) => ∀ lo st σ, k lo st σ = some res → sv_T Γ pc lo st σ) ?_) _ _ _ _ _ ((e_Mo_farOf_14 n x1 x2 x3 x4 σ).trans h)
    clear h
    refine List.forall_mem_cons.mpr ⟨fun lo st σ h => ?_, fun _ h => absurd h List.not_mem_nil⟩
    · dsimp only at h
      split at h
      · exact w_Mo_farOf_26 X _ ih _ _ _ _ _ _ _ h
      · cases h

set_option maxRecDepth 20000 in
theorem b_Mo_farOf (Γ : sv_Ga) (res : Int32 × sv_S) (X : sv_Ok Γ ev_Mo_farOf cX12_farOf sv_rI res) (as : List sv_V) (σ : sv_S) (h : n_Mo_farOf as σ = some res) : sv_T Γ 0 (sv_e0 5 as) [] σ := by
  unfold n_Mo_farOf at h
  split at h
  · refine sv_run X d_Mo_farOf (K := kk_Mo_farOf) (sv_lk_all (P := fun pc (k : sv_Lo → List sv_V → sv_S → Option (Int32 × sv_S)) => ∀ lo st σ, k lo st σ = some res → sv_T Γ pc lo st σ) ?_) _ _ _ _ _ ((e_Mo_farOf _ _ _).trans h)
    clear h
    refine List.forall_mem_cons.mpr ⟨fun lo st σ h => ?_, fun _ h => absurd h List.not_mem_nil⟩
    · dsimp only at h
      split at h
      · exact w_Mo_farOf_14 X _ _ _ _ _ _ h
      · cases h
  · cases h
theorem a_Mo_farOf (as : List sv_V) (σ : sv_S) (x : Int32 × sv_S) (h : n_Mo_farOf as σ = some x) : sv_args 5 ev_Mo_farOf.2.2.2.1 as := by
  unfold n_Mo_farOf at h
  split at h
  · exact ⟨Nat.le_of_ble_eq_true rfl, fun _ v hv => by
      simp only [List.mem_cons, List.not_mem_nil, or_false] at hv
      rcases hv with rfl | rfl | rfl <;> trivial⟩
  · cases h
theorem g_Mo_farOf (as : List sv_V) (σ : sv_S) (x : Option sv_V × sv_S) (h : sv_gI n_Mo_farOf as σ = some x) : ∃ r i as', as = sv_R r i :: as' ∧ sv_kd r i = .inl 12 := by
  obtain ⟨_, _, h, -⟩ := sv_b_some h
  unfold n_Mo_farOf at h
  split at h
  · exact ⟨_, _, _, rfl, rfl⟩
  · cases h

set_option maxRecDepth 20000 in
theorem m_Mo_farOf (l : Launch) : sv_M l yX12_farOf cX12_farOf 5 (some .int) (sv_gI n_Mo_farOf) 1 := by
  refine sv_mI (E := ev_Mo_farOf) (by decide +kernel) (ln_gen fk_12 kk_12 (sv_ns _ (fun _ => rfl) _)) rfl ?_ a_Mo_farOf b_Mo_farOf
  intro p e R s m args below meth c cells slots Q base ad dC dI cA n0 S hkn hR hf pc n f hcs
  refine sv_lk_all (P := fun pc (x : Nat × sv_F) => sv_cok p l e R s m args below meth c cells slots Q base ad dC dI cA true 5 n0 pc x.1 x.2) ?_ pc (n, f) hcs
  exact List.forall_mem_cons.mpr ⟨(sv_cV S hkn (m_Mo_of l) ⟨Nat.le_trans (by decide) hR.1, Nat.le_trans (by decide) hR.2⟩ (by decide) hf rfl (g_Mo_of) (sv_w5 tw_1120 tw_1122 tw_10 tw_65 tw_1123) (by decide +kernel) (sv_dc3 d_Mo_farOf (pc := 35) rfl rfl)).I,
      fun _ h => absurd h List.not_mem_nil⟩
noncomputable def f_Mo_far (a1 : Int32) (a2 : Int32) (σ : sv_S) : Option (Int32 × sv_S) :=
  sv_b (f_Mo_isDrummer a1 σ) (fun v1 σ2 =>
    sv_if (v1 = 0)
      (some ((-1000000001 : Int32), σ2))
      (sv_b (f_Mo_isDrummer a2 σ2) (fun v3 σ4 =>
        sv_if (v3 = 0)
          (some ((-1000000001 : Int32), σ4))
          (sv_b (f_Mo_farOf a1 a2 σ4) (fun v5 σ6 =>
            some (v5, σ6))))))
noncomputable def n_Mo_far : List sv_V → sv_S → Option (Int32 × sv_S)
  | [.inr (.inr (some (30, 0))), .inl a1, .inl a2], σ => f_Mo_far a1 a2 σ
  | _, _ => none
def cd_Mo_far : sv_C := [(0, (.aload_n 0, (sv_N, (1, (0, []))))), (1, (.iload_n 1, (sv_N, (2, (0, []))))), (2, (.invokevirtual 113, (sv_N, (5, (0, []))))), (5, (.ifCond .eq 20, (sv_N, (8, (25, []))))), (8, (.aload_n 0, (sv_N, (9, (0, []))))), (9, (.iload_n 2, (sv_N, (10, (0, []))))), (10, (.invokevirtual 113, (sv_N, (13, (0, []))))), (13, (.ifCond .eq 12, (sv_N, (16, (25, []))))), (16, (.aload_n 0, (sv_N, (17, (0, []))))), (17, (.iload_n 1, (sv_N, (18, (0, []))))), (18, (.iload_n 2, (sv_N, (19, (0, []))))), (19, (.invokevirtual 189, (sv_N, (22, (0, []))))), (22, (.goto 5, (sv_N, (25, (27, []))))), (25, (.ldc 84, (sv_N, (27, (0, []))))), (27, (.ireturn, (sv_N, (28, (0, [])))))]
noncomputable def ev_Mo_far : sv_E := (fun i => sv_lk i fl_12, (fun i => sv_lk i kc_12, (fun _ => 0, (true, (fun pc => sv_lk pc [(2, (2, .inl n_Mo_isDrummer)), (10, (2, .inl n_Mo_isDrummer)), (19, (3, .inl n_Mo_farOf))], none)))))
noncomputable def kk_Mo_far : sv_K (Int32 × sv_S) := fun pc => sv_lk pc []
set_option maxRecDepth 20000 in
theorem e_Mo_far (a1 : Int32) (a2 : Int32) (σ : sv_S) : sv_ex ev_Mo_far sv_rI kk_Mo_far cd_Mo_far 17 0 [some (.inr (.inr (some (30, 0)))), some (.inl a1), some (.inl a2)] [] σ = f_Mo_far a1 a2 σ := by
  unfold f_Mo_far
  delta ev_Mo_far kk_Mo_far n_Mo_isDrummer n_Mo_farOf
  generalize f_Mo_isDrummer = c0
  generalize f_Mo_farOf = c1
  rfl
theorem d_Mo_far : cd_Mo_far.all (sv_dk cX12_far) = true := by decide +kernel
set_option maxRecDepth 20000 in
theorem b_Mo_far (Γ : sv_Ga) (res : Int32 × sv_S) (X : sv_Ok Γ ev_Mo_far cX12_far sv_rI res) (as : List sv_V) (σ : sv_S) (h : n_Mo_far as σ = some res) : sv_T Γ 0 (sv_e0 3 as) [] σ := by
  unfold n_Mo_far at h
  split at h
  · refine sv_run X d_Mo_far (K := kk_Mo_far) (sv_lk_all (P := fun pc (k : sv_Lo → List sv_V → sv_S → Option (Int32 × sv_S)) => ∀ lo st σ, k lo st σ = some res → sv_T Γ pc lo st σ) ?_) _ _ _ _ _ ((e_Mo_far _ _ _).trans h)
    clear h
    exact fun _ h => absurd h List.not_mem_nil
  · cases h
theorem a_Mo_far (as : List sv_V) (σ : sv_S) (x : Int32 × sv_S) (h : n_Mo_far as σ = some x) : sv_args 3 ev_Mo_far.2.2.2.1 as := by
  unfold n_Mo_far at h
  split at h
  · exact ⟨Nat.le_of_ble_eq_true rfl, fun _ v hv => by
      simp only [List.mem_cons, List.not_mem_nil, or_false] at hv
      rcases hv with rfl | rfl | rfl <;> trivial⟩
  · cases h
theorem g_Mo_far (as : List sv_V) (σ : sv_S) (x : Option sv_V × sv_S) (h : sv_gI n_Mo_far as σ = some x) : ∃ r i as', as = sv_R r i :: as' ∧ sv_kd r i = .inl 12 := by
  obtain ⟨_, _, h, -⟩ := sv_b_some h
  unfold n_Mo_far at h
  split at h
  · exact ⟨_, _, _, rfl, rfl⟩
  · cases h
theorem tw_31 : Cond.selects RX12 yX12_farOf yX12_farOf ∈ gw_tbl := gw_at 31 (by decide +kernel) rfl
theorem tw_1293 : Cond.methodLink RX12 189 yX12_farOf ∈ gw_tbl := gw_at 1293 (by decide +kernel) rfl
theorem tw_1295 : Cond.instanceMethod yX12_farOf ∈ gw_tbl := gw_at 1295 (by decide +kernel) rfl
theorem tw_1296 : Cond.code yX12_farOf cX12_farOf 5 (some .int) ∈ gw_tbl := gw_at 1296 (by decide +kernel) rfl
set_option maxRecDepth 20000 in
theorem m_Mo_far (l : Launch) : sv_M l yX12_far cX12_far 3 (some .int) (sv_gI n_Mo_far) 2 := by
  refine sv_mI (E := ev_Mo_far) (by decide +kernel) (ln_gen fk_12 kk_12 (sv_ns _ (fun _ => rfl) _)) rfl ?_ a_Mo_far b_Mo_far
  intro p e R s m args below meth c cells slots Q base ad dC dI cA n0 S hkn hR hf pc n f hcs
  refine sv_lk_all (P := fun pc (x : Nat × sv_F) => sv_cok p l e R s m args below meth c cells slots Q base ad dC dI cA true 3 n0 pc x.1 x.2) ?_ pc (n, f) hcs
  exact List.forall_mem_cons.mpr ⟨(sv_cV S hkn (m_Mo_isDrummer l) ⟨Nat.le_trans (by decide) hR.1, Nat.le_trans (by decide) hR.2⟩ (by decide) hf rfl (g_Mo_isDrummer) (sv_w5 tw_1116 tw_1118 tw_9 tw_65 tw_1119) (by decide +kernel) (sv_dc3 d_Mo_far (pc := 2) rfl rfl)).I,
      List.forall_mem_cons.mpr ⟨(sv_cV S hkn (m_Mo_isDrummer l) ⟨Nat.le_trans (by decide) hR.1, Nat.le_trans (by decide) hR.2⟩ (by decide) hf rfl (g_Mo_isDrummer) (sv_w5 tw_1116 tw_1118 tw_9 tw_65 tw_1119) (by decide +kernel) (sv_dc3 d_Mo_far (pc := 10) rfl rfl)).I,
      List.forall_mem_cons.mpr ⟨(sv_cV S hkn (m_Mo_farOf l) ⟨Nat.le_trans (by decide) hR.1, Nat.le_trans (by decide) hR.2⟩ (by decide) hf rfl (g_Mo_farOf) (sv_w5 tw_1293 tw_1295 tw_31 tw_65 tw_1296) (by decide +kernel) (sv_dc3 d_Mo_far (pc := 19) rfl rfl)).I,
      fun _ h => absurd h List.not_mem_nil⟩⟩⟩
noncomputable def f_Mo_reach_28 : Nat → Int32 → Int32 → Int32 → Int32 → sv_S → Option (Int32 × sv_S)
  | 0, _, _, _, _, _ => none
  | n + 1, x1, x2, x3, x4, σ =>
    sv_g (sv_in (0 : Int32) 3086) (sv_if ((σ 31 0 ((0 : Int32).toNatClampNeg)) ≤ x4)
      (some (x3, σ))
      (sv_b (f_Mo_farOf x1 x4 σ) (fun v1 σ2 =>
        sv_if (x2 < v1)
          (f_Mo_reach_28 n x1 x2 (x3 ||| (0 : Int32)) (x4 + (1 : Int32)) σ2)
          (f_Mo_reach_28 n x1 x2 (x3 ||| ((1 : Int32) <<< (x4 &&& 31))) (x4 + (1 : Int32)) σ2))))
noncomputable def f_Mo_reach (a1 : Int32) (a2 : Int32) (σ : sv_S) : Option (Int32 × sv_S) :=
  sv_b (f_Mo_isDrummer a1 σ) (fun v1 σ2 =>
    sv_if (v1 = 0)
      (some ((-1000000001 : Int32), σ2))
      (sv_b (f_Mo_isIn (a2.toInt64) (0 : Int64) (30 : Int64) σ2) (fun v3 σ4 =>
        sv_if (v3 = 0)
          (some ((-1000000001 : Int32), σ4))
          (f_Mo_reach_28 sv_fu a1 a2 (0 : Int32) (0 : Int32) σ4))))
noncomputable def n_Mo_reach : List sv_V → sv_S → Option (Int32 × sv_S)
  | [.inr (.inr (some (30, 0))), .inl a1, .inl a2], σ => f_Mo_reach a1 a2 σ
  | _, _ => none
def cd_Mo_reach : sv_C := [(0, (.aload_n 0, (sv_N, (1, (0, []))))), (1, (.iload_n 1, (sv_N, (2, (0, []))))), (2, (.invokevirtual 113, (sv_N, (5, (0, []))))), (5, (.ifCond .eq 15, (sv_N, (8, (20, []))))), (8, (.iload_n 2, (sv_N, (9, (0, []))))), (9, (.i2l, (sv_N, (10, (0, []))))), (10, (.lconst 0, (.inr (.inl (0 : Int64)), (11, (0, []))))), (11, (.ldc2_w 192, (sv_N, (14, (0, []))))), (14, (.invokestatic 71, (sv_N, (17, (0, []))))), (17, (.ifCond .ne 6, (sv_N, (20, (23, []))))), (20, (.ldc 84, (sv_N, (22, (0, []))))), (22, (.ireturn, (sv_N, (23, (0, []))))), (23, (.iconst 0, (.inl (0 : Int32), (24, (0, []))))), (24, (.istore_n 3, (sv_N, (25, (0, []))))), (25, (.iconst 0, (.inl (0 : Int32), (26, (0, []))))), (26, (.istore 4, (sv_N, (28, (0, []))))), (28, (.iload 4, (sv_N, (30, (0, []))))), (30, (.aload_n 0, (sv_N, (31, (0, []))))), (31, (.getfield 7, (sv_N, (34, (0, []))))), (34, (.iconst 0, (.inl (0 : Int32), (35, (0, []))))), (35, (.iaload, (sv_N, (36, (0, []))))), (36, (.if_icmp .ge 31, (sv_N, (39, (67, []))))), (39, (.iload_n 3, (sv_N, (40, (0, []))))), (40, (.aload_n 0, (sv_N, (41, (0, []))))), (41, (.iload_n 1, (sv_N, (42, (0, []))))), (42, (.iload 4, (sv_N, (44, (0, []))))), (44, (.invokevirtual 189, (sv_N, (47, (0, []))))), (47, (.iload_n 2, (sv_N, (48, (0, []))))), (48, (.if_icmp .gt 10, (sv_N, (51, (58, []))))), (51, (.iconst 1, (.inl (1 : Int32), (52, (0, []))))), (52, (.iload 4, (sv_N, (54, (0, []))))), (54, (.ishl, (sv_N, (55, (0, []))))), (55, (.goto 4, (sv_N, (58, (59, []))))), (58, (.iconst 0, (.inl (0 : Int32), (59, (0, []))))), (59, (.ior, (sv_N, (60, (0, []))))), (60, (.istore_n 3, (sv_N, (61, (0, []))))), (61, (.iinc 4 1, (.inl (1 : Int32), (64, (0, []))))), (64, (.goto (-36), (sv_N, (67, (28, []))))), (67, (.iload_n 3, (sv_N, (68, (0, []))))), (68, (.ireturn, (sv_N, (69, (0, [])))))]
noncomputable def ev_Mo_reach : sv_E := (fun i => sv_lk i fl_12, (fun i => sv_lk i kc_12, (fun _ => 0, (true, (fun pc => sv_lk pc [(2, (2, .inl n_Mo_isDrummer)), (14, (3, .inl n_Mo_isIn)), (44, (3, .inl n_Mo_farOf))], none)))))
noncomputable def kk_Mo_reach_28 (n : Nat) : sv_K (Int32 × sv_S) := fun pc => sv_lk pc [(28, fun lo st σ => match lo, st with
    | [some (.inr (.inr (some (30, 0)))), some (.inl x1), some (.inl x2), some (.inl x3), some (.inl x4)], [] => f_Mo_reach_28 n x1 x2 x3 x4 σ
    | _, _ => none)]
set_option maxRecDepth 20000 in
theorem e_Mo_reach_28 (n : Nat) (x1 : Int32) (x2 : Int32) (x3 : Int32) (x4 : Int32) (σ : sv_S) : sv_ex ev_Mo_reach sv_rI (kk_Mo_reach_28 n) cd_Mo_reach 42 28 [some (.inr (.inr (some (30, 0)))), some (.inl x1), some (.inl x2), some (.inl x3), some (.inl x4)] [] σ = f_Mo_reach_28 (n + 1) x1 x2 x3 x4 σ := by
  rw [f_Mo_reach_28.eq_2]
  delta ev_Mo_reach kk_Mo_reach_28 n_Mo_isDrummer n_Mo_isIn n_Mo_farOf
  generalize f_Mo_isDrummer = c0
  generalize f_Mo_isIn = c1
  generalize f_Mo_farOf = c2
  generalize f_Mo_reach_28 = c3
  rfl
noncomputable def kk_Mo_reach : sv_K (Int32 × sv_S) := fun pc => sv_lk pc [(28, fun lo st σ => match lo, st with
    | [some (.inr (.inr (some (30, 0)))), some (.inl x1), some (.inl x2), some (.inl x3), some (.inl x4)], [] => f_Mo_reach_28 sv_fu x1 x2 x3 x4 σ
    | _, _ => none)]
set_option maxRecDepth 20000 in
theorem e_Mo_reach (a1 : Int32) (a2 : Int32) (σ : sv_S) : sv_ex ev_Mo_reach sv_rI kk_Mo_reach cd_Mo_reach 42 0 [some (.inr (.inr (some (30, 0)))), some (.inl a1), some (.inl a2), none, none] [] σ = f_Mo_reach a1 a2 σ := by
  unfold f_Mo_reach
  delta ev_Mo_reach kk_Mo_reach n_Mo_isDrummer n_Mo_isIn n_Mo_farOf
  generalize f_Mo_isDrummer = c0
  generalize f_Mo_isIn = c1
  generalize f_Mo_farOf = c2
  generalize f_Mo_reach_28 = c3
  rfl
theorem d_Mo_reach : cd_Mo_reach.all (sv_dk cX12_reach) = true := by decide +kernel
set_option maxRecDepth 20000 in
theorem w_Mo_reach_28 {Γ : sv_Ga} {res : Int32 × sv_S} (X : sv_Ok Γ ev_Mo_reach cX12_reach sv_rI res) : ∀ (n : Nat) (x1 : Int32) (x2 : Int32) (x3 : Int32) (x4 : Int32) (σ : sv_S), f_Mo_reach_28 n x1 x2 x3 x4 σ = some res → sv_T Γ 28 [some (.inr (.inr (some (30, 0)))), some (.inl x1), some (.inl x2), some (.inl x3), some (.inl x4)] [] σ := by
  intro n
  induction n with
  | zero =>
    intro x1 x2 x3 x4 σ h
    rw [f_Mo_reach_28.eq_1] at h
    cases h
  | succ n ih =>
    intro x1 x2 x3 x4 σ h
    refine sv_run X d_Mo_reach (K := kk_Mo_reach_28 n) (sv_lk_all (P := fun pc (k : sv_Lo → List sv_V → sv_S → Option (Int32 × sv_S)) => ∀ lo st σ, k lo st σ = some res → sv_T Γ pc lo st σ) ?_) _ _ _ _ _ ((e_Mo_reach_28 n x1 x2 x3 x4 σ).trans h)
    clear h
    refine List.forall_mem_cons.mpr ⟨fun lo st σ h => ?_, fun _ h => absurd h List.not_mem_nil⟩
    · dsimp only at h
      split at h
      · exact ih _ _ _ _ _ h
      · cases h

set_option maxRecDepth 20000 in
theorem b_Mo_reach (Γ : sv_Ga) (res : Int32 × sv_S) (X : sv_Ok Γ ev_Mo_reach cX12_reach sv_rI res) (as : List sv_V) (σ : sv_S) (h : n_Mo_reach as σ = some res) : sv_T Γ 0 (sv_e0 5 as) [] σ := by
  unfold n_Mo_reach at h
  split at h
  · refine sv_run X d_Mo_reach (K := kk_Mo_reach) (sv_lk_all (P := fun pc (k : sv_Lo → List sv_V → sv_S → Option (Int32 × sv_S)) => ∀ lo st σ, k lo st σ = some res → sv_T Γ pc lo st σ) ?_) _ _ _ _ _ ((e_Mo_reach _ _ _).trans h)
    clear h
    refine List.forall_mem_cons.mpr ⟨fun lo st σ h => ?_, fun _ h => absurd h List.not_mem_nil⟩
    · dsimp only at h
      split at h
      · exact w_Mo_reach_28 X _ _ _ _ _ _ h
      · cases h
  · cases h
theorem a_Mo_reach (as : List sv_V) (σ : sv_S) (x : Int32 × sv_S) (h : n_Mo_reach as σ = some x) : sv_args 5 ev_Mo_reach.2.2.2.1 as := by
  unfold n_Mo_reach at h
  split at h
  · exact ⟨Nat.le_of_ble_eq_true rfl, fun _ v hv => by
      simp only [List.mem_cons, List.not_mem_nil, or_false] at hv
      rcases hv with rfl | rfl | rfl <;> trivial⟩
  · cases h
theorem g_Mo_reach (as : List sv_V) (σ : sv_S) (x : Option sv_V × sv_S) (h : sv_gI n_Mo_reach as σ = some x) : ∃ r i as', as = sv_R r i :: as' ∧ sv_kd r i = .inl 12 := by
  obtain ⟨_, _, h, -⟩ := sv_b_some h
  unfold n_Mo_reach at h
  split at h
  · exact ⟨_, _, _, rfl, rfl⟩
  · cases h

set_option maxRecDepth 20000 in
theorem m_Mo_reach (l : Launch) : sv_M l yX12_reach cX12_reach 5 (some .int) (sv_gI n_Mo_reach) 2 := by
  refine sv_mI (E := ev_Mo_reach) (by decide +kernel) (ln_gen fk_12 kk_12 (sv_ns _ (fun _ => rfl) _)) rfl ?_ a_Mo_reach b_Mo_reach
  intro p e R s m args below meth c cells slots Q base ad dC dI cA n0 S hkn hR hf pc n f hcs
  refine sv_lk_all (P := fun pc (x : Nat × sv_F) => sv_cok p l e R s m args below meth c cells slots Q base ad dC dI cA true 5 n0 pc x.1 x.2) ?_ pc (n, f) hcs
  exact List.forall_mem_cons.mpr ⟨(sv_cV S hkn (m_Mo_isDrummer l) ⟨Nat.le_trans (by decide) hR.1, Nat.le_trans (by decide) hR.2⟩ (by decide) hf rfl (g_Mo_isDrummer) (sv_w5 tw_1116 tw_1118 tw_9 tw_65 tw_1119) (by decide +kernel) (sv_dc3 d_Mo_reach (pc := 2) rfl rfl)).I,
      List.forall_mem_cons.mpr ⟨(sv_cS S hkn (m_Mo_isIn l) ⟨Nat.le_trans (by decide) hR.1, Nat.le_trans (by decide) hR.2⟩ (by decide) hf (sv_w4 tw_1098 tw_1099 tw_65 tw_1100) (by decide +kernel) (sv_dc3 d_Mo_reach (pc := 14) rfl rfl)).I,
      List.forall_mem_cons.mpr ⟨(sv_cV S hkn (m_Mo_farOf l) ⟨Nat.le_trans (by decide) hR.1, Nat.le_trans (by decide) hR.2⟩ (by decide) hf rfl (g_Mo_farOf) (sv_w5 tw_1293 tw_1295 tw_31 tw_65 tw_1296) (by decide +kernel) (sv_dc3 d_Mo_reach (pc := 44) rfl rfl)).I,
      fun _ h => absurd h List.not_mem_nil⟩⟩⟩
noncomputable def f_Mo_edge (a1 : Int32) (σ : sv_S) : Option (Int32 × sv_S) :=
  sv_b (f_Mo_isDrummer a1 σ) (fun v1 σ2 =>
    sv_if (v1 = 0)
      (some ((-1000000001 : Int32), σ2))
      (sv_b (f_Mo_farOf a1 (0 : Int32) σ2) (fun v3 σ4 =>
        sv_g (sv_in (0 : Int32) 3086) (sv_b (f_Mo_farOf a1 ((σ4 31 0 ((0 : Int32).toNatClampNeg)) - (1 : Int32)) σ4) (fun v5 σ6 =>
          sv_if (v3 ≤ v5)
            (some (v5, σ6))
            (some (v3, σ6)))))))
noncomputable def n_Mo_edge : List sv_V → sv_S → Option (Int32 × sv_S)
  | [.inr (.inr (some (30, 0))), .inl a1], σ => f_Mo_edge a1 σ
  | _, _ => none
def cd_Mo_edge : sv_C := [(0, (.aload_n 0, (sv_N, (1, (0, []))))), (1, (.iload_n 1, (sv_N, (2, (0, []))))), (2, (.invokevirtual 113, (sv_N, (5, (0, []))))), (5, (.ifCond .ne 6, (sv_N, (8, (11, []))))), (8, (.ldc 84, (sv_N, (10, (0, []))))), (10, (.ireturn, (sv_N, (11, (0, []))))), (11, (.aload_n 0, (sv_N, (12, (0, []))))), (12, (.iload_n 1, (sv_N, (13, (0, []))))), (13, (.iconst 0, (.inl (0 : Int32), (14, (0, []))))), (14, (.invokevirtual 189, (sv_N, (17, (0, []))))), (17, (.istore_n 2, (sv_N, (18, (0, []))))), (18, (.aload_n 0, (sv_N, (19, (0, []))))), (19, (.iload_n 1, (sv_N, (20, (0, []))))), (20, (.aload_n 0, (sv_N, (21, (0, []))))), (21, (.getfield 7, (sv_N, (24, (0, []))))), (24, (.iconst 0, (.inl (0 : Int32), (25, (0, []))))), (25, (.iaload, (sv_N, (26, (0, []))))), (26, (.iconst 1, (.inl (1 : Int32), (27, (0, []))))), (27, (.isub, (sv_N, (28, (0, []))))), (28, (.invokevirtual 189, (sv_N, (31, (0, []))))), (31, (.istore_n 3, (sv_N, (32, (0, []))))), (32, (.iload_n 2, (sv_N, (33, (0, []))))), (33, (.iload_n 3, (sv_N, (34, (0, []))))), (34, (.if_icmp .le 7, (sv_N, (37, (41, []))))), (37, (.iload_n 2, (sv_N, (38, (0, []))))), (38, (.goto 4, (sv_N, (41, (42, []))))), (41, (.iload_n 3, (sv_N, (42, (0, []))))), (42, (.ireturn, (sv_N, (43, (0, [])))))]
noncomputable def ev_Mo_edge : sv_E := (fun i => sv_lk i fl_12, (fun i => sv_lk i kc_12, (fun _ => 0, (true, (fun pc => sv_lk pc [(2, (2, .inl n_Mo_isDrummer)), (14, (3, .inl n_Mo_farOf)), (28, (3, .inl n_Mo_farOf))], none)))))
noncomputable def kk_Mo_edge : sv_K (Int32 × sv_S) := fun pc => sv_lk pc []
set_option maxRecDepth 20000 in
theorem e_Mo_edge (a1 : Int32) (σ : sv_S) : sv_ex ev_Mo_edge sv_rI kk_Mo_edge cd_Mo_edge 30 0 [some (.inr (.inr (some (30, 0)))), some (.inl a1), none, none] [] σ = f_Mo_edge a1 σ := by
  unfold f_Mo_edge
  delta ev_Mo_edge kk_Mo_edge n_Mo_isDrummer n_Mo_farOf
  generalize f_Mo_isDrummer = c0
  generalize f_Mo_farOf = c1
  rfl
theorem d_Mo_edge : cd_Mo_edge.all (sv_dk cX12_edge) = true := by decide +kernel
set_option maxRecDepth 20000 in
theorem b_Mo_edge (Γ : sv_Ga) (res : Int32 × sv_S) (X : sv_Ok Γ ev_Mo_edge cX12_edge sv_rI res) (as : List sv_V) (σ : sv_S) (h : n_Mo_edge as σ = some res) : sv_T Γ 0 (sv_e0 4 as) [] σ := by
  unfold n_Mo_edge at h
  split at h
  · refine sv_run X d_Mo_edge (K := kk_Mo_edge) (sv_lk_all (P := fun pc (k : sv_Lo → List sv_V → sv_S → Option (Int32 × sv_S)) => ∀ lo st σ, k lo st σ = some res → sv_T Γ pc lo st σ) ?_) _ _ _ _ _ ((e_Mo_edge _ _).trans h)
    clear h
    exact fun _ h => absurd h List.not_mem_nil
  · cases h
theorem a_Mo_edge (as : List sv_V) (σ : sv_S) (x : Int32 × sv_S) (h : n_Mo_edge as σ = some x) : sv_args 4 ev_Mo_edge.2.2.2.1 as := by
  unfold n_Mo_edge at h
  split at h
  · exact ⟨Nat.le_of_ble_eq_true rfl, fun _ v hv => by
      simp only [List.mem_cons, List.not_mem_nil, or_false] at hv
      rcases hv with rfl | rfl <;> trivial⟩
  · cases h
theorem g_Mo_edge (as : List sv_V) (σ : sv_S) (x : Option sv_V × sv_S) (h : sv_gI n_Mo_edge as σ = some x) : ∃ r i as', as = sv_R r i :: as' ∧ sv_kd r i = .inl 12 := by
  obtain ⟨_, _, h, -⟩ := sv_b_some h
  unfold n_Mo_edge at h
  split at h
  · exact ⟨_, _, _, rfl, rfl⟩
  · cases h

set_option maxRecDepth 20000 in
theorem m_Mo_edge (l : Launch) : sv_M l yX12_edge cX12_edge 4 (some .int) (sv_gI n_Mo_edge) 2 := by
  refine sv_mI (E := ev_Mo_edge) (by decide +kernel) (ln_gen fk_12 kk_12 (sv_ns _ (fun _ => rfl) _)) rfl ?_ a_Mo_edge b_Mo_edge
  intro p e R s m args below meth c cells slots Q base ad dC dI cA n0 S hkn hR hf pc n f hcs
  refine sv_lk_all (P := fun pc (x : Nat × sv_F) => sv_cok p l e R s m args below meth c cells slots Q base ad dC dI cA true 4 n0 pc x.1 x.2) ?_ pc (n, f) hcs
  exact List.forall_mem_cons.mpr ⟨(sv_cV S hkn (m_Mo_isDrummer l) ⟨Nat.le_trans (by decide) hR.1, Nat.le_trans (by decide) hR.2⟩ (by decide) hf rfl (g_Mo_isDrummer) (sv_w5 tw_1116 tw_1118 tw_9 tw_65 tw_1119) (by decide +kernel) (sv_dc3 d_Mo_edge (pc := 2) rfl rfl)).I,
      List.forall_mem_cons.mpr ⟨(sv_cV S hkn (m_Mo_farOf l) ⟨Nat.le_trans (by decide) hR.1, Nat.le_trans (by decide) hR.2⟩ (by decide) hf rfl (g_Mo_farOf) (sv_w5 tw_1293 tw_1295 tw_31 tw_65 tw_1296) (by decide +kernel) (sv_dc3 d_Mo_edge (pc := 14) rfl rfl)).I,
      List.forall_mem_cons.mpr ⟨(sv_cV S hkn (m_Mo_farOf l) ⟨Nat.le_trans (by decide) hR.1, Nat.le_trans (by decide) hR.2⟩ (by decide) hf rfl (g_Mo_farOf) (sv_w5 tw_1293 tw_1295 tw_31 tw_65 tw_1296) (by decide +kernel) (sv_dc3 d_Mo_edge (pc := 28) rfl rfl)).I,
      fun _ h => absurd h List.not_mem_nil⟩⟩⟩
noncomputable def f_Mo_strokesOfAll_4 : Nat → Int32 → Int32 → sv_S → Option (Int32 × sv_S)
  | 0, _, _, _ => none
  | n + 1, x1, x2, σ =>
    sv_g (sv_in (0 : Int32) 3086) (sv_if ((σ 31 0 ((0 : Int32).toNatClampNeg)) ≤ x2)
      (some (x1, σ))
      (sv_b (f_Mo_of x2 (5 : Int32) σ) (fun v1 σ2 =>
        f_Mo_strokesOfAll_4 n (x1 + v1) (x2 + (1 : Int32)) σ2)))
noncomputable def f_Mo_strokesOfAll (σ : sv_S) : Option (Int32 × sv_S) :=
  f_Mo_strokesOfAll_4 sv_fu (0 : Int32) (0 : Int32) σ
noncomputable def n_Mo_strokesOfAll : List sv_V → sv_S → Option (Int32 × sv_S)
  | [.inr (.inr (some (30, 0)))], σ => f_Mo_strokesOfAll σ
  | _, _ => none
def cd_Mo_strokesOfAll : sv_C := [(0, (.iconst 0, (.inl (0 : Int32), (1, (0, []))))), (1, (.istore_n 1, (sv_N, (2, (0, []))))), (2, (.iconst 0, (.inl (0 : Int32), (3, (0, []))))), (3, (.istore_n 2, (sv_N, (4, (0, []))))), (4, (.iload_n 2, (sv_N, (5, (0, []))))), (5, (.aload_n 0, (sv_N, (6, (0, []))))), (6, (.getfield 7, (sv_N, (9, (0, []))))), (9, (.iconst 0, (.inl (0 : Int32), (10, (0, []))))), (10, (.iaload, (sv_N, (11, (0, []))))), (11, (.if_icmp .ge 18, (sv_N, (14, (29, []))))), (14, (.iload_n 1, (sv_N, (15, (0, []))))), (15, (.aload_n 0, (sv_N, (16, (0, []))))), (16, (.iload_n 2, (sv_N, (17, (0, []))))), (17, (.iconst 5, (.inl (5 : Int32), (18, (0, []))))), (18, (.invokevirtual 90, (sv_N, (21, (0, []))))), (21, (.iadd, (sv_N, (22, (0, []))))), (22, (.istore_n 1, (sv_N, (23, (0, []))))), (23, (.iinc 2 1, (.inl (1 : Int32), (26, (0, []))))), (26, (.goto (-22), (sv_N, (29, (4, []))))), (29, (.iload_n 1, (sv_N, (30, (0, []))))), (30, (.ireturn, (sv_N, (31, (0, [])))))]
noncomputable def ev_Mo_strokesOfAll : sv_E := (fun i => sv_lk i fl_12, (fun i => sv_lk i kc_12, (fun _ => 0, (true, (fun pc => sv_lk pc [(18, (3, .inl n_Mo_of))], none)))))
noncomputable def kk_Mo_strokesOfAll_4 (n : Nat) : sv_K (Int32 × sv_S) := fun pc => sv_lk pc [(4, fun lo st σ => match lo, st with
    | [some (.inr (.inr (some (30, 0)))), some (.inl x1), some (.inl x2)], [] => f_Mo_strokesOfAll_4 n x1 x2 σ
    | _, _ => none)]
set_option maxRecDepth 20000 in
theorem e_Mo_strokesOfAll_4 (n : Nat) (x1 : Int32) (x2 : Int32) (σ : sv_S) : sv_ex ev_Mo_strokesOfAll sv_rI (kk_Mo_strokesOfAll_4 n) cd_Mo_strokesOfAll 23 4 [some (.inr (.inr (some (30, 0)))), some (.inl x1), some (.inl x2)] [] σ = f_Mo_strokesOfAll_4 (n + 1) x1 x2 σ := by
  rw [f_Mo_strokesOfAll_4.eq_2]
  delta ev_Mo_strokesOfAll kk_Mo_strokesOfAll_4 n_Mo_of
  generalize f_Mo_of = c0
  generalize f_Mo_strokesOfAll_4 = c1
  rfl
noncomputable def kk_Mo_strokesOfAll : sv_K (Int32 × sv_S) := fun pc => sv_lk pc [(4, fun lo st σ => match lo, st with
    | [some (.inr (.inr (some (30, 0)))), some (.inl x1), some (.inl x2)], [] => f_Mo_strokesOfAll_4 sv_fu x1 x2 σ
    | _, _ => none)]
set_option maxRecDepth 20000 in
theorem e_Mo_strokesOfAll (σ : sv_S) : sv_ex ev_Mo_strokesOfAll sv_rI kk_Mo_strokesOfAll cd_Mo_strokesOfAll 23 0 [some (.inr (.inr (some (30, 0)))), none, none] [] σ = f_Mo_strokesOfAll σ := by
  unfold f_Mo_strokesOfAll
  delta ev_Mo_strokesOfAll kk_Mo_strokesOfAll n_Mo_of
  generalize f_Mo_of = c0
  generalize f_Mo_strokesOfAll_4 = c1
  rfl
theorem d_Mo_strokesOfAll : cd_Mo_strokesOfAll.all (sv_dk cX12_strokesOfAll) = true := by decide +kernel
set_option maxRecDepth 20000 in
theorem w_Mo_strokesOfAll_4 {Γ : sv_Ga} {res : Int32 × sv_S} (X : sv_Ok Γ ev_Mo_strokesOfAll cX12_strokesOfAll sv_rI res) : ∀ (n : Nat) (x1 : Int32) (x2 : Int32) (σ : sv_S), f_Mo_strokesOfAll_4 n x1 x2 σ = some res → sv_T Γ 4 [some (.inr (.inr (some (30, 0)))), some (.inl x1), some (.inl x2)] [] σ := by
  intro n
  induction n with
  | zero =>
    intro x1 x2 σ h
    rw [f_Mo_strokesOfAll_4.eq_1] at h
    cases h
  | succ n ih =>
    intro x1 x2 σ h
    refine sv_run X d_Mo_strokesOfAll (K := kk_Mo_strokesOfAll_4 n) (sv_lk_all (P := fun pc (k : sv_Lo → List sv_V → sv_S → Option (Int32 × sv_S)) => ∀ lo st σ, k lo st σ = some res → sv_T Γ pc lo st σ) ?_) _ _ _ _ _ ((e_Mo_strokesOfAll_4 n x1 x2 σ).trans h)
    clear h
    refine List.forall_mem_cons.mpr ⟨fun lo st σ h => ?_, fun _ h => absurd h List.not_mem_nil⟩
    · dsimp only at h
      split at h
      · exact ih _ _ _ h
      · cases h

set_option maxRecDepth 20000 in
theorem b_Mo_strokesOfAll (Γ : sv_Ga) (res : Int32 × sv_S) (X : sv_Ok Γ ev_Mo_strokesOfAll cX12_strokesOfAll sv_rI res) (as : List sv_V) (σ : sv_S) (h : n_Mo_strokesOfAll as σ = some res) : sv_T Γ 0 (sv_e0 3 as) [] σ := by
  unfold n_Mo_strokesOfAll at h
  split at h
  · refine sv_run X d_Mo_strokesOfAll (K := kk_Mo_strokesOfAll) (sv_lk_all (P := fun pc (k : sv_Lo → List sv_V → sv_S → Option (Int32 × sv_S)) => ∀ lo st σ, k lo st σ = some res → sv_T Γ pc lo st σ) ?_) _ _ _ _ _ ((e_Mo_strokesOfAll _).trans h)
    clear h
    refine List.forall_mem_cons.mpr ⟨fun lo st σ h => ?_, fun _ h => absurd h List.not_mem_nil⟩
    · dsimp only at h
      split at h
      · exact w_Mo_strokesOfAll_4 X _ _ _ _ h
      · cases h
  · cases h
theorem a_Mo_strokesOfAll (as : List sv_V) (σ : sv_S) (x : Int32 × sv_S) (h : n_Mo_strokesOfAll as σ = some x) : sv_args 3 ev_Mo_strokesOfAll.2.2.2.1 as := by
  unfold n_Mo_strokesOfAll at h
  split at h
  · exact ⟨Nat.le_of_ble_eq_true rfl, fun _ v hv => by
      simp only [List.mem_cons, List.not_mem_nil, or_false] at hv
      rcases hv with rfl <;> trivial⟩
  · cases h
theorem g_Mo_strokesOfAll (as : List sv_V) (σ : sv_S) (x : Option sv_V × sv_S) (h : sv_gI n_Mo_strokesOfAll as σ = some x) : ∃ r i as', as = sv_R r i :: as' ∧ sv_kd r i = .inl 12 := by
  obtain ⟨_, _, h, -⟩ := sv_b_some h
  unfold n_Mo_strokesOfAll at h
  split at h
  · exact ⟨_, _, _, rfl, rfl⟩
  · cases h

set_option maxRecDepth 20000 in
theorem m_Mo_strokesOfAll (l : Launch) : sv_M l yX12_strokesOfAll cX12_strokesOfAll 3 (some .int) (sv_gI n_Mo_strokesOfAll) 1 := by
  refine sv_mI (E := ev_Mo_strokesOfAll) (by decide +kernel) (ln_gen fk_12 kk_12 (sv_ns _ (fun _ => rfl) _)) rfl ?_ a_Mo_strokesOfAll b_Mo_strokesOfAll
  intro p e R s m args below meth c cells slots Q base ad dC dI cA n0 S hkn hR hf pc n f hcs
  refine sv_lk_all (P := fun pc (x : Nat × sv_F) => sv_cok p l e R s m args below meth c cells slots Q base ad dC dI cA true 3 n0 pc x.1 x.2) ?_ pc (n, f) hcs
  exact List.forall_mem_cons.mpr ⟨(sv_cV S hkn (m_Mo_of l) ⟨Nat.le_trans (by decide) hR.1, Nat.le_trans (by decide) hR.2⟩ (by decide) hf rfl (g_Mo_of) (sv_w5 tw_1120 tw_1122 tw_10 tw_65 tw_1123) (by decide +kernel) (sv_dc3 d_Mo_strokesOfAll (pc := 18) rfl rfl)).I,
      fun _ h => absurd h List.not_mem_nil⟩
noncomputable def f_Mo_fine (σ : sv_S) : Option (Int32 × sv_S) :=
  sv_b (f_Mo_counts (2 : Int32) σ) (fun v1 σ2 =>
    sv_if (0 ≤ v1)
      (sv_b (f_Mo_strokesOfAll σ2) (fun v3 σ4 =>
        sv_g (sv_in (109 : Int32) 128) (sv_g (sv_in (3 : Int32) 3086) (sv_g (sv_in (98 : Int32) 128) (sv_b (f_Mo_worked v1 (sv_up (sv_up σ4 31 28 ((109 : Int32).toNatClampNeg) v3) 31 28 ((98 : Int32).toNatClampNeg) ((sv_up σ4 31 28 ((109 : Int32).toNatClampNeg) v3) 31 0 ((3 : Int32).toNatClampNeg)))) (fun v5 σ6 =>
          some (v5, σ6)))))))
      (sv_b (f_Mo_strokesOfAll σ2) (fun v7 σ8 =>
        some (v7, σ8))))
noncomputable def n_Mo_fine : List sv_V → sv_S → Option (Int32 × sv_S)
  | [.inr (.inr (some (30, 0)))], σ => f_Mo_fine σ
  | _, _ => none
def cd_Mo_fine : sv_C := [(0, (.aload_n 0, (sv_N, (1, (0, []))))), (1, (.iconst 2, (.inl (2 : Int32), (2, (0, []))))), (2, (.invokevirtual 101, (sv_N, (5, (0, []))))), (5, (.istore_n 1, (sv_N, (6, (0, []))))), (6, (.iload_n 1, (sv_N, (7, (0, []))))), (7, (.ifCond .ge 8, (sv_N, (10, (15, []))))), (10, (.aload_n 0, (sv_N, (11, (0, []))))), (11, (.invokevirtual 194, (sv_N, (14, (0, []))))), (14, (.ireturn, (sv_N, (15, (0, []))))), (15, (.aload_n 0, (sv_N, (16, (0, []))))), (16, (.getfield 55, (sv_N, (19, (0, []))))), (19, (.bipush 109, (.inl (109 : Int32), (21, (0, []))))), (21, (.aload_n 0, (sv_N, (22, (0, []))))), (22, (.invokevirtual 194, (sv_N, (25, (0, []))))), (25, (.iastore, (sv_N, (26, (0, []))))), (26, (.aload_n 0, (sv_N, (27, (0, []))))), (27, (.getfield 55, (sv_N, (30, (0, []))))), (30, (.bipush 98, (.inl (98 : Int32), (32, (0, []))))), (32, (.aload_n 0, (sv_N, (33, (0, []))))), (33, (.getfield 7, (sv_N, (36, (0, []))))), (36, (.iconst 3, (.inl (3 : Int32), (37, (0, []))))), (37, (.iaload, (sv_N, (38, (0, []))))), (38, (.iastore, (sv_N, (39, (0, []))))), (39, (.aload_n 0, (sv_N, (40, (0, []))))), (40, (.iload_n 1, (sv_N, (41, (0, []))))), (41, (.invokevirtual 107, (sv_N, (44, (0, []))))), (44, (.ireturn, (sv_N, (45, (0, [])))))]
noncomputable def ev_Mo_fine : sv_E := (fun i => sv_lk i fl_12, (fun i => sv_lk i kc_12, (fun _ => 0, (true, (fun pc => sv_lk pc [(2, (2, .inl n_Mo_counts)), (11, (1, .inl n_Mo_strokesOfAll)), (22, (1, .inl n_Mo_strokesOfAll)), (41, (2, .inl n_Mo_worked))], none)))))
noncomputable def kk_Mo_fine : sv_K (Int32 × sv_S) := fun pc => sv_lk pc []
set_option maxRecDepth 20000 in
theorem e_Mo_fine (σ : sv_S) : sv_ex ev_Mo_fine sv_rI kk_Mo_fine cd_Mo_fine 29 0 [some (.inr (.inr (some (30, 0)))), none] [] σ = f_Mo_fine σ := by
  unfold f_Mo_fine
  delta ev_Mo_fine kk_Mo_fine n_Mo_counts n_Mo_strokesOfAll n_Mo_worked
  generalize f_Mo_counts = c0
  generalize f_Mo_strokesOfAll = c1
  generalize f_Mo_worked = c2
  rfl
theorem d_Mo_fine : cd_Mo_fine.all (sv_dk cX12_fine) = true := by decide +kernel
set_option maxRecDepth 20000 in
theorem b_Mo_fine (Γ : sv_Ga) (res : Int32 × sv_S) (X : sv_Ok Γ ev_Mo_fine cX12_fine sv_rI res) (as : List sv_V) (σ : sv_S) (h : n_Mo_fine as σ = some res) : sv_T Γ 0 (sv_e0 2 as) [] σ := by
  unfold n_Mo_fine at h
  split at h
  · refine sv_run X d_Mo_fine (K := kk_Mo_fine) (sv_lk_all (P := fun pc (k : sv_Lo → List sv_V → sv_S → Option (Int32 × sv_S)) => ∀ lo st σ, k lo st σ = some res → sv_T Γ pc lo st σ) ?_) _ _ _ _ _ ((e_Mo_fine _).trans h)
    clear h
    exact fun _ h => absurd h List.not_mem_nil
  · cases h
theorem a_Mo_fine (as : List sv_V) (σ : sv_S) (x : Int32 × sv_S) (h : n_Mo_fine as σ = some x) : sv_args 2 ev_Mo_fine.2.2.2.1 as := by
  unfold n_Mo_fine at h
  split at h
  · exact ⟨Nat.le_of_ble_eq_true rfl, fun _ v hv => by
      simp only [List.mem_cons, List.not_mem_nil, or_false] at hv
      rcases hv with rfl <;> trivial⟩
  · cases h
theorem g_Mo_fine (as : List sv_V) (σ : sv_S) (x : Option sv_V × sv_S) (h : sv_gI n_Mo_fine as σ = some x) : ∃ r i as', as = sv_R r i :: as' ∧ sv_kd r i = .inl 12 := by
  obtain ⟨_, _, h, -⟩ := sv_b_some h
  unfold n_Mo_fine at h
  split at h
  · exact ⟨_, _, _, rfl, rfl⟩
  · cases h
theorem tw_32 : Cond.selects RX12 yX12_strokesOfAll yX12_strokesOfAll ∈ gw_tbl := gw_at 32 (by decide +kernel) rfl
theorem tw_1310 : Cond.methodLink RX12 194 yX12_strokesOfAll ∈ gw_tbl := gw_at 1310 (by decide +kernel) rfl
theorem tw_1312 : Cond.instanceMethod yX12_strokesOfAll ∈ gw_tbl := gw_at 1312 (by decide +kernel) rfl
theorem tw_1313 : Cond.code yX12_strokesOfAll cX12_strokesOfAll 3 (some .int) ∈ gw_tbl := gw_at 1313 (by decide +kernel) rfl
set_option maxRecDepth 20000 in
theorem m_Mo_fine (l : Launch) : sv_M l yX12_fine cX12_fine 2 (some .int) (sv_gI n_Mo_fine) 2 := by
  refine sv_mI (E := ev_Mo_fine) (by decide +kernel) (ln_gen fk_12 kk_12 (sv_ns _ (fun _ => rfl) _)) rfl ?_ a_Mo_fine b_Mo_fine
  intro p e R s m args below meth c cells slots Q base ad dC dI cA n0 S hkn hR hf pc n f hcs
  refine sv_lk_all (P := fun pc (x : Nat × sv_F) => sv_cok p l e R s m args below meth c cells slots Q base ad dC dI cA true 2 n0 pc x.1 x.2) ?_ pc (n, f) hcs
  exact List.forall_mem_cons.mpr ⟨(sv_cV S hkn (m_Mo_counts l) ⟨Nat.le_trans (by decide) hR.1, Nat.le_trans (by decide) hR.2⟩ (by decide) hf rfl (g_Mo_counts) (sv_w5 tw_1137 tw_1139 tw_14 tw_65 tw_1140) (by decide +kernel) (sv_dc3 d_Mo_fine (pc := 2) rfl rfl)).I,
      List.forall_mem_cons.mpr ⟨(sv_cV S hkn (m_Mo_strokesOfAll l) ⟨Nat.le_trans (by decide) hR.1, Nat.le_trans (by decide) hR.2⟩ (by decide) hf rfl (g_Mo_strokesOfAll) (sv_w5 tw_1310 tw_1312 tw_32 tw_65 tw_1313) (by decide +kernel) (sv_dc3 d_Mo_fine (pc := 11) rfl rfl)).I,
      List.forall_mem_cons.mpr ⟨(sv_cV S hkn (m_Mo_strokesOfAll l) ⟨Nat.le_trans (by decide) hR.1, Nat.le_trans (by decide) hR.2⟩ (by decide) hf rfl (g_Mo_strokesOfAll) (sv_w5 tw_1310 tw_1312 tw_32 tw_65 tw_1313) (by decide +kernel) (sv_dc3 d_Mo_fine (pc := 22) rfl rfl)).I,
      List.forall_mem_cons.mpr ⟨(sv_cV S hkn (m_Mo_worked l) ⟨Nat.le_trans (by decide) hR.1, Nat.le_trans (by decide) hR.2⟩ (by decide) hf rfl (g_Mo_worked) (sv_w5 tw_1149 tw_1151 tw_17 tw_65 tw_1152) (by decide +kernel) (sv_dc3 d_Mo_fine (pc := 41) rfl rfl)).I,
      fun _ h => absurd h List.not_mem_nil⟩⟩⟩⟩
noncomputable def f_Mo_feed_47 (k18 : Int32 → Int32 → Int32 → Int32 → sv_S → Option (Int32 × sv_S)) (x1 : Int32) (x2 : Int32) (x3 : Int32) (x4 : Int32) (y0 : Int32) (σ : sv_S) : Option (Int32 × sv_S) :=
    sv_g (¬ (4 : Int32) = 0) (sv_g (sv_in (σ 30 0 17) 96) (let σ1 := sv_up (sv_up σ 31 16 ((σ 30 0 17).toNatClampNeg) ((y0 >>> (((24 : Int32) - ((8 : Int32) * (x4 - x4 / (4 : Int32) * (4 : Int32)))) &&& 31)) &&& (255 : Int32))) 30 0 17 (((sv_up σ 31 16 ((σ 30 0 17).toNatClampNeg) ((y0 >>> (((24 : Int32) - ((8 : Int32) * (x4 - x4 / (4 : Int32) * (4 : Int32)))) &&& 31)) &&& (255 : Int32))) 30 0 17) + (1 : Int32))
    k18 x1 x2 x3 (x4 + (1 : Int32)) σ1))
noncomputable def f_Mo_feed_18 : Nat → Int32 → Int32 → Int32 → Int32 → sv_S → Option (Int32 × sv_S)
  | 0, _, _, _, _, _ => none
  | n + 1, x1, x2, x3, x4, σ =>
    sv_if ((12 : Int32) ≤ x4)
      (some (σ 30 0 17, σ))
      (sv_if ((4 : Int32) ≤ x4)
        (sv_if ((8 : Int32) ≤ x4)
          (f_Mo_feed_47 (f_Mo_feed_18 n) x1 x2 x3 x4 x3 σ)
          (f_Mo_feed_47 (f_Mo_feed_18 n) x1 x2 x3 x4 x2 σ))
        (f_Mo_feed_47 (f_Mo_feed_18 n) x1 x2 x3 x4 x1 σ))
noncomputable def f_Mo_feed (a1 : Int32) (a2 : Int32) (a3 : Int32) (σ : sv_S) : Option (Int32 × sv_S) :=
  sv_if (((σ 30 0 17) + (12 : Int32)) ≤ (96 : Int32))
    (f_Mo_feed_18 sv_fu a1 a2 a3 (0 : Int32) σ)
    (some ((-1000000003 : Int32), σ))
noncomputable def n_Mo_feed : List sv_V → sv_S → Option (Int32 × sv_S)
  | [.inr (.inr (some (30, 0))), .inl a1, .inl a2, .inl a3], σ => f_Mo_feed a1 a2 a3 σ
  | _, _ => none
def cd_Mo_feed : sv_C := [(0, (.aload_n 0, (sv_N, (1, (0, []))))), (1, (.getfield 197, (sv_N, (4, (0, []))))), (4, (.bipush 12, (.inl (12 : Int32), (6, (0, []))))), (6, (.iadd, (sv_N, (7, (0, []))))), (7, (.bipush 96, (.inl (96 : Int32), (9, (0, []))))), (9, (.if_icmp .le 6, (sv_N, (12, (15, []))))), (12, (.ldc 85, (sv_N, (14, (0, []))))), (14, (.ireturn, (sv_N, (15, (0, []))))), (15, (.iconst 0, (.inl (0 : Int32), (16, (0, []))))), (16, (.istore 4, (sv_N, (18, (0, []))))), (18, (.iload 4, (sv_N, (20, (0, []))))), (20, (.bipush 12, (.inl (12 : Int32), (22, (0, []))))), (22, (.if_icmp .ge 69, (sv_N, (25, (91, []))))), (25, (.iload 4, (sv_N, (27, (0, []))))), (27, (.iconst 4, (.inl (4 : Int32), (28, (0, []))))), (28, (.if_icmp .ge 7, (sv_N, (31, (35, []))))), (31, (.iload_n 1, (sv_N, (32, (0, []))))), (32, (.goto 15, (sv_N, (35, (47, []))))), (35, (.iload 4, (sv_N, (37, (0, []))))), (37, (.bipush 8, (.inl (8 : Int32), (39, (0, []))))), (39, (.if_icmp .ge 7, (sv_N, (42, (46, []))))), (42, (.iload_n 2, (sv_N, (43, (0, []))))), (43, (.goto 4, (sv_N, (46, (47, []))))), (46, (.iload_n 3, (sv_N, (47, (0, []))))), (47, (.istore 5, (sv_N, (49, (0, []))))), (49, (.aload_n 0, (sv_N, (50, (0, []))))), (50, (.getfield 52, (sv_N, (53, (0, []))))), (53, (.aload_n 0, (sv_N, (54, (0, []))))), (54, (.getfield 197, (sv_N, (57, (0, []))))), (57, (.iload 5, (sv_N, (59, (0, []))))), (59, (.bipush 24, (.inl (24 : Int32), (61, (0, []))))), (61, (.bipush 8, (.inl (8 : Int32), (63, (0, []))))), (63, (.iload 4, (sv_N, (65, (0, []))))), (65, (.iconst 4, (.inl (4 : Int32), (66, (0, []))))), (66, (.irem, (sv_N, (67, (0, []))))), (67, (.imul, (sv_N, (68, (0, []))))), (68, (.isub, (sv_N, (69, (0, []))))), (69, (.ishr, (sv_N, (70, (0, []))))), (70, (.sipush 255, (.inl (255 : Int32), (73, (0, []))))), (73, (.iand, (sv_N, (74, (0, []))))), (74, (.iastore, (sv_N, (75, (0, []))))), (75, (.aload_n 0, (sv_N, (76, (0, []))))), (76, (.dup, (sv_N, (77, (0, []))))), (77, (.getfield 197, (sv_N, (80, (0, []))))), (80, (.iconst 1, (.inl (1 : Int32), (81, (0, []))))), (81, (.iadd, (sv_N, (82, (0, []))))), (82, (.putfield 197, (sv_N, (85, (0, []))))), (85, (.iinc 4 1, (.inl (1 : Int32), (88, (0, []))))), (88, (.goto (-70), (sv_N, (91, (18, []))))), (91, (.aload_n 0, (sv_N, (92, (0, []))))), (92, (.getfield 197, (sv_N, (95, (0, []))))), (95, (.ireturn, (sv_N, (96, (0, [])))))]
noncomputable def ev_Mo_feed : sv_E := (fun i => sv_lk i fl_12, (fun i => sv_lk i kc_12, (fun _ => 0, (true, (fun pc => sv_lk pc [], none)))))
noncomputable def kk_Mo_feed_47 (k18 : Int32 → Int32 → Int32 → Int32 → sv_S → Option (Int32 × sv_S)) : sv_K (Int32 × sv_S) := fun pc => sv_lk pc [(18, fun lo st σ => match lo, st with
    | [some (.inr (.inr (some (30, 0)))), some (.inl x1), some (.inl x2), some (.inl x3), some (.inl x4), _], [] => k18 x1 x2 x3 x4 σ
    | _, _ => none)]
set_option maxRecDepth 20000 in
theorem e_Mo_feed_47 (k18 : Int32 → Int32 → Int32 → Int32 → sv_S → Option (Int32 × sv_S)) (x1 : Int32) (x2 : Int32) (x3 : Int32) (x4 : Int32) (y0 : Int32) (z5 : Option sv_V) (σ : sv_S) : sv_ex ev_Mo_feed sv_rI (kk_Mo_feed_47 k18) cd_Mo_feed 54 47 [some (.inr (.inr (some (30, 0)))), some (.inl x1), some (.inl x2), some (.inl x3), some (.inl x4), z5] [.inl y0] σ = f_Mo_feed_47 k18 x1 x2 x3 x4 y0 σ := by
  unfold f_Mo_feed_47
  delta ev_Mo_feed kk_Mo_feed_47
  generalize f_Mo_feed_18 = c0
  rfl
noncomputable def kk_Mo_feed_18 (n : Nat) : sv_K (Int32 × sv_S) := fun pc => sv_lk pc [(47, fun lo st σ => match lo, st with
    | [some (.inr (.inr (some (30, 0)))), some (.inl x1), some (.inl x2), some (.inl x3), some (.inl x4), _], [.inl y0] => f_Mo_feed_47 (f_Mo_feed_18 n) x1 x2 x3 x4 y0 σ
    | _, _ => none)]
set_option maxRecDepth 20000 in
theorem e_Mo_feed_18 (n : Nat) (x1 : Int32) (x2 : Int32) (x3 : Int32) (x4 : Int32) (z5 : Option sv_V) (σ : sv_S) : sv_ex ev_Mo_feed sv_rI (kk_Mo_feed_18 n) cd_Mo_feed 54 18 [some (.inr (.inr (some (30, 0)))), some (.inl x1), some (.inl x2), some (.inl x3), some (.inl x4), z5] [] σ = f_Mo_feed_18 (n + 1) x1 x2 x3 x4 σ := by
  rw [f_Mo_feed_18.eq_2]
  delta ev_Mo_feed kk_Mo_feed_18
  generalize f_Mo_feed_47 = c0
  generalize f_Mo_feed_18 = c1
  rfl
noncomputable def kk_Mo_feed : sv_K (Int32 × sv_S) := fun pc => sv_lk pc [(18, fun lo st σ => match lo, st with
    | [some (.inr (.inr (some (30, 0)))), some (.inl x1), some (.inl x2), some (.inl x3), some (.inl x4), _], [] => f_Mo_feed_18 sv_fu x1 x2 x3 x4 σ
    | _, _ => none)]
set_option maxRecDepth 20000 in
theorem e_Mo_feed (a1 : Int32) (a2 : Int32) (a3 : Int32) (σ : sv_S) : sv_ex ev_Mo_feed sv_rI kk_Mo_feed cd_Mo_feed 54 0 [some (.inr (.inr (some (30, 0)))), some (.inl a1), some (.inl a2), some (.inl a3), none, none] [] σ = f_Mo_feed a1 a2 a3 σ := by
  unfold f_Mo_feed
  delta ev_Mo_feed kk_Mo_feed
  generalize f_Mo_feed_18 = c0
  rfl
theorem d_Mo_feed : cd_Mo_feed.all (sv_dk cX12_feed) = true := by decide +kernel
set_option maxRecDepth 20000 in
theorem w_Mo_feed_47 {Γ : sv_Ga} {res : Int32 × sv_S} (X : sv_Ok Γ ev_Mo_feed cX12_feed sv_rI res) (k18 : Int32 → Int32 → Int32 → Int32 → sv_S → Option (Int32 × sv_S)) (h18 : ∀ (x1 : Int32) (x2 : Int32) (x3 : Int32) (x4 : Int32) (z5 : Option sv_V) (σ : sv_S), k18 x1 x2 x3 x4 σ = some res → sv_T Γ 18 [some (.inr (.inr (some (30, 0)))), some (.inl x1), some (.inl x2), some (.inl x3), some (.inl x4), z5] [] σ) : ∀ (x1 : Int32) (x2 : Int32) (x3 : Int32) (x4 : Int32) (y0 : Int32) (z5 : Option sv_V) (σ : sv_S), f_Mo_feed_47 k18 x1 x2 x3 x4 y0 σ = some res → sv_T Γ 47 [some (.inr (.inr (some (30, 0)))), some (.inl x1), some (.inl x2), some (.inl x3), some (.inl x4), z5] [.inl y0] σ := by
  intro x1 x2 x3 x4 y0 z5 σ h
  refine sv_run X d_Mo_feed (K := kk_Mo_feed_47 k18) (sv_lk_all (P := fun pc (k : sv_Lo → List sv_V → sv_S → Option (Int32 × sv_S)) => ∀ lo st σ, k lo st σ = some res → sv_T Γ pc lo st σ) ?_) _ _ _ _ _ ((e_Mo_feed_47 k18 x1 x2 x3 x4 y0 z5 σ).trans h)
  clear h
  refine List.forall_mem_cons.mpr ⟨fun lo st σ h => ?_, fun _ h => absurd h List.not_mem_nil⟩
  · dsimp only at h
    split at h
    · exact h18 _ _ _ _ _ _ h
    · cases h

set_option maxRecDepth 20000 in
theorem w_Mo_feed_18 {Γ : sv_Ga} {res : Int32 × sv_S} (X : sv_Ok Γ ev_Mo_feed cX12_feed sv_rI res) : ∀ (n : Nat) (x1 : Int32) (x2 : Int32) (x3 : Int32) (x4 : Int32) (z5 : Option sv_V) (σ : sv_S), f_Mo_feed_18 n x1 x2 x3 x4 σ = some res → sv_T Γ 18 [some (.inr (.inr (some (30, 0)))), some (.inl x1), some (.inl x2), some (.inl x3), some (.inl x4), z5] [] σ := by
  intro n
  induction n with
  | zero =>
    intro x1 x2 x3 x4 z5 σ h
    rw [f_Mo_feed_18.eq_1] at h
    cases h
  | succ n ih =>
    intro x1 x2 x3 x4 z5 σ h
    refine sv_run X d_Mo_feed (K := kk_Mo_feed_18 n) (sv_lk_all (P := fun pc (k : sv_Lo → List sv_V → sv_S → Option (Int32 × sv_S)) => ∀ lo st σ, k lo st σ = some res → sv_T Γ pc lo st σ) ?_) _ _ _ _ _ ((e_Mo_feed_18 n x1 x2 x3 x4 z5 σ).trans h)
    clear h
    refine List.forall_mem_cons.mpr ⟨fun lo st σ h => ?_, fun _ h => absurd h List.not_mem_nil⟩
    · dsimp only at h
      split at h
      · exact w_Mo_feed_47 X _ ih _ _ _ _ _ _ _ h
      · cases h

set_option maxRecDepth 20000 in
theorem b_Mo_feed (Γ : sv_Ga) (res : Int32 × sv_S) (X : sv_Ok Γ ev_Mo_feed cX12_feed sv_rI res) (as : List sv_V) (σ : sv_S) (h : n_Mo_feed as σ = some res) : sv_T Γ 0 (sv_e0 6 as) [] σ := by
  unfold n_Mo_feed at h
  split at h
  · refine sv_run X d_Mo_feed (K := kk_Mo_feed) (sv_lk_all (P := fun pc (k : sv_Lo → List sv_V → sv_S → Option (Int32 × sv_S)) => ∀ lo st σ, k lo st σ = some res → sv_T Γ pc lo st σ) ?_) _ _ _ _ _ ((e_Mo_feed _ _ _ _).trans h)
    clear h
    refine List.forall_mem_cons.mpr ⟨fun lo st σ h => ?_, fun _ h => absurd h List.not_mem_nil⟩
    · dsimp only at h
      split at h
      · exact w_Mo_feed_18 X _ _ _ _ _ _ _ h
      · cases h
  · cases h
theorem a_Mo_feed (as : List sv_V) (σ : sv_S) (x : Int32 × sv_S) (h : n_Mo_feed as σ = some x) : sv_args 6 ev_Mo_feed.2.2.2.1 as := by
  unfold n_Mo_feed at h
  split at h
  · exact ⟨Nat.le_of_ble_eq_true rfl, fun _ v hv => by
      simp only [List.mem_cons, List.not_mem_nil, or_false] at hv
      rcases hv with rfl | rfl | rfl | rfl <;> trivial⟩
  · cases h
theorem g_Mo_feed (as : List sv_V) (σ : sv_S) (x : Option sv_V × sv_S) (h : sv_gI n_Mo_feed as σ = some x) : ∃ r i as', as = sv_R r i :: as' ∧ sv_kd r i = .inl 12 := by
  obtain ⟨_, _, h, -⟩ := sv_b_some h
  unfold n_Mo_feed at h
  split at h
  · exact ⟨_, _, _, rfl, rfl⟩
  · cases h

set_option maxRecDepth 20000 in
theorem m_Mo_feed (l : Launch) : sv_M l yX12_feed cX12_feed 6 (some .int) (sv_gI n_Mo_feed) 0 := by
  refine sv_mI (E := ev_Mo_feed) (by decide +kernel) (ln_gen fk_12 kk_12 (sv_ns _ (fun _ => rfl) _)) rfl ?_ a_Mo_feed b_Mo_feed
  intro p e R s m args below meth c cells slots Q base ad dC dI cA n0 S hkn hR hf pc n f hcs
  refine sv_lk_all (P := fun pc (x : Nat × sv_F) => sv_cok p l e R s m args below meth c cells slots Q base ad dC dI cA true 6 n0 pc x.1 x.2) ?_ pc (n, f) hcs
  exact fun _ h => absurd h List.not_mem_nil
noncomputable def f_Mo_trim (a1 : Int32) (σ : sv_S) : Option (Int32 × sv_S) :=
  sv_b (f_Mo_isIn (a1.toInt64) (0 : Int64) ((σ 30 0 17).toInt64) σ) (fun v1 σ2 =>
    sv_if (v1 = 0)
      (some ((-1000000001 : Int32), σ2))
      (let σ3 := sv_up σ2 30 0 17 a1
      some (a1, σ3)))
noncomputable def n_Mo_trim : List sv_V → sv_S → Option (Int32 × sv_S)
  | [.inr (.inr (some (30, 0))), .inl a1], σ => f_Mo_trim a1 σ
  | _, _ => none
def cd_Mo_trim : sv_C := [(0, (.iload_n 1, (sv_N, (1, (0, []))))), (1, (.i2l, (sv_N, (2, (0, []))))), (2, (.lconst 0, (.inr (.inl (0 : Int64)), (3, (0, []))))), (3, (.aload_n 0, (sv_N, (4, (0, []))))), (4, (.getfield 197, (sv_N, (7, (0, []))))), (7, (.i2l, (sv_N, (8, (0, []))))), (8, (.invokestatic 71, (sv_N, (11, (0, []))))), (11, (.ifCond .ne 6, (sv_N, (14, (17, []))))), (14, (.ldc 84, (sv_N, (16, (0, []))))), (16, (.ireturn, (sv_N, (17, (0, []))))), (17, (.aload_n 0, (sv_N, (18, (0, []))))), (18, (.iload_n 1, (sv_N, (19, (0, []))))), (19, (.putfield 197, (sv_N, (22, (0, []))))), (22, (.iload_n 1, (sv_N, (23, (0, []))))), (23, (.ireturn, (sv_N, (24, (0, [])))))]
noncomputable def ev_Mo_trim : sv_E := (fun i => sv_lk i fl_12, (fun i => sv_lk i kc_12, (fun _ => 0, (true, (fun pc => sv_lk pc [(8, (3, .inl n_Mo_isIn))], none)))))
noncomputable def kk_Mo_trim : sv_K (Int32 × sv_S) := fun pc => sv_lk pc []
set_option maxRecDepth 20000 in
theorem e_Mo_trim (a1 : Int32) (σ : sv_S) : sv_ex ev_Mo_trim sv_rI kk_Mo_trim cd_Mo_trim 17 0 [some (.inr (.inr (some (30, 0)))), some (.inl a1)] [] σ = f_Mo_trim a1 σ := by
  unfold f_Mo_trim
  delta ev_Mo_trim kk_Mo_trim n_Mo_isIn
  generalize f_Mo_isIn = c0
  rfl
theorem d_Mo_trim : cd_Mo_trim.all (sv_dk cX12_trim) = true := by decide +kernel
set_option maxRecDepth 20000 in
theorem b_Mo_trim (Γ : sv_Ga) (res : Int32 × sv_S) (X : sv_Ok Γ ev_Mo_trim cX12_trim sv_rI res) (as : List sv_V) (σ : sv_S) (h : n_Mo_trim as σ = some res) : sv_T Γ 0 (sv_e0 2 as) [] σ := by
  unfold n_Mo_trim at h
  split at h
  · refine sv_run X d_Mo_trim (K := kk_Mo_trim) (sv_lk_all (P := fun pc (k : sv_Lo → List sv_V → sv_S → Option (Int32 × sv_S)) => ∀ lo st σ, k lo st σ = some res → sv_T Γ pc lo st σ) ?_) _ _ _ _ _ ((e_Mo_trim _ _).trans h)
    clear h
    exact fun _ h => absurd h List.not_mem_nil
  · cases h
theorem a_Mo_trim (as : List sv_V) (σ : sv_S) (x : Int32 × sv_S) (h : n_Mo_trim as σ = some x) : sv_args 2 ev_Mo_trim.2.2.2.1 as := by
  unfold n_Mo_trim at h
  split at h
  · exact ⟨Nat.le_of_ble_eq_true rfl, fun _ v hv => by
      simp only [List.mem_cons, List.not_mem_nil, or_false] at hv
      rcases hv with rfl | rfl <;> trivial⟩
  · cases h
theorem g_Mo_trim (as : List sv_V) (σ : sv_S) (x : Option sv_V × sv_S) (h : sv_gI n_Mo_trim as σ = some x) : ∃ r i as', as = sv_R r i :: as' ∧ sv_kd r i = .inl 12 := by
  obtain ⟨_, _, h, -⟩ := sv_b_some h
  unfold n_Mo_trim at h
  split at h
  · exact ⟨_, _, _, rfl, rfl⟩
  · cases h

set_option maxRecDepth 20000 in
theorem m_Mo_trim (l : Launch) : sv_M l yX12_trim cX12_trim 2 (some .int) (sv_gI n_Mo_trim) 1 := by
  refine sv_mI (E := ev_Mo_trim) (by decide +kernel) (ln_gen fk_12 kk_12 (sv_ns _ (fun _ => rfl) _)) rfl ?_ a_Mo_trim b_Mo_trim
  intro p e R s m args below meth c cells slots Q base ad dC dI cA n0 S hkn hR hf pc n f hcs
  refine sv_lk_all (P := fun pc (x : Nat × sv_F) => sv_cok p l e R s m args below meth c cells slots Q base ad dC dI cA true 2 n0 pc x.1 x.2) ?_ pc (n, f) hcs
  exact List.forall_mem_cons.mpr ⟨(sv_cS S hkn (m_Mo_isIn l) ⟨Nat.le_trans (by decide) hR.1, Nat.le_trans (by decide) hR.2⟩ (by decide) hf (sv_w4 tw_1098 tw_1099 tw_65 tw_1100) (by decide +kernel) (sv_dc3 d_Mo_trim (pc := 8) rfl rfl)).I,
      fun _ h => absurd h List.not_mem_nil⟩
noncomputable def f_Mo_isLetter (a1 : Int32) (σ : sv_S) : Option (Int32 × sv_S) :=
  sv_if ((σ 30 0 17) ≤ a1)
    (sv_g ((0 : Int32) = 0 ∨ (0 : Int32) = 1) (some ((0 : Int32), σ)))
    (sv_g (sv_in a1 96) (sv_b (f_Mo_isIn ((σ 31 16 (a1.toNatClampNeg)).toInt64) (97 : Int64) (122 : Int64) σ) (fun v1 σ2 =>
      sv_if (v1 = 0)
        (sv_g ((0 : Int32) = 0 ∨ (0 : Int32) = 1) (some ((0 : Int32), σ2)))
        (sv_g ((1 : Int32) = 0 ∨ (1 : Int32) = 1) (some ((1 : Int32), σ2))))))
noncomputable def n_Mo_isLetter : List sv_V → sv_S → Option (Int32 × sv_S)
  | [.inr (.inr (some (30, 0))), .inl a1], σ => f_Mo_isLetter a1 σ
  | _, _ => none
def cd_Mo_isLetter : sv_C := [(0, (.iload_n 1, (sv_N, (1, (0, []))))), (1, (.aload_n 0, (sv_N, (2, (0, []))))), (2, (.getfield 197, (sv_N, (5, (0, []))))), (5, (.if_icmp .ge 26, (sv_N, (8, (31, []))))), (8, (.aload_n 0, (sv_N, (9, (0, []))))), (9, (.getfield 52, (sv_N, (12, (0, []))))), (12, (.iload_n 1, (sv_N, (13, (0, []))))), (13, (.iaload, (sv_N, (14, (0, []))))), (14, (.i2l, (sv_N, (15, (0, []))))), (15, (.ldc2_w 200, (sv_N, (18, (0, []))))), (18, (.ldc2_w 202, (sv_N, (21, (0, []))))), (21, (.invokestatic 71, (sv_N, (24, (0, []))))), (24, (.ifCond .eq 7, (sv_N, (27, (31, []))))), (27, (.iconst 1, (.inl (1 : Int32), (28, (0, []))))), (28, (.goto 4, (sv_N, (31, (32, []))))), (31, (.iconst 0, (.inl (0 : Int32), (32, (0, []))))), (32, (.ireturn, (sv_N, (33, (0, [])))))]
noncomputable def ev_Mo_isLetter : sv_E := (fun i => sv_lk i fl_12, (fun i => sv_lk i kc_12, (fun _ => 0, (true, (fun pc => sv_lk pc [(21, (3, .inl n_Mo_isIn))], none)))))
noncomputable def kk_Mo_isLetter : sv_K (Int32 × sv_S) := fun pc => sv_lk pc []
set_option maxRecDepth 20000 in
theorem e_Mo_isLetter (a1 : Int32) (σ : sv_S) : sv_ex ev_Mo_isLetter sv_rZ kk_Mo_isLetter cd_Mo_isLetter 19 0 [some (.inr (.inr (some (30, 0)))), some (.inl a1)] [] σ = f_Mo_isLetter a1 σ := by
  unfold f_Mo_isLetter
  delta ev_Mo_isLetter kk_Mo_isLetter n_Mo_isIn
  generalize f_Mo_isIn = c0
  rfl
theorem d_Mo_isLetter : cd_Mo_isLetter.all (sv_dk cX12_isLetter) = true := by decide +kernel
set_option maxRecDepth 20000 in
theorem b_Mo_isLetter (Γ : sv_Ga) (res : Int32 × sv_S) (X : sv_Ok Γ ev_Mo_isLetter cX12_isLetter sv_rZ res) (as : List sv_V) (σ : sv_S) (h : n_Mo_isLetter as σ = some res) : sv_T Γ 0 (sv_e0 2 as) [] σ := by
  unfold n_Mo_isLetter at h
  split at h
  · refine sv_run X d_Mo_isLetter (K := kk_Mo_isLetter) (sv_lk_all (P := fun pc (k : sv_Lo → List sv_V → sv_S → Option (Int32 × sv_S)) => ∀ lo st σ, k lo st σ = some res → sv_T Γ pc lo st σ) ?_) _ _ _ _ _ ((e_Mo_isLetter _ _).trans h)
    clear h
    exact fun _ h => absurd h List.not_mem_nil
  · cases h
theorem a_Mo_isLetter (as : List sv_V) (σ : sv_S) (x : Int32 × sv_S) (h : n_Mo_isLetter as σ = some x) : sv_args 2 ev_Mo_isLetter.2.2.2.1 as := by
  unfold n_Mo_isLetter at h
  split at h
  · exact ⟨Nat.le_of_ble_eq_true rfl, fun _ v hv => by
      simp only [List.mem_cons, List.not_mem_nil, or_false] at hv
      rcases hv with rfl | rfl <;> trivial⟩
  · cases h
theorem g_Mo_isLetter (as : List sv_V) (σ : sv_S) (x : Option sv_V × sv_S) (h : sv_gI n_Mo_isLetter as σ = some x) : ∃ r i as', as = sv_R r i :: as' ∧ sv_kd r i = .inl 12 := by
  obtain ⟨_, _, h, -⟩ := sv_b_some h
  unfold n_Mo_isLetter at h
  split at h
  · exact ⟨_, _, _, rfl, rfl⟩
  · cases h

set_option maxRecDepth 20000 in
theorem m_Mo_isLetter (l : Launch) : sv_M l yX12_isLetter cX12_isLetter 2 (some .boolean) (sv_gI n_Mo_isLetter) 1 := by
  refine sv_mZ (E := ev_Mo_isLetter) (by decide +kernel) (ln_gen fk_12 kk_12 (sv_ns _ (fun _ => rfl) _)) rfl ?_ a_Mo_isLetter b_Mo_isLetter
  intro p e R s m args below meth c cells slots Q base ad dC dI cA n0 S hkn hR hf pc n f hcs
  refine sv_lk_all (P := fun pc (x : Nat × sv_F) => sv_cok p l e R s m args below meth c cells slots Q base ad dC dI cA true 2 n0 pc x.1 x.2) ?_ pc (n, f) hcs
  exact List.forall_mem_cons.mpr ⟨(sv_cS S hkn (m_Mo_isIn l) ⟨Nat.le_trans (by decide) hR.1, Nat.le_trans (by decide) hR.2⟩ (by decide) hf (sv_w4 tw_1098 tw_1099 tw_65 tw_1100) (by decide +kernel) (sv_dc3 d_Mo_isLetter (pc := 21) rfl rfl)).I,
      fun _ h => absurd h List.not_mem_nil⟩
noncomputable def f_Mo_isDigit (a1 : Int32) (σ : sv_S) : Option (Int32 × sv_S) :=
  sv_if ((σ 30 0 17) ≤ a1)
    (sv_g ((0 : Int32) = 0 ∨ (0 : Int32) = 1) (some ((0 : Int32), σ)))
    (sv_g (sv_in a1 96) (sv_b (f_Mo_isIn ((σ 31 16 (a1.toNatClampNeg)).toInt64) (48 : Int64) (57 : Int64) σ) (fun v1 σ2 =>
      sv_if (v1 = 0)
        (sv_g ((0 : Int32) = 0 ∨ (0 : Int32) = 1) (some ((0 : Int32), σ2)))
        (sv_g ((1 : Int32) = 0 ∨ (1 : Int32) = 1) (some ((1 : Int32), σ2))))))
noncomputable def n_Mo_isDigit : List sv_V → sv_S → Option (Int32 × sv_S)
  | [.inr (.inr (some (30, 0))), .inl a1], σ => f_Mo_isDigit a1 σ
  | _, _ => none
def cd_Mo_isDigit : sv_C := [(0, (.iload_n 1, (sv_N, (1, (0, []))))), (1, (.aload_n 0, (sv_N, (2, (0, []))))), (2, (.getfield 197, (sv_N, (5, (0, []))))), (5, (.if_icmp .ge 26, (sv_N, (8, (31, []))))), (8, (.aload_n 0, (sv_N, (9, (0, []))))), (9, (.getfield 52, (sv_N, (12, (0, []))))), (12, (.iload_n 1, (sv_N, (13, (0, []))))), (13, (.iaload, (sv_N, (14, (0, []))))), (14, (.i2l, (sv_N, (15, (0, []))))), (15, (.ldc2_w 204, (sv_N, (18, (0, []))))), (18, (.ldc2_w 206, (sv_N, (21, (0, []))))), (21, (.invokestatic 71, (sv_N, (24, (0, []))))), (24, (.ifCond .eq 7, (sv_N, (27, (31, []))))), (27, (.iconst 1, (.inl (1 : Int32), (28, (0, []))))), (28, (.goto 4, (sv_N, (31, (32, []))))), (31, (.iconst 0, (.inl (0 : Int32), (32, (0, []))))), (32, (.ireturn, (sv_N, (33, (0, [])))))]
noncomputable def ev_Mo_isDigit : sv_E := (fun i => sv_lk i fl_12, (fun i => sv_lk i kc_12, (fun _ => 0, (true, (fun pc => sv_lk pc [(21, (3, .inl n_Mo_isIn))], none)))))
noncomputable def kk_Mo_isDigit : sv_K (Int32 × sv_S) := fun pc => sv_lk pc []
set_option maxRecDepth 20000 in
theorem e_Mo_isDigit (a1 : Int32) (σ : sv_S) : sv_ex ev_Mo_isDigit sv_rZ kk_Mo_isDigit cd_Mo_isDigit 19 0 [some (.inr (.inr (some (30, 0)))), some (.inl a1)] [] σ = f_Mo_isDigit a1 σ := by
  unfold f_Mo_isDigit
  delta ev_Mo_isDigit kk_Mo_isDigit n_Mo_isIn
  generalize f_Mo_isIn = c0
  rfl
theorem d_Mo_isDigit : cd_Mo_isDigit.all (sv_dk cX12_isDigit) = true := by decide +kernel
set_option maxRecDepth 20000 in
theorem b_Mo_isDigit (Γ : sv_Ga) (res : Int32 × sv_S) (X : sv_Ok Γ ev_Mo_isDigit cX12_isDigit sv_rZ res) (as : List sv_V) (σ : sv_S) (h : n_Mo_isDigit as σ = some res) : sv_T Γ 0 (sv_e0 2 as) [] σ := by
  unfold n_Mo_isDigit at h
  split at h
  · refine sv_run X d_Mo_isDigit (K := kk_Mo_isDigit) (sv_lk_all (P := fun pc (k : sv_Lo → List sv_V → sv_S → Option (Int32 × sv_S)) => ∀ lo st σ, k lo st σ = some res → sv_T Γ pc lo st σ) ?_) _ _ _ _ _ ((e_Mo_isDigit _ _).trans h)
    clear h
    exact fun _ h => absurd h List.not_mem_nil
  · cases h
theorem a_Mo_isDigit (as : List sv_V) (σ : sv_S) (x : Int32 × sv_S) (h : n_Mo_isDigit as σ = some x) : sv_args 2 ev_Mo_isDigit.2.2.2.1 as := by
  unfold n_Mo_isDigit at h
  split at h
  · exact ⟨Nat.le_of_ble_eq_true rfl, fun _ v hv => by
      simp only [List.mem_cons, List.not_mem_nil, or_false] at hv
      rcases hv with rfl | rfl <;> trivial⟩
  · cases h
theorem g_Mo_isDigit (as : List sv_V) (σ : sv_S) (x : Option sv_V × sv_S) (h : sv_gI n_Mo_isDigit as σ = some x) : ∃ r i as', as = sv_R r i :: as' ∧ sv_kd r i = .inl 12 := by
  obtain ⟨_, _, h, -⟩ := sv_b_some h
  unfold n_Mo_isDigit at h
  split at h
  · exact ⟨_, _, _, rfl, rfl⟩
  · cases h

set_option maxRecDepth 20000 in
theorem m_Mo_isDigit (l : Launch) : sv_M l yX12_isDigit cX12_isDigit 2 (some .boolean) (sv_gI n_Mo_isDigit) 1 := by
  refine sv_mZ (E := ev_Mo_isDigit) (by decide +kernel) (ln_gen fk_12 kk_12 (sv_ns _ (fun _ => rfl) _)) rfl ?_ a_Mo_isDigit b_Mo_isDigit
  intro p e R s m args below meth c cells slots Q base ad dC dI cA n0 S hkn hR hf pc n f hcs
  refine sv_lk_all (P := fun pc (x : Nat × sv_F) => sv_cok p l e R s m args below meth c cells slots Q base ad dC dI cA true 2 n0 pc x.1 x.2) ?_ pc (n, f) hcs
  exact List.forall_mem_cons.mpr ⟨(sv_cS S hkn (m_Mo_isIn l) ⟨Nat.le_trans (by decide) hR.1, Nat.le_trans (by decide) hR.2⟩ (by decide) hf (sv_w4 tw_1098 tw_1099 tw_65 tw_1100) (by decide +kernel) (sv_dc3 d_Mo_isDigit (pc := 21) rfl rfl)).I,
      fun _ h => absurd h List.not_mem_nil⟩
noncomputable def f_Mo_nextToken_300 (σ : sv_S) : Option (sv_S) :=
    let σ1 := sv_up σ 30 0 20 (4 : Int32)
    some σ1
noncomputable def f_Mo_nextToken_266 (k214 : Int32 → sv_S → Option (sv_S)) (x1 : Int32) (y0 : Int32) (σ : sv_S) : Option (sv_S) :=
    let σ1 := sv_up σ 30 0 21 y0
    let σ2 := sv_up σ1 30 0 19 ((σ1 30 0 19) + (1 : Int32))
    k214 x1 σ2
noncomputable def f_Mo_nextToken_214 : Nat → Int32 → sv_S → Option (sv_S)
  | 0, _, _ => none
  | n + 1, x1, σ =>
    sv_b (f_Mo_isDigit (σ 30 0 19) σ) (fun v1 σ2 =>
      sv_if (v1 = 0)
        (sv_if (x1 = 0)
          (sv_if (((σ2 30 0 19) - (σ2 30 0 18)) ≤ (4 : Int32))
            (let σ3 := sv_up σ2 30 0 20 (2 : Int32)
            some σ3)
            (f_Mo_nextToken_300 σ2))
          (f_Mo_nextToken_300 σ2))
        (sv_if ((4 : Int32) ≤ ((σ2 30 0 19) - (σ2 30 0 18)))
          (f_Mo_nextToken_266 (f_Mo_nextToken_214 n) x1 (σ2 30 0 21) σ2)
          (sv_g (sv_in (σ2 30 0 19) 96) (f_Mo_nextToken_266 (f_Mo_nextToken_214 n) x1 ((((10 : Int32) * (σ2 30 0 21)) + (σ2 31 16 ((σ2 30 0 19).toNatClampNeg))) - (48 : Int32)) σ2))))
noncomputable def f_Mo_nextToken_162 (y0 : Int32) (σ : sv_S) : Option (sv_S) :=
    let σ1 := sv_up σ 30 0 20 y0
    sv_if (((σ1 30 0 19) - (σ1 30 0 18)) = (1 : Int32))
      (sv_g (sv_in (σ1 30 0 18) 96) (let σ2 := sv_up σ1 30 0 22 (σ1 31 16 ((σ1 30 0 18).toNatClampNeg))
      some σ2))
      (let σ3 := sv_up σ1 30 0 22 (0 : Int32)
      some σ3)
noncomputable def f_Mo_nextToken_128 : Nat → Int32 → sv_S → Option (sv_S)
  | 0, _, _ => none
  | n + 1, x1, σ =>
    sv_b (f_Mo_isLetter (σ 30 0 19) σ) (fun v1 σ2 =>
      sv_if (v1 = 0)
        (sv_if (x1 = 0)
          (f_Mo_nextToken_162 (1 : Int32) σ2)
          (f_Mo_nextToken_162 (4 : Int32) σ2))
        (let σ3 := sv_up σ2 30 0 19 ((σ2 30 0 19) + (1 : Int32))
        f_Mo_nextToken_128 n x1 σ3))
noncomputable def f_Mo_nextToken_89 (y0 : Int32) (σ : sv_S) : Option (sv_S) :=
    let σ1 := sv_up σ 30 0 18 (σ 30 0 19)
    sv_if ((σ1 30 0 18) = (σ1 30 0 17))
      (let σ2 := sv_up σ1 30 0 20 (0 : Int32)
      some σ2)
      (sv_b (f_Mo_isLetter (σ1 30 0 18) σ1) (fun v3 σ4 =>
        sv_if (v3 = 0)
          (sv_b (f_Mo_isDigit (σ4 30 0 18) σ4) (fun v5 σ6 =>
            sv_if (v5 = 0)
              (let σ7 := sv_up σ6 30 0 20 (3 : Int32)
              sv_g (sv_in (σ7 30 0 18) 96) (let σ8 := sv_up σ7 30 0 22 (σ7 31 16 ((σ7 30 0 18).toNatClampNeg))
              let σ9 := sv_up σ8 30 0 19 ((σ8 30 0 19) + (1 : Int32))
              some σ9))
              (let σ10 := sv_up σ6 30 0 21 (0 : Int32)
              f_Mo_nextToken_214 sv_fu y0 σ10)))
          (f_Mo_nextToken_128 sv_fu y0 σ4)))
noncomputable def f_Mo_nextToken_72 (x1 : Int32) (x2 : Int32) (σ : sv_S) : Option (sv_S) :=
    sv_if (x1 = 0)
      (f_Mo_nextToken_89 (0 : Int32) σ)
      (sv_if (x2 = (σ 30 0 19))
        (f_Mo_nextToken_89 (1 : Int32) σ)
        (f_Mo_nextToken_89 (0 : Int32) σ))
noncomputable def f_Mo_nextToken_34 : Nat → Int32 → Int32 → sv_S → Option (sv_S)
  | 0, _, _, _ => none
  | n + 1, x1, x2, σ =>
    sv_if ((σ 30 0 17) ≤ (σ 30 0 19))
      (f_Mo_nextToken_72 x1 x2 σ)
      (sv_g (sv_in (σ 30 0 19) 96) (sv_if ((σ 31 16 ((σ 30 0 19).toNatClampNeg)) = (32 : Int32))
        (let σ1 := sv_up σ 30 0 19 ((σ 30 0 19) + (1 : Int32))
        f_Mo_nextToken_34 n x1 x2 σ1)
        (f_Mo_nextToken_72 x1 x2 σ)))
noncomputable def f_Mo_nextToken_27 (σ : sv_S) : Option (sv_S) :=
    f_Mo_nextToken_34 sv_fu (0 : Int32) (σ 30 0 19) σ
noncomputable def f_Mo_nextToken_23 (σ : sv_S) : Option (sv_S) :=
    f_Mo_nextToken_34 sv_fu (1 : Int32) (σ 30 0 19) σ
noncomputable def f_Mo_nextToken (σ : sv_S) : Option (sv_S) :=
  sv_if ((σ 30 0 19) ≤ 0)
    (f_Mo_nextToken_27 σ)
    (sv_if ((σ 30 0 20) = (1 : Int32))
      (f_Mo_nextToken_23 σ)
      (sv_if ((σ 30 0 20) = (2 : Int32))
        (f_Mo_nextToken_23 σ)
        (f_Mo_nextToken_27 σ)))
noncomputable def n_Mo_nextToken : List sv_V → sv_S → Option (sv_S)
  | [.inr (.inr (some (30, 0)))], σ => f_Mo_nextToken σ
  | _, _ => none
def cd_Mo_nextToken : sv_C := [(0, (.aload_n 0, (sv_N, (1, (0, []))))), (1, (.getfield 208, (sv_N, (4, (0, []))))), (4, (.ifCond .le 23, (sv_N, (7, (27, []))))), (7, (.aload_n 0, (sv_N, (8, (0, []))))), (8, (.getfield 211, (sv_N, (11, (0, []))))), (11, (.iconst 1, (.inl (1 : Int32), (12, (0, []))))), (12, (.if_icmp .eq 11, (sv_N, (15, (23, []))))), (15, (.aload_n 0, (sv_N, (16, (0, []))))), (16, (.getfield 211, (sv_N, (19, (0, []))))), (19, (.iconst 2, (.inl (2 : Int32), (20, (0, []))))), (20, (.if_icmp .ne 7, (sv_N, (23, (27, []))))), (23, (.iconst 1, (.inl (1 : Int32), (24, (0, []))))), (24, (.goto 4, (sv_N, (27, (28, []))))), (27, (.iconst 0, (.inl (0 : Int32), (28, (0, []))))), (28, (.istore_n 1, (sv_N, (29, (0, []))))), (29, (.aload_n 0, (sv_N, (30, (0, []))))), (30, (.getfield 208, (sv_N, (33, (0, []))))), (33, (.istore_n 2, (sv_N, (34, (0, []))))), (34, (.aload_n 0, (sv_N, (35, (0, []))))), (35, (.getfield 208, (sv_N, (38, (0, []))))), (38, (.aload_n 0, (sv_N, (39, (0, []))))), (39, (.getfield 197, (sv_N, (42, (0, []))))), (42, (.if_icmp .ge 30, (sv_N, (45, (72, []))))), (45, (.aload_n 0, (sv_N, (46, (0, []))))), (46, (.getfield 52, (sv_N, (49, (0, []))))), (49, (.aload_n 0, (sv_N, (50, (0, []))))), (50, (.getfield 208, (sv_N, (53, (0, []))))), (53, (.iaload, (sv_N, (54, (0, []))))), (54, (.bipush 32, (.inl (32 : Int32), (56, (0, []))))), (56, (.if_icmp .ne 16, (sv_N, (59, (72, []))))), (59, (.aload_n 0, (sv_N, (60, (0, []))))), (60, (.dup, (sv_N, (61, (0, []))))), (61, (.getfield 208, (sv_N, (64, (0, []))))), (64, (.iconst 1, (.inl (1 : Int32), (65, (0, []))))), (65, (.iadd, (sv_N, (66, (0, []))))), (66, (.putfield 208, (sv_N, (69, (0, []))))), (69, (.goto (-35), (sv_N, (72, (34, []))))), (72, (.iload_n 1, (sv_N, (73, (0, []))))), (73, (.ifCond .eq 15, (sv_N, (76, (88, []))))), (76, (.iload_n 2, (sv_N, (77, (0, []))))), (77, (.aload_n 0, (sv_N, (78, (0, []))))), (78, (.getfield 208, (sv_N, (81, (0, []))))), (81, (.if_icmp .ne 7, (sv_N, (84, (88, []))))), (84, (.iconst 1, (.inl (1 : Int32), (85, (0, []))))), (85, (.goto 4, (sv_N, (88, (89, []))))), (88, (.iconst 0, (.inl (0 : Int32), (89, (0, []))))), (89, (.istore_n 1, (sv_N, (90, (0, []))))), (90, (.aload_n 0, (sv_N, (91, (0, []))))), (91, (.aload_n 0, (sv_N, (92, (0, []))))), (92, (.getfield 208, (sv_N, (95, (0, []))))), (95, (.putfield 214, (sv_N, (98, (0, []))))), (98, (.aload_n 0, (sv_N, (99, (0, []))))), (99, (.getfield 214, (sv_N, (102, (0, []))))), (102, (.aload_n 0, (sv_N, (103, (0, []))))), (103, (.getfield 197, (sv_N, (106, (0, []))))), (106, (.if_icmp .ne 11, (sv_N, (109, (117, []))))), (109, (.aload_n 0, (sv_N, (110, (0, []))))), (110, (.iconst 0, (.inl (0 : Int32), (111, (0, []))))), (111, (.putfield 211, (sv_N, (114, (0, []))))), (114, (.goto 225, (sv_N, (117, (339, []))))), (117, (.aload_n 0, (sv_N, (118, (0, []))))), (118, (.aload_n 0, (sv_N, (119, (0, []))))), (119, (.getfield 214, (sv_N, (122, (0, []))))), (122, (.invokevirtual 217, (sv_N, (125, (0, []))))), (125, (.ifCond .eq 73, (sv_N, (128, (198, []))))), (128, (.aload_n 0, (sv_N, (129, (0, []))))), (129, (.aload_n 0, (sv_N, (130, (0, []))))), (130, (.getfield 208, (sv_N, (133, (0, []))))), (133, (.invokevirtual 217, (sv_N, (136, (0, []))))), (136, (.ifCond .eq 16, (sv_N, (139, (152, []))))), (139, (.aload_n 0, (sv_N, (140, (0, []))))), (140, (.dup, (sv_N, (141, (0, []))))), (141, (.getfield 208, (sv_N, (144, (0, []))))), (144, (.iconst 1, (.inl (1 : Int32), (145, (0, []))))), (145, (.iadd, (sv_N, (146, (0, []))))), (146, (.putfield 208, (sv_N, (149, (0, []))))), (149, (.goto (-21), (sv_N, (152, (128, []))))), (152, (.aload_n 0, (sv_N, (153, (0, []))))), (153, (.iload_n 1, (sv_N, (154, (0, []))))), (154, (.ifCond .eq 7, (sv_N, (157, (161, []))))), (157, (.iconst 4, (.inl (4 : Int32), (158, (0, []))))), (158, (.goto 4, (sv_N, (161, (162, []))))), (161, (.iconst 1, (.inl (1 : Int32), (162, (0, []))))), (162, (.putfield 211, (sv_N, (165, (0, []))))), (165, (.aload_n 0, (sv_N, (166, (0, []))))), (166, (.aload_n 0, (sv_N, (167, (0, []))))), (167, (.getfield 208, (sv_N, (170, (0, []))))), (170, (.aload_n 0, (sv_N, (171, (0, []))))), (171, (.getfield 214, (sv_N, (174, (0, []))))), (174, (.isub, (sv_N, (175, (0, []))))), (175, (.iconst 1, (.inl (1 : Int32), (176, (0, []))))), (176, (.if_icmp .ne 15, (sv_N, (179, (191, []))))), (179, (.aload_n 0, (sv_N, (180, (0, []))))), (180, (.getfield 52, (sv_N, (183, (0, []))))), (183, (.aload_n 0, (sv_N, (184, (0, []))))), (184, (.getfield 214, (sv_N, (187, (0, []))))), (187, (.iaload, (sv_N, (188, (0, []))))), (188, (.goto 4, (sv_N, (191, (192, []))))), (191, (.iconst 0, (.inl (0 : Int32), (192, (0, []))))), (192, (.putfield 220, (sv_N, (195, (0, []))))), (195, (.goto 144, (sv_N, (198, (339, []))))), (198, (.aload_n 0, (sv_N, (199, (0, []))))), (199, (.aload_n 0, (sv_N, (200, (0, []))))), (200, (.getfield 214, (sv_N, (203, (0, []))))), (203, (.invokevirtual 223, (sv_N, (206, (0, []))))), (206, (.ifCond .eq 105, (sv_N, (209, (311, []))))), (209, (.aload_n 0, (sv_N, (210, (0, []))))), (210, (.iconst 0, (.inl (0 : Int32), (211, (0, []))))), (211, (.putfield 226, (sv_N, (214, (0, []))))), (214, (.aload_n 0, (sv_N, (215, (0, []))))), (215, (.aload_n 0, (sv_N, (216, (0, []))))), (216, (.getfield 208, (sv_N, (219, (0, []))))), (219, (.invokevirtual 223, (sv_N, (222, (0, []))))), (222, (.ifCond .eq 60, (sv_N, (225, (282, []))))), (225, (.aload_n 0, (sv_N, (226, (0, []))))), (226, (.aload_n 0, (sv_N, (227, (0, []))))), (227, (.getfield 208, (sv_N, (230, (0, []))))), (230, (.aload_n 0, (sv_N, (231, (0, []))))), (231, (.getfield 214, (sv_N, (234, (0, []))))), (234, (.isub, (sv_N, (235, (0, []))))), (235, (.iconst 4, (.inl (4 : Int32), (236, (0, []))))), (236, (.if_icmp .ge 26, (sv_N, (239, (262, []))))), (239, (.bipush 10, (.inl (10 : Int32), (241, (0, []))))), (241, (.aload_n 0, (sv_N, (242, (0, []))))), (242, (.getfield 226, (sv_N, (245, (0, []))))), (245, (.imul, (sv_N, (246, (0, []))))), (246, (.aload_n 0, (sv_N, (247, (0, []))))), (247, (.getfield 52, (sv_N, (250, (0, []))))), (250, (.aload_n 0, (sv_N, (251, (0, []))))), (251, (.getfield 208, (sv_N, (254, (0, []))))), (254, (.iaload, (sv_N, (255, (0, []))))), (255, (.iadd, (sv_N, (256, (0, []))))), (256, (.bipush 48, (.inl (48 : Int32), (258, (0, []))))), (258, (.isub, (sv_N, (259, (0, []))))), (259, (.goto 7, (sv_N, (262, (266, []))))), (262, (.aload_n 0, (sv_N, (263, (0, []))))), (263, (.getfield 226, (sv_N, (266, (0, []))))), (266, (.putfield 226, (sv_N, (269, (0, []))))), (269, (.aload_n 0, (sv_N, (270, (0, []))))), (270, (.dup, (sv_N, (271, (0, []))))), (271, (.getfield 208, (sv_N, (274, (0, []))))), (274, (.iconst 1, (.inl (1 : Int32), (275, (0, []))))), (275, (.iadd, (sv_N, (276, (0, []))))), (276, (.putfield 208, (sv_N, (279, (0, []))))), (279, (.goto (-65), (sv_N, (282, (214, []))))), (282, (.aload_n 0, (sv_N, (283, (0, []))))), (283, (.iload_n 1, (sv_N, (284, (0, []))))), (284, (.ifCond .ne 16, (sv_N, (287, (300, []))))), (287, (.aload_n 0, (sv_N, (288, (0, []))))), (288, (.getfield 208, (sv_N, (291, (0, []))))), (291, (.aload_n 0, (sv_N, (292, (0, []))))), (292, (.getfield 214, (sv_N, (295, (0, []))))), (295, (.isub, (sv_N, (296, (0, []))))), (296, (.iconst 4, (.inl (4 : Int32), (297, (0, []))))), (297, (.if_icmp .le 7, (sv_N, (300, (304, []))))), (300, (.iconst 4, (.inl (4 : Int32), (301, (0, []))))), (301, (.goto 4, (sv_N, (304, (305, []))))), (304, (.iconst 2, (.inl (2 : Int32), (305, (0, []))))), (305, (.putfield 211, (sv_N, (308, (0, []))))), (308, (.goto 31, (sv_N, (311, (339, []))))), (311, (.aload_n 0, (sv_N, (312, (0, []))))), (312, (.iconst 3, (.inl (3 : Int32), (313, (0, []))))), (313, (.putfield 211, (sv_N, (316, (0, []))))), (316, (.aload_n 0, (sv_N, (317, (0, []))))), (317, (.aload_n 0, (sv_N, (318, (0, []))))), (318, (.getfield 52, (sv_N, (321, (0, []))))), (321, (.aload_n 0, (sv_N, (322, (0, []))))), (322, (.getfield 214, (sv_N, (325, (0, []))))), (325, (.iaload, (sv_N, (326, (0, []))))), (326, (.putfield 220, (sv_N, (329, (0, []))))), (329, (.aload_n 0, (sv_N, (330, (0, []))))), (330, (.dup, (sv_N, (331, (0, []))))), (331, (.getfield 208, (sv_N, (334, (0, []))))), (334, (.iconst 1, (.inl (1 : Int32), (335, (0, []))))), (335, (.iadd, (sv_N, (336, (0, []))))), (336, (.putfield 208, (sv_N, (339, (0, []))))), (339, (.return_, (sv_N, (340, (0, [])))))]
noncomputable def ev_Mo_nextToken : sv_E := (fun i => sv_lk i fl_12, (fun i => sv_lk i kc_12, (fun _ => 0, (true, (fun pc => sv_lk pc [(122, (2, .inl n_Mo_isLetter)), (133, (2, .inl n_Mo_isLetter)), (203, (2, .inl n_Mo_isDigit)), (219, (2, .inl n_Mo_isDigit))], none)))))
noncomputable def kk_Mo_nextToken_300 : sv_K (sv_S) := fun pc => sv_lk pc []
set_option maxRecDepth 20000 in
theorem e_Mo_nextToken_300 (z0 z1 z2 : Option sv_V) (σ : sv_S) : sv_ex ev_Mo_nextToken sv_rV (kk_Mo_nextToken_300) cd_Mo_nextToken 179 300 [z0, z1, z2] [.inr (.inr (some (30, 0)))] σ = f_Mo_nextToken_300 σ := by
  unfold f_Mo_nextToken_300
  delta ev_Mo_nextToken kk_Mo_nextToken_300 n_Mo_isLetter n_Mo_isDigit
  generalize f_Mo_isLetter = c0
  generalize f_Mo_isDigit = c1
  rfl
noncomputable def kk_Mo_nextToken_266 (k214 : Int32 → sv_S → Option (sv_S)) : sv_K (sv_S) := fun pc => sv_lk pc [(214, fun lo st σ => match lo, st with
    | [some (.inr (.inr (some (30, 0)))), some (.inl x1), _], [] => k214 x1 σ
    | _, _ => none)]
set_option maxRecDepth 20000 in
theorem e_Mo_nextToken_266 (k214 : Int32 → sv_S → Option (sv_S)) (x1 : Int32) (y0 : Int32) (z2 : Option sv_V) (σ : sv_S) : sv_ex ev_Mo_nextToken sv_rV (kk_Mo_nextToken_266 k214) cd_Mo_nextToken 179 266 [some (.inr (.inr (some (30, 0)))), some (.inl x1), z2] [.inl y0, .inr (.inr (some (30, 0)))] σ = f_Mo_nextToken_266 k214 x1 y0 σ := by
  unfold f_Mo_nextToken_266
  delta ev_Mo_nextToken kk_Mo_nextToken_266 n_Mo_isLetter n_Mo_isDigit
  generalize f_Mo_isLetter = c0
  generalize f_Mo_isDigit = c1
  generalize f_Mo_nextToken_214 = c2
  rfl
noncomputable def kk_Mo_nextToken_214 (n : Nat) : sv_K (sv_S) := fun pc => sv_lk pc [(266, fun lo st σ => match lo, st with
    | [some (.inr (.inr (some (30, 0)))), some (.inl x1), _], [.inl y0, .inr (.inr (some (30, 0)))] => f_Mo_nextToken_266 (f_Mo_nextToken_214 n) x1 y0 σ
    | _, _ => none),
  (300, fun lo st σ => match lo, st with
    | [_, _, _], [.inr (.inr (some (30, 0)))] => f_Mo_nextToken_300 σ
    | _, _ => none)]
set_option maxRecDepth 20000 in
theorem e_Mo_nextToken_214 (n : Nat) (x1 : Int32) (z2 : Option sv_V) (σ : sv_S) : sv_ex ev_Mo_nextToken sv_rV (kk_Mo_nextToken_214 n) cd_Mo_nextToken 179 214 [some (.inr (.inr (some (30, 0)))), some (.inl x1), z2] [] σ = f_Mo_nextToken_214 (n + 1) x1 σ := by
  rw [f_Mo_nextToken_214.eq_2]
  delta ev_Mo_nextToken kk_Mo_nextToken_214 n_Mo_isLetter n_Mo_isDigit
  generalize f_Mo_isLetter = c0
  generalize f_Mo_isDigit = c1
  generalize f_Mo_nextToken_266 = c2
  generalize f_Mo_nextToken_300 = c3
  generalize f_Mo_nextToken_214 = c4
  rfl
noncomputable def kk_Mo_nextToken_162 : sv_K (sv_S) := fun pc => sv_lk pc []
set_option maxRecDepth 20000 in
theorem e_Mo_nextToken_162 (y0 : Int32) (z1 z2 : Option sv_V) (σ : sv_S) : sv_ex ev_Mo_nextToken sv_rV (kk_Mo_nextToken_162) cd_Mo_nextToken 179 162 [some (.inr (.inr (some (30, 0)))), z1, z2] [.inl y0, .inr (.inr (some (30, 0)))] σ = f_Mo_nextToken_162 y0 σ := by
  unfold f_Mo_nextToken_162
  delta ev_Mo_nextToken kk_Mo_nextToken_162 n_Mo_isLetter n_Mo_isDigit
  generalize f_Mo_isLetter = c0
  generalize f_Mo_isDigit = c1
  rfl
noncomputable def kk_Mo_nextToken_128 (n : Nat) : sv_K (sv_S) := fun pc => sv_lk pc [(128, fun lo st σ => match lo, st with
    | [some (.inr (.inr (some (30, 0)))), some (.inl x1), _], [] => f_Mo_nextToken_128 n x1 σ
    | _, _ => none),
  (162, fun lo st σ => match lo, st with
    | [some (.inr (.inr (some (30, 0)))), _, _], [.inl y0, .inr (.inr (some (30, 0)))] => f_Mo_nextToken_162 y0 σ
    | _, _ => none)]
set_option maxRecDepth 20000 in
theorem e_Mo_nextToken_128 (n : Nat) (x1 : Int32) (z2 : Option sv_V) (σ : sv_S) : sv_ex ev_Mo_nextToken sv_rV (kk_Mo_nextToken_128 n) cd_Mo_nextToken 179 128 [some (.inr (.inr (some (30, 0)))), some (.inl x1), z2] [] σ = f_Mo_nextToken_128 (n + 1) x1 σ := by
  rw [f_Mo_nextToken_128.eq_2]
  delta ev_Mo_nextToken kk_Mo_nextToken_128 n_Mo_isLetter n_Mo_isDigit
  generalize f_Mo_isLetter = c0
  generalize f_Mo_isDigit = c1
  generalize f_Mo_nextToken_128 = c2
  generalize f_Mo_nextToken_162 = c3
  rfl
noncomputable def kk_Mo_nextToken_89 : sv_K (sv_S) := fun pc => sv_lk pc [(128, fun lo st σ => match lo, st with
    | [some (.inr (.inr (some (30, 0)))), some (.inl x1), _], [] => f_Mo_nextToken_128 sv_fu x1 σ
    | _, _ => none),
  (214, fun lo st σ => match lo, st with
    | [some (.inr (.inr (some (30, 0)))), some (.inl x1), _], [] => f_Mo_nextToken_214 sv_fu x1 σ
    | _, _ => none)]
set_option maxRecDepth 20000 in
theorem e_Mo_nextToken_89 (y0 : Int32) (z1 z2 : Option sv_V) (σ : sv_S) : sv_ex ev_Mo_nextToken sv_rV (kk_Mo_nextToken_89) cd_Mo_nextToken 179 89 [some (.inr (.inr (some (30, 0)))), z1, z2] [.inl y0] σ = f_Mo_nextToken_89 y0 σ := by
  unfold f_Mo_nextToken_89
  delta ev_Mo_nextToken kk_Mo_nextToken_89 n_Mo_isLetter n_Mo_isDigit
  generalize f_Mo_isLetter = c0
  generalize f_Mo_isDigit = c1
  generalize f_Mo_nextToken_128 = c2
  generalize f_Mo_nextToken_214 = c3
  rfl
noncomputable def kk_Mo_nextToken_72 : sv_K (sv_S) := fun pc => sv_lk pc [(89, fun lo st σ => match lo, st with
    | [some (.inr (.inr (some (30, 0)))), _, _], [.inl y0] => f_Mo_nextToken_89 y0 σ
    | _, _ => none)]
set_option maxRecDepth 20000 in
theorem e_Mo_nextToken_72 (x1 : Int32) (x2 : Int32) (σ : sv_S) : sv_ex ev_Mo_nextToken sv_rV (kk_Mo_nextToken_72) cd_Mo_nextToken 179 72 [some (.inr (.inr (some (30, 0)))), some (.inl x1), some (.inl x2)] [] σ = f_Mo_nextToken_72 x1 x2 σ := by
  unfold f_Mo_nextToken_72
  delta ev_Mo_nextToken kk_Mo_nextToken_72 n_Mo_isLetter n_Mo_isDigit
  generalize f_Mo_isLetter = c0
  generalize f_Mo_isDigit = c1
  generalize f_Mo_nextToken_89 = c2
  rfl
noncomputable def kk_Mo_nextToken_34 (n : Nat) : sv_K (sv_S) := fun pc => sv_lk pc [(34, fun lo st σ => match lo, st with
    | [some (.inr (.inr (some (30, 0)))), some (.inl x1), some (.inl x2)], [] => f_Mo_nextToken_34 n x1 x2 σ
    | _, _ => none),
  (72, fun lo st σ => match lo, st with
    | [some (.inr (.inr (some (30, 0)))), some (.inl x1), some (.inl x2)], [] => f_Mo_nextToken_72 x1 x2 σ
    | _, _ => none)]
set_option maxRecDepth 20000 in
theorem e_Mo_nextToken_34 (n : Nat) (x1 : Int32) (x2 : Int32) (σ : sv_S) : sv_ex ev_Mo_nextToken sv_rV (kk_Mo_nextToken_34 n) cd_Mo_nextToken 179 34 [some (.inr (.inr (some (30, 0)))), some (.inl x1), some (.inl x2)] [] σ = f_Mo_nextToken_34 (n + 1) x1 x2 σ := by
  rw [f_Mo_nextToken_34.eq_2]
  delta ev_Mo_nextToken kk_Mo_nextToken_34 n_Mo_isLetter n_Mo_isDigit
  generalize f_Mo_isLetter = c0
  generalize f_Mo_isDigit = c1
  generalize f_Mo_nextToken_34 = c2
  generalize f_Mo_nextToken_72 = c3
  rfl
noncomputable def kk_Mo_nextToken_27 : sv_K (sv_S) := fun pc => sv_lk pc [(34, fun lo st σ => match lo, st with
    | [some (.inr (.inr (some (30, 0)))), some (.inl x1), some (.inl x2)], [] => f_Mo_nextToken_34 sv_fu x1 x2 σ
    | _, _ => none)]
set_option maxRecDepth 20000 in
theorem e_Mo_nextToken_27 (z1 z2 : Option sv_V) (σ : sv_S) : sv_ex ev_Mo_nextToken sv_rV (kk_Mo_nextToken_27) cd_Mo_nextToken 179 27 [some (.inr (.inr (some (30, 0)))), z1, z2] [] σ = f_Mo_nextToken_27 σ := by
  unfold f_Mo_nextToken_27
  delta ev_Mo_nextToken kk_Mo_nextToken_27 n_Mo_isLetter n_Mo_isDigit
  generalize f_Mo_isLetter = c0
  generalize f_Mo_isDigit = c1
  generalize f_Mo_nextToken_34 = c2
  rfl
noncomputable def kk_Mo_nextToken_23 : sv_K (sv_S) := fun pc => sv_lk pc [(34, fun lo st σ => match lo, st with
    | [some (.inr (.inr (some (30, 0)))), some (.inl x1), some (.inl x2)], [] => f_Mo_nextToken_34 sv_fu x1 x2 σ
    | _, _ => none)]
set_option maxRecDepth 20000 in
theorem e_Mo_nextToken_23 (z1 z2 : Option sv_V) (σ : sv_S) : sv_ex ev_Mo_nextToken sv_rV (kk_Mo_nextToken_23) cd_Mo_nextToken 179 23 [some (.inr (.inr (some (30, 0)))), z1, z2] [] σ = f_Mo_nextToken_23 σ := by
  unfold f_Mo_nextToken_23
  delta ev_Mo_nextToken kk_Mo_nextToken_23 n_Mo_isLetter n_Mo_isDigit
  generalize f_Mo_isLetter = c0
  generalize f_Mo_isDigit = c1
  generalize f_Mo_nextToken_34 = c2
  rfl
noncomputable def kk_Mo_nextToken : sv_K (sv_S) := fun pc => sv_lk pc [(23, fun lo st σ => match lo, st with
    | [some (.inr (.inr (some (30, 0)))), _, _], [] => f_Mo_nextToken_23 σ
    | _, _ => none),
  (27, fun lo st σ => match lo, st with
    | [some (.inr (.inr (some (30, 0)))), _, _], [] => f_Mo_nextToken_27 σ
    | _, _ => none)]
set_option maxRecDepth 20000 in
theorem e_Mo_nextToken (σ : sv_S) : sv_ex ev_Mo_nextToken sv_rV kk_Mo_nextToken cd_Mo_nextToken 179 0 [some (.inr (.inr (some (30, 0)))), none, none] [] σ = f_Mo_nextToken σ := by
  unfold f_Mo_nextToken
  delta ev_Mo_nextToken kk_Mo_nextToken n_Mo_isLetter n_Mo_isDigit
  generalize f_Mo_isLetter = c0
  generalize f_Mo_isDigit = c1
  generalize f_Mo_nextToken_23 = c2
  generalize f_Mo_nextToken_27 = c3
  rfl
theorem d_Mo_nextToken : cd_Mo_nextToken.all (sv_dk cX12_nextToken) = true := by decide +kernel
set_option maxRecDepth 20000 in
theorem w_Mo_nextToken_300 {Γ : sv_Ga} {res : sv_S} (X : sv_Ok Γ ev_Mo_nextToken cX12_nextToken sv_rV res) : ∀ (z0 z1 z2 : Option sv_V) (σ : sv_S), f_Mo_nextToken_300 σ = some res → sv_T Γ 300 [z0, z1, z2] [.inr (.inr (some (30, 0)))] σ := by
  intro z0 z1 z2 σ h
  refine sv_run X d_Mo_nextToken (K := kk_Mo_nextToken_300) (sv_lk_all (P := fun pc (k : sv_Lo → List sv_V → sv_S → Option (sv_S)) => ∀ lo st σ, k lo st σ = some res → sv_T Γ pc lo st σ) ?_) _ _ _ _ _ ((e_Mo_nextToken_300 z0 z1 z2 σ).trans h)
  clear h
  exact fun _ h => absurd h List.not_mem_nil

set_option maxRecDepth 20000 in
theorem w_Mo_nextToken_266 {Γ : sv_Ga} {res : sv_S} (X : sv_Ok Γ ev_Mo_nextToken cX12_nextToken sv_rV res) (k214 : Int32 → sv_S → Option (sv_S)) (h214 : ∀ (x1 : Int32) (z2 : Option sv_V) (σ : sv_S), k214 x1 σ = some res → sv_T Γ 214 [some (.inr (.inr (some (30, 0)))), some (.inl x1), z2] [] σ) : ∀ (x1 : Int32) (y0 : Int32) (z2 : Option sv_V) (σ : sv_S), f_Mo_nextToken_266 k214 x1 y0 σ = some res → sv_T Γ 266 [some (.inr (.inr (some (30, 0)))), some (.inl x1), z2] [.inl y0, .inr (.inr (some (30, 0)))] σ := by
  intro x1 y0 z2 σ h
  refine sv_run X d_Mo_nextToken (K := kk_Mo_nextToken_266 k214) (sv_lk_all (P := fun pc (k : sv_Lo → List sv_V → sv_S → Option (sv_S)) => ∀ lo st σ, k lo st σ = some res → sv_T Γ pc lo st σ) ?_) _ _ _ _ _ ((e_Mo_nextToken_266 k214 x1 y0 z2 σ).trans h)
  clear h
  refine List.forall_mem_cons.mpr ⟨fun lo st σ h => ?_, fun _ h => absurd h List.not_mem_nil⟩
  · dsimp only at h
    split at h
    · exact h214 _ _ _ h
    · cases h

set_option maxRecDepth 20000 in
theorem w_Mo_nextToken_214 {Γ : sv_Ga} {res : sv_S} (X : sv_Ok Γ ev_Mo_nextToken cX12_nextToken sv_rV res) : ∀ (n : Nat) (x1 : Int32) (z2 : Option sv_V) (σ : sv_S), f_Mo_nextToken_214 n x1 σ = some res → sv_T Γ 214 [some (.inr (.inr (some (30, 0)))), some (.inl x1), z2] [] σ := by
  intro n
  induction n with
  | zero =>
    intro x1 z2 σ h
    rw [f_Mo_nextToken_214.eq_1] at h
    cases h
  | succ n ih =>
    intro x1 z2 σ h
    refine sv_run X d_Mo_nextToken (K := kk_Mo_nextToken_214 n) (sv_lk_all (P := fun pc (k : sv_Lo → List sv_V → sv_S → Option (sv_S)) => ∀ lo st σ, k lo st σ = some res → sv_T Γ pc lo st σ) ?_) _ _ _ _ _ ((e_Mo_nextToken_214 n x1 z2 σ).trans h)
    clear h
    refine List.forall_mem_cons.mpr ⟨fun lo st σ h => ?_, List.forall_mem_cons.mpr ⟨fun lo st σ h => ?_, fun _ h => absurd h List.not_mem_nil⟩⟩
    · dsimp only at h
      split at h
      · exact w_Mo_nextToken_266 X _ ih _ _ _ _ h
      · cases h
    · dsimp only at h
      split at h
      · exact w_Mo_nextToken_300 X _ _ _ _ h
      · cases h

set_option maxRecDepth 20000 in
theorem w_Mo_nextToken_162 {Γ : sv_Ga} {res : sv_S} (X : sv_Ok Γ ev_Mo_nextToken cX12_nextToken sv_rV res) : ∀ (y0 : Int32) (z1 z2 : Option sv_V) (σ : sv_S), f_Mo_nextToken_162 y0 σ = some res → sv_T Γ 162 [some (.inr (.inr (some (30, 0)))), z1, z2] [.inl y0, .inr (.inr (some (30, 0)))] σ := by
  intro y0 z1 z2 σ h
  refine sv_run X d_Mo_nextToken (K := kk_Mo_nextToken_162) (sv_lk_all (P := fun pc (k : sv_Lo → List sv_V → sv_S → Option (sv_S)) => ∀ lo st σ, k lo st σ = some res → sv_T Γ pc lo st σ) ?_) _ _ _ _ _ ((e_Mo_nextToken_162 y0 z1 z2 σ).trans h)
  clear h
  exact fun _ h => absurd h List.not_mem_nil

set_option maxRecDepth 20000 in
theorem w_Mo_nextToken_128 {Γ : sv_Ga} {res : sv_S} (X : sv_Ok Γ ev_Mo_nextToken cX12_nextToken sv_rV res) : ∀ (n : Nat) (x1 : Int32) (z2 : Option sv_V) (σ : sv_S), f_Mo_nextToken_128 n x1 σ = some res → sv_T Γ 128 [some (.inr (.inr (some (30, 0)))), some (.inl x1), z2] [] σ := by
  intro n
  induction n with
  | zero =>
    intro x1 z2 σ h
    rw [f_Mo_nextToken_128.eq_1] at h
    cases h
  | succ n ih =>
    intro x1 z2 σ h
    refine sv_run X d_Mo_nextToken (K := kk_Mo_nextToken_128 n) (sv_lk_all (P := fun pc (k : sv_Lo → List sv_V → sv_S → Option (sv_S)) => ∀ lo st σ, k lo st σ = some res → sv_T Γ pc lo st σ) ?_) _ _ _ _ _ ((e_Mo_nextToken_128 n x1 z2 σ).trans h)
    clear h
    refine List.forall_mem_cons.mpr ⟨fun lo st σ h => ?_, List.forall_mem_cons.mpr ⟨fun lo st σ h => ?_, fun _ h => absurd h List.not_mem_nil⟩⟩
    · dsimp only at h
      split at h
      · exact ih _ _ _ h
      · cases h
    · dsimp only at h
      split at h
      · exact w_Mo_nextToken_162 X _ _ _ _ h
      · cases h

set_option maxRecDepth 20000 in
theorem w_Mo_nextToken_89 {Γ : sv_Ga} {res : sv_S} (X : sv_Ok Γ ev_Mo_nextToken cX12_nextToken sv_rV res) : ∀ (y0 : Int32) (z1 z2 : Option sv_V) (σ : sv_S), f_Mo_nextToken_89 y0 σ = some res → sv_T Γ 89 [some (.inr (.inr (some (30, 0)))), z1, z2] [.inl y0] σ := by
  intro y0 z1 z2 σ h
  refine sv_run X d_Mo_nextToken (K := kk_Mo_nextToken_89) (sv_lk_all (P := fun pc (k : sv_Lo → List sv_V → sv_S → Option (sv_S)) => ∀ lo st σ, k lo st σ = some res → sv_T Γ pc lo st σ) ?_) _ _ _ _ _ ((e_Mo_nextToken_89 y0 z1 z2 σ).trans h)
  clear h
  refine List.forall_mem_cons.mpr ⟨fun lo st σ h => ?_, List.forall_mem_cons.mpr ⟨fun lo st σ h => ?_, fun _ h => absurd h List.not_mem_nil⟩⟩
  · dsimp only at h
    split at h
    · exact w_Mo_nextToken_128 X _ _ _ _ h
    · cases h
  · dsimp only at h
    split at h
    · exact w_Mo_nextToken_214 X _ _ _ _ h
    · cases h

set_option maxRecDepth 20000 in
theorem w_Mo_nextToken_72 {Γ : sv_Ga} {res : sv_S} (X : sv_Ok Γ ev_Mo_nextToken cX12_nextToken sv_rV res) : ∀ (x1 : Int32) (x2 : Int32) (σ : sv_S), f_Mo_nextToken_72 x1 x2 σ = some res → sv_T Γ 72 [some (.inr (.inr (some (30, 0)))), some (.inl x1), some (.inl x2)] [] σ := by
  intro x1 x2 σ h
  refine sv_run X d_Mo_nextToken (K := kk_Mo_nextToken_72) (sv_lk_all (P := fun pc (k : sv_Lo → List sv_V → sv_S → Option (sv_S)) => ∀ lo st σ, k lo st σ = some res → sv_T Γ pc lo st σ) ?_) _ _ _ _ _ ((e_Mo_nextToken_72 x1 x2 σ).trans h)
  clear h
  refine List.forall_mem_cons.mpr ⟨fun lo st σ h => ?_, fun _ h => absurd h List.not_mem_nil⟩
  · dsimp only at h
    split at h
    · exact w_Mo_nextToken_89 X _ _ _ _ h
    · cases h

set_option maxRecDepth 20000 in
theorem w_Mo_nextToken_34 {Γ : sv_Ga} {res : sv_S} (X : sv_Ok Γ ev_Mo_nextToken cX12_nextToken sv_rV res) : ∀ (n : Nat) (x1 : Int32) (x2 : Int32) (σ : sv_S), f_Mo_nextToken_34 n x1 x2 σ = some res → sv_T Γ 34 [some (.inr (.inr (some (30, 0)))), some (.inl x1), some (.inl x2)] [] σ := by
  intro n
  induction n with
  | zero =>
    intro x1 x2 σ h
    rw [f_Mo_nextToken_34.eq_1] at h
    cases h
  | succ n ih =>
    intro x1 x2 σ h
    refine sv_run X d_Mo_nextToken (K := kk_Mo_nextToken_34 n) (sv_lk_all (P := fun pc (k : sv_Lo → List sv_V → sv_S → Option (sv_S)) => ∀ lo st σ, k lo st σ = some res → sv_T Γ pc lo st σ) ?_) _ _ _ _ _ ((e_Mo_nextToken_34 n x1 x2 σ).trans h)
    clear h
    refine List.forall_mem_cons.mpr ⟨fun lo st σ h => ?_, List.forall_mem_cons.mpr ⟨fun lo st σ h => ?_, fun _ h => absurd h List.not_mem_nil⟩⟩
    · dsimp only at h
      split at h
      · exact ih _ _ _ h
      · cases h
    · dsimp only at h
      split at h
      · exact w_Mo_nextToken_72 X _ _ _ h
      · cases h

set_option maxRecDepth 20000 in
theorem w_Mo_nextToken_27 {Γ : sv_Ga} {res : sv_S} (X : sv_Ok Γ ev_Mo_nextToken cX12_nextToken sv_rV res) : ∀ (z1 z2 : Option sv_V) (σ : sv_S), f_Mo_nextToken_27 σ = some res → sv_T Γ 27 [some (.inr (.inr (some (30, 0)))), z1, z2] [] σ := by
  intro z1 z2 σ h
  refine sv_run X d_Mo_nextToken (K := kk_Mo_nextToken_27) (sv_lk_all (P := fun pc (k : sv_Lo → List sv_V → sv_S → Option (sv_S)) => ∀ lo st σ, k lo st σ = some res → sv_T Γ pc lo st σ) ?_) _ _ _ _ _ ((e_Mo_nextToken_27 z1 z2 σ).trans h)
  clear h
  refine List.forall_mem_cons.mpr ⟨fun lo st σ h => ?_, fun _ h => absurd h List.not_mem_nil⟩
  · dsimp only at h
    split at h
    · exact w_Mo_nextToken_34 X _ _ _ _ h
    · cases h

set_option maxRecDepth 20000 in
theorem w_Mo_nextToken_23 {Γ : sv_Ga} {res : sv_S} (X : sv_Ok Γ ev_Mo_nextToken cX12_nextToken sv_rV res) : ∀ (z1 z2 : Option sv_V) (σ : sv_S), f_Mo_nextToken_23 σ = some res → sv_T Γ 23 [some (.inr (.inr (some (30, 0)))), z1, z2] [] σ := by
  intro z1 z2 σ h
  refine sv_run X d_Mo_nextToken (K := kk_Mo_nextToken_23) (sv_lk_all (P := fun pc (k : sv_Lo → List sv_V → sv_S → Option (sv_S)) => ∀ lo st σ, k lo st σ = some res → sv_T Γ pc lo st σ) ?_) _ _ _ _ _ ((e_Mo_nextToken_23 z1 z2 σ).trans h)
  clear h
  refine List.forall_mem_cons.mpr ⟨fun lo st σ h => ?_, fun _ h => absurd h List.not_mem_nil⟩
  · dsimp only at h
    split at h
    · exact w_Mo_nextToken_34 X _ _ _ _ h
    · cases h

set_option maxRecDepth 20000 in
theorem b_Mo_nextToken (Γ : sv_Ga) (res : sv_S) (X : sv_Ok Γ ev_Mo_nextToken cX12_nextToken sv_rV res) (as : List sv_V) (σ : sv_S) (h : n_Mo_nextToken as σ = some res) : sv_T Γ 0 (sv_e0 3 as) [] σ := by
  unfold n_Mo_nextToken at h
  split at h
  · refine sv_run X d_Mo_nextToken (K := kk_Mo_nextToken) (sv_lk_all (P := fun pc (k : sv_Lo → List sv_V → sv_S → Option (sv_S)) => ∀ lo st σ, k lo st σ = some res → sv_T Γ pc lo st σ) ?_) _ _ _ _ _ ((e_Mo_nextToken _).trans h)
    clear h
    refine List.forall_mem_cons.mpr ⟨fun lo st σ h => ?_, List.forall_mem_cons.mpr ⟨fun lo st σ h => ?_, fun _ h => absurd h List.not_mem_nil⟩⟩
    · dsimp only at h
      split at h
      · exact w_Mo_nextToken_23 X _ _ _ h
      · cases h
    · dsimp only at h
      split at h
      · exact w_Mo_nextToken_27 X _ _ _ h
      · cases h
  · cases h
theorem a_Mo_nextToken (as : List sv_V) (σ : sv_S) (x : sv_S) (h : n_Mo_nextToken as σ = some x) : sv_args 3 ev_Mo_nextToken.2.2.2.1 as := by
  unfold n_Mo_nextToken at h
  split at h
  · exact ⟨Nat.le_of_ble_eq_true rfl, fun _ v hv => by
      simp only [List.mem_cons, List.not_mem_nil, or_false] at hv
      rcases hv with rfl <;> trivial⟩
  · cases h
theorem g_Mo_nextToken (as : List sv_V) (σ : sv_S) (x : Option sv_V × sv_S) (h : sv_gV n_Mo_nextToken as σ = some x) : ∃ r i as', as = sv_R r i :: as' ∧ sv_kd r i = .inl 12 := by
  obtain ⟨_, h, -⟩ := sv_b0_some h
  unfold n_Mo_nextToken at h
  split at h
  · exact ⟨_, _, _, rfl, rfl⟩
  · cases h
theorem tw_35 : Cond.selects RX12 yX12_isLetter yX12_isLetter ∈ gw_tbl := gw_at 35 (by decide +kernel) rfl
theorem tw_36 : Cond.selects RX12 yX12_isDigit yX12_isDigit ∈ gw_tbl := gw_at 36 (by decide +kernel) rfl
theorem tw_1334 : Cond.methodLink RX12 217 yX12_isLetter ∈ gw_tbl := gw_at 1334 (by decide +kernel) rfl
theorem tw_1336 : Cond.instanceMethod yX12_isLetter ∈ gw_tbl := gw_at 1336 (by decide +kernel) rfl
theorem tw_1337 : Cond.code yX12_isLetter cX12_isLetter 2 (some .boolean) ∈ gw_tbl := gw_at 1337 (by decide +kernel) rfl
theorem tw_1340 : Cond.methodLink RX12 223 yX12_isDigit ∈ gw_tbl := gw_at 1340 (by decide +kernel) rfl
theorem tw_1342 : Cond.instanceMethod yX12_isDigit ∈ gw_tbl := gw_at 1342 (by decide +kernel) rfl
theorem tw_1343 : Cond.code yX12_isDigit cX12_isDigit 2 (some .boolean) ∈ gw_tbl := gw_at 1343 (by decide +kernel) rfl
set_option maxRecDepth 20000 in
theorem m_Mo_nextToken (l : Launch) : sv_M l yX12_nextToken cX12_nextToken 3 none (sv_gV n_Mo_nextToken) 2 := by
  refine sv_mV (E := ev_Mo_nextToken) (by decide +kernel) (ln_gen fk_12 kk_12 (sv_ns _ (fun _ => rfl) _)) rfl ?_ a_Mo_nextToken b_Mo_nextToken
  intro p e R s m args below meth c cells slots Q base ad dC dI cA n0 S hkn hR hf pc n f hcs
  refine sv_lk_all (P := fun pc (x : Nat × sv_F) => sv_cok p l e R s m args below meth c cells slots Q base ad dC dI cA true 3 n0 pc x.1 x.2) ?_ pc (n, f) hcs
  exact List.forall_mem_cons.mpr ⟨(sv_cV S hkn (m_Mo_isLetter l) ⟨Nat.le_trans (by decide) hR.1, Nat.le_trans (by decide) hR.2⟩ (by decide) hf rfl (g_Mo_isLetter) (sv_w5 tw_1334 tw_1336 tw_35 tw_65 tw_1337) (by decide +kernel) (sv_dc3 d_Mo_nextToken (pc := 122) rfl rfl)).I,
      List.forall_mem_cons.mpr ⟨(sv_cV S hkn (m_Mo_isLetter l) ⟨Nat.le_trans (by decide) hR.1, Nat.le_trans (by decide) hR.2⟩ (by decide) hf rfl (g_Mo_isLetter) (sv_w5 tw_1334 tw_1336 tw_35 tw_65 tw_1337) (by decide +kernel) (sv_dc3 d_Mo_nextToken (pc := 133) rfl rfl)).I,
      List.forall_mem_cons.mpr ⟨(sv_cV S hkn (m_Mo_isDigit l) ⟨Nat.le_trans (by decide) hR.1, Nat.le_trans (by decide) hR.2⟩ (by decide) hf rfl (g_Mo_isDigit) (sv_w5 tw_1340 tw_1342 tw_36 tw_65 tw_1343) (by decide +kernel) (sv_dc3 d_Mo_nextToken (pc := 203) rfl rfl)).I,
      List.forall_mem_cons.mpr ⟨(sv_cV S hkn (m_Mo_isDigit l) ⟨Nat.le_trans (by decide) hR.1, Nat.le_trans (by decide) hR.2⟩ (by decide) hf rfl (g_Mo_isDigit) (sv_w5 tw_1340 tw_1342 tw_36 tw_65 tw_1343) (by decide +kernel) (sv_dc3 d_Mo_nextToken (pc := 219) rfl rfl)).I,
      fun _ h => absurd h List.not_mem_nil⟩⟩⟩⟩
noncomputable def f_Mo_isSign (a1 : Int32) (σ : sv_S) : Option (Int32 × sv_S) :=
  sv_if ((σ 30 0 20) = (3 : Int32))
    (sv_if ((σ 30 0 22) = a1)
      (sv_g ((1 : Int32) = 0 ∨ (1 : Int32) = 1) (some ((1 : Int32), σ)))
      (sv_g ((0 : Int32) = 0 ∨ (0 : Int32) = 1) (some ((0 : Int32), σ))))
    (sv_g ((0 : Int32) = 0 ∨ (0 : Int32) = 1) (some ((0 : Int32), σ)))
noncomputable def n_Mo_isSign : List sv_V → sv_S → Option (Int32 × sv_S)
  | [.inr (.inr (some (30, 0))), .inl a1], σ => f_Mo_isSign a1 σ
  | _, _ => none
def cd_Mo_isSign : sv_C := [(0, (.aload_n 0, (sv_N, (1, (0, []))))), (1, (.getfield 211, (sv_N, (4, (0, []))))), (4, (.iconst 3, (.inl (3 : Int32), (5, (0, []))))), (5, (.if_icmp .ne 15, (sv_N, (8, (20, []))))), (8, (.aload_n 0, (sv_N, (9, (0, []))))), (9, (.getfield 220, (sv_N, (12, (0, []))))), (12, (.iload_n 1, (sv_N, (13, (0, []))))), (13, (.if_icmp .ne 7, (sv_N, (16, (20, []))))), (16, (.iconst 1, (.inl (1 : Int32), (17, (0, []))))), (17, (.goto 4, (sv_N, (20, (21, []))))), (20, (.iconst 0, (.inl (0 : Int32), (21, (0, []))))), (21, (.ireturn, (sv_N, (22, (0, [])))))]
noncomputable def ev_Mo_isSign : sv_E := (fun i => sv_lk i fl_12, (fun i => sv_lk i kc_12, (fun _ => 0, (true, (fun pc => sv_lk pc [], none)))))
noncomputable def kk_Mo_isSign : sv_K (Int32 × sv_S) := fun pc => sv_lk pc []
set_option maxRecDepth 20000 in
theorem e_Mo_isSign (a1 : Int32) (σ : sv_S) : sv_ex ev_Mo_isSign sv_rZ kk_Mo_isSign cd_Mo_isSign 14 0 [some (.inr (.inr (some (30, 0)))), some (.inl a1)] [] σ = f_Mo_isSign a1 σ := by
  unfold f_Mo_isSign
  delta ev_Mo_isSign kk_Mo_isSign
  rfl
theorem d_Mo_isSign : cd_Mo_isSign.all (sv_dk cX12_isSign) = true := by decide +kernel
set_option maxRecDepth 20000 in
theorem b_Mo_isSign (Γ : sv_Ga) (res : Int32 × sv_S) (X : sv_Ok Γ ev_Mo_isSign cX12_isSign sv_rZ res) (as : List sv_V) (σ : sv_S) (h : n_Mo_isSign as σ = some res) : sv_T Γ 0 (sv_e0 2 as) [] σ := by
  unfold n_Mo_isSign at h
  split at h
  · refine sv_run X d_Mo_isSign (K := kk_Mo_isSign) (sv_lk_all (P := fun pc (k : sv_Lo → List sv_V → sv_S → Option (Int32 × sv_S)) => ∀ lo st σ, k lo st σ = some res → sv_T Γ pc lo st σ) ?_) _ _ _ _ _ ((e_Mo_isSign _ _).trans h)
    clear h
    exact fun _ h => absurd h List.not_mem_nil
  · cases h
theorem a_Mo_isSign (as : List sv_V) (σ : sv_S) (x : Int32 × sv_S) (h : n_Mo_isSign as σ = some x) : sv_args 2 ev_Mo_isSign.2.2.2.1 as := by
  unfold n_Mo_isSign at h
  split at h
  · exact ⟨Nat.le_of_ble_eq_true rfl, fun _ v hv => by
      simp only [List.mem_cons, List.not_mem_nil, or_false] at hv
      rcases hv with rfl | rfl <;> trivial⟩
  · cases h
theorem g_Mo_isSign (as : List sv_V) (σ : sv_S) (x : Option sv_V × sv_S) (h : sv_gI n_Mo_isSign as σ = some x) : ∃ r i as', as = sv_R r i :: as' ∧ sv_kd r i = .inl 12 := by
  obtain ⟨_, _, h, -⟩ := sv_b_some h
  unfold n_Mo_isSign at h
  split at h
  · exact ⟨_, _, _, rfl, rfl⟩
  · cases h

set_option maxRecDepth 20000 in
theorem m_Mo_isSign (l : Launch) : sv_M l yX12_isSign cX12_isSign 2 (some .boolean) (sv_gI n_Mo_isSign) 0 := by
  refine sv_mZ (E := ev_Mo_isSign) (by decide +kernel) (ln_gen fk_12 kk_12 (sv_ns _ (fun _ => rfl) _)) rfl ?_ a_Mo_isSign b_Mo_isSign
  intro p e R s m args below meth c cells slots Q base ad dC dI cA n0 S hkn hR hf pc n f hcs
  refine sv_lk_all (P := fun pc (x : Nat × sv_F) => sv_cok p l e R s m args below meth c cells slots Q base ad dC dI cA true 2 n0 pc x.1 x.2) ?_ pc (n, f) hcs
  exact fun _ h => absurd h List.not_mem_nil
noncomputable def f_Mo_isWordAt_10 (x1 : Int32) (x2 : Int32) (x3 : Int32) (x4 : Int32) (y0 : Int32) (σ : sv_S) : Option (Int32 × sv_S) :=
    sv_if ((σ 30 0 20) = (1 : Int32))
      (sv_if (((σ 30 0 19) - (σ 30 0 18)) = y0)
        (sv_g (sv_in (σ 30 0 18) 96) (sv_if ((σ 31 16 ((σ 30 0 18).toNatClampNeg)) = x1)
          (sv_g (sv_in ((σ 30 0 18) + (1 : Int32)) 96) (sv_if ((σ 31 16 (((σ 30 0 18) + (1 : Int32)).toNatClampNeg)) = x2)
            (sv_g (sv_in ((σ 30 0 18) + (2 : Int32)) 96) (sv_if ((σ 31 16 (((σ 30 0 18) + (2 : Int32)).toNatClampNeg)) = x3)
              (sv_if (x4 = 0)
                (sv_g ((1 : Int32) = 0 ∨ (1 : Int32) = 1) (some ((1 : Int32), σ)))
                (sv_g (sv_in ((σ 30 0 18) + (3 : Int32)) 96) (sv_if ((σ 31 16 (((σ 30 0 18) + (3 : Int32)).toNatClampNeg)) = x4)
                  (sv_g ((1 : Int32) = 0 ∨ (1 : Int32) = 1) (some ((1 : Int32), σ)))
                  (sv_g ((0 : Int32) = 0 ∨ (0 : Int32) = 1) (some ((0 : Int32), σ))))))
              (sv_g ((0 : Int32) = 0 ∨ (0 : Int32) = 1) (some ((0 : Int32), σ)))))
            (sv_g ((0 : Int32) = 0 ∨ (0 : Int32) = 1) (some ((0 : Int32), σ)))))
          (sv_g ((0 : Int32) = 0 ∨ (0 : Int32) = 1) (some ((0 : Int32), σ)))))
        (sv_g ((0 : Int32) = 0 ∨ (0 : Int32) = 1) (some ((0 : Int32), σ))))
      (sv_g ((0 : Int32) = 0 ∨ (0 : Int32) = 1) (some ((0 : Int32), σ)))
noncomputable def f_Mo_isWordAt (a1 : Int32) (a2 : Int32) (a3 : Int32) (a4 : Int32) (σ : sv_S) : Option (Int32 × sv_S) :=
  sv_if (a4 = 0)
    (f_Mo_isWordAt_10 a1 a2 a3 a4 (3 : Int32) σ)
    (f_Mo_isWordAt_10 a1 a2 a3 a4 (4 : Int32) σ)
noncomputable def n_Mo_isWordAt : List sv_V → sv_S → Option (Int32 × sv_S)
  | [.inr (.inr (some (30, 0))), .inl a1, .inl a2, .inl a3, .inl a4], σ => f_Mo_isWordAt a1 a2 a3 a4 σ
  | _, _ => none
def cd_Mo_isWordAt : sv_C := [(0, (.iload 4, (sv_N, (2, (0, []))))), (2, (.ifCond .ne 7, (sv_N, (5, (9, []))))), (5, (.iconst 3, (.inl (3 : Int32), (6, (0, []))))), (6, (.goto 4, (sv_N, (9, (10, []))))), (9, (.iconst 4, (.inl (4 : Int32), (10, (0, []))))), (10, (.istore 5, (sv_N, (12, (0, []))))), (12, (.aload_n 0, (sv_N, (13, (0, []))))), (13, (.getfield 211, (sv_N, (16, (0, []))))), (16, (.iconst 1, (.inl (1 : Int32), (17, (0, []))))), (17, (.if_icmp .ne 85, (sv_N, (20, (102, []))))), (20, (.aload_n 0, (sv_N, (21, (0, []))))), (21, (.getfield 208, (sv_N, (24, (0, []))))), (24, (.aload_n 0, (sv_N, (25, (0, []))))), (25, (.getfield 214, (sv_N, (28, (0, []))))), (28, (.isub, (sv_N, (29, (0, []))))), (29, (.iload 5, (sv_N, (31, (0, []))))), (31, (.if_icmp .ne 71, (sv_N, (34, (102, []))))), (34, (.aload_n 0, (sv_N, (35, (0, []))))), (35, (.getfield 52, (sv_N, (38, (0, []))))), (38, (.aload_n 0, (sv_N, (39, (0, []))))), (39, (.getfield 214, (sv_N, (42, (0, []))))), (42, (.iaload, (sv_N, (43, (0, []))))), (43, (.iload_n 1, (sv_N, (44, (0, []))))), (44, (.if_icmp .ne 58, (sv_N, (47, (102, []))))), (47, (.aload_n 0, (sv_N, (48, (0, []))))), (48, (.getfield 52, (sv_N, (51, (0, []))))), (51, (.aload_n 0, (sv_N, (52, (0, []))))), (52, (.getfield 214, (sv_N, (55, (0, []))))), (55, (.iconst 1, (.inl (1 : Int32), (56, (0, []))))), (56, (.iadd, (sv_N, (57, (0, []))))), (57, (.iaload, (sv_N, (58, (0, []))))), (58, (.iload_n 2, (sv_N, (59, (0, []))))), (59, (.if_icmp .ne 43, (sv_N, (62, (102, []))))), (62, (.aload_n 0, (sv_N, (63, (0, []))))), (63, (.getfield 52, (sv_N, (66, (0, []))))), (66, (.aload_n 0, (sv_N, (67, (0, []))))), (67, (.getfield 214, (sv_N, (70, (0, []))))), (70, (.iconst 2, (.inl (2 : Int32), (71, (0, []))))), (71, (.iadd, (sv_N, (72, (0, []))))), (72, (.iaload, (sv_N, (73, (0, []))))), (73, (.iload_n 3, (sv_N, (74, (0, []))))), (74, (.if_icmp .ne 28, (sv_N, (77, (102, []))))), (77, (.iload 4, (sv_N, (79, (0, []))))), (79, (.ifCond .eq 19, (sv_N, (82, (98, []))))), (82, (.aload_n 0, (sv_N, (83, (0, []))))), (83, (.getfield 52, (sv_N, (86, (0, []))))), (86, (.aload_n 0, (sv_N, (87, (0, []))))), (87, (.getfield 214, (sv_N, (90, (0, []))))), (90, (.iconst 3, (.inl (3 : Int32), (91, (0, []))))), (91, (.iadd, (sv_N, (92, (0, []))))), (92, (.iaload, (sv_N, (93, (0, []))))), (93, (.iload 4, (sv_N, (95, (0, []))))), (95, (.if_icmp .ne 7, (sv_N, (98, (102, []))))), (98, (.iconst 1, (.inl (1 : Int32), (99, (0, []))))), (99, (.goto 4, (sv_N, (102, (103, []))))), (102, (.iconst 0, (.inl (0 : Int32), (103, (0, []))))), (103, (.ireturn, (sv_N, (104, (0, [])))))]
noncomputable def ev_Mo_isWordAt : sv_E := (fun i => sv_lk i fl_12, (fun i => sv_lk i kc_12, (fun _ => 0, (true, (fun pc => sv_lk pc [], none)))))
noncomputable def kk_Mo_isWordAt_10 : sv_K (Int32 × sv_S) := fun pc => sv_lk pc []
set_option maxRecDepth 20000 in
theorem e_Mo_isWordAt_10 (x1 : Int32) (x2 : Int32) (x3 : Int32) (x4 : Int32) (y0 : Int32) (z5 : Option sv_V) (σ : sv_S) : sv_ex ev_Mo_isWordAt sv_rZ (kk_Mo_isWordAt_10) cd_Mo_isWordAt 59 10 [some (.inr (.inr (some (30, 0)))), some (.inl x1), some (.inl x2), some (.inl x3), some (.inl x4), z5] [.inl y0] σ = f_Mo_isWordAt_10 x1 x2 x3 x4 y0 σ := by
  unfold f_Mo_isWordAt_10
  delta ev_Mo_isWordAt kk_Mo_isWordAt_10
  rfl
noncomputable def kk_Mo_isWordAt : sv_K (Int32 × sv_S) := fun pc => sv_lk pc [(10, fun lo st σ => match lo, st with
    | [some (.inr (.inr (some (30, 0)))), some (.inl x1), some (.inl x2), some (.inl x3), some (.inl x4), _], [.inl y0] => f_Mo_isWordAt_10 x1 x2 x3 x4 y0 σ
    | _, _ => none)]
set_option maxRecDepth 20000 in
theorem e_Mo_isWordAt (a1 : Int32) (a2 : Int32) (a3 : Int32) (a4 : Int32) (σ : sv_S) : sv_ex ev_Mo_isWordAt sv_rZ kk_Mo_isWordAt cd_Mo_isWordAt 59 0 [some (.inr (.inr (some (30, 0)))), some (.inl a1), some (.inl a2), some (.inl a3), some (.inl a4), none] [] σ = f_Mo_isWordAt a1 a2 a3 a4 σ := by
  unfold f_Mo_isWordAt
  delta ev_Mo_isWordAt kk_Mo_isWordAt
  generalize f_Mo_isWordAt_10 = c0
  rfl
theorem d_Mo_isWordAt : cd_Mo_isWordAt.all (sv_dk cX12_isWordAt) = true := by decide +kernel
set_option maxRecDepth 20000 in
theorem w_Mo_isWordAt_10 {Γ : sv_Ga} {res : Int32 × sv_S} (X : sv_Ok Γ ev_Mo_isWordAt cX12_isWordAt sv_rZ res) : ∀ (x1 : Int32) (x2 : Int32) (x3 : Int32) (x4 : Int32) (y0 : Int32) (z5 : Option sv_V) (σ : sv_S), f_Mo_isWordAt_10 x1 x2 x3 x4 y0 σ = some res → sv_T Γ 10 [some (.inr (.inr (some (30, 0)))), some (.inl x1), some (.inl x2), some (.inl x3), some (.inl x4), z5] [.inl y0] σ := by
  intro x1 x2 x3 x4 y0 z5 σ h
  refine sv_run X d_Mo_isWordAt (K := kk_Mo_isWordAt_10) (sv_lk_all (P := fun pc (k : sv_Lo → List sv_V → sv_S → Option (Int32 × sv_S)) => ∀ lo st σ, k lo st σ = some res → sv_T Γ pc lo st σ) ?_) _ _ _ _ _ ((e_Mo_isWordAt_10 x1 x2 x3 x4 y0 z5 σ).trans h)
  clear h
  exact fun _ h => absurd h List.not_mem_nil

set_option maxRecDepth 20000 in
theorem b_Mo_isWordAt (Γ : sv_Ga) (res : Int32 × sv_S) (X : sv_Ok Γ ev_Mo_isWordAt cX12_isWordAt sv_rZ res) (as : List sv_V) (σ : sv_S) (h : n_Mo_isWordAt as σ = some res) : sv_T Γ 0 (sv_e0 6 as) [] σ := by
  unfold n_Mo_isWordAt at h
  split at h
  · refine sv_run X d_Mo_isWordAt (K := kk_Mo_isWordAt) (sv_lk_all (P := fun pc (k : sv_Lo → List sv_V → sv_S → Option (Int32 × sv_S)) => ∀ lo st σ, k lo st σ = some res → sv_T Γ pc lo st σ) ?_) _ _ _ _ _ ((e_Mo_isWordAt _ _ _ _ _).trans h)
    clear h
    refine List.forall_mem_cons.mpr ⟨fun lo st σ h => ?_, fun _ h => absurd h List.not_mem_nil⟩
    · dsimp only at h
      split at h
      · exact w_Mo_isWordAt_10 X _ _ _ _ _ _ _ h
      · cases h
  · cases h
theorem a_Mo_isWordAt (as : List sv_V) (σ : sv_S) (x : Int32 × sv_S) (h : n_Mo_isWordAt as σ = some x) : sv_args 6 ev_Mo_isWordAt.2.2.2.1 as := by
  unfold n_Mo_isWordAt at h
  split at h
  · exact ⟨Nat.le_of_ble_eq_true rfl, fun _ v hv => by
      simp only [List.mem_cons, List.not_mem_nil, or_false] at hv
      rcases hv with rfl | rfl | rfl | rfl | rfl <;> trivial⟩
  · cases h
theorem g_Mo_isWordAt (as : List sv_V) (σ : sv_S) (x : Option sv_V × sv_S) (h : sv_gI n_Mo_isWordAt as σ = some x) : ∃ r i as', as = sv_R r i :: as' ∧ sv_kd r i = .inl 12 := by
  obtain ⟨_, _, h, -⟩ := sv_b_some h
  unfold n_Mo_isWordAt at h
  split at h
  · exact ⟨_, _, _, rfl, rfl⟩
  · cases h

set_option maxRecDepth 20000 in
theorem m_Mo_isWordAt (l : Launch) : sv_M l yX12_isWordAt cX12_isWordAt 6 (some .boolean) (sv_gI n_Mo_isWordAt) 0 := by
  refine sv_mZ (E := ev_Mo_isWordAt) (by decide +kernel) (ln_gen fk_12 kk_12 (sv_ns _ (fun _ => rfl) _)) rfl ?_ a_Mo_isWordAt b_Mo_isWordAt
  intro p e R s m args below meth c cells slots Q base ad dC dI cA n0 S hkn hR hf pc n f hcs
  refine sv_lk_all (P := fun pc (x : Nat × sv_F) => sv_cok p l e R s m args below meth c cells slots Q base ad dC dI cA true 6 n0 pc x.1 x.2) ?_ pc (n, f) hcs
  exact fun _ h => absurd h List.not_mem_nil
