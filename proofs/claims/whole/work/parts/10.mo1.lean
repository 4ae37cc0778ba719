noncomputable def f_Mo_isIn (a0 : Int64) (a1 : Int64) (a2 : Int64) (σ : sv_S) : Option (Int32 × sv_S) :=
  sv_if ((lg_cmp a0 a1) < 0)
    (sv_g ((0 : Int32) = 0 ∨ (0 : Int32) = 1) (some ((0 : Int32), σ)))
    (sv_if (0 < (lg_cmp a0 a2))
      (sv_g ((0 : Int32) = 0 ∨ (0 : Int32) = 1) (some ((0 : Int32), σ)))
      (sv_g ((1 : Int32) = 0 ∨ (1 : Int32) = 1) (some ((1 : Int32), σ))))
noncomputable def n_Mo_isIn : List sv_V → sv_S → Option (Int32 × sv_S)
  | [.inr (.inl a0), .inr (.inl a1), .inr (.inl a2)], σ => f_Mo_isIn a0 a1 a2 σ
  | _, _ => none
def cd_Mo_isIn : sv_C := [(0, (.lload_n 0, (sv_N, (1, (0, []))))), (1, (.lload_n 2, (sv_N, (2, (0, []))))), (2, (.lcmp, (sv_N, (3, (0, []))))), (3, (.ifCond .lt 14, (sv_N, (6, (17, []))))), (6, (.lload_n 0, (sv_N, (7, (0, []))))), (7, (.lload 4, (sv_N, (9, (0, []))))), (9, (.lcmp, (sv_N, (10, (0, []))))), (10, (.ifCond .gt 7, (sv_N, (13, (17, []))))), (13, (.iconst 1, (.inl (1 : Int32), (14, (0, []))))), (14, (.goto 4, (sv_N, (17, (18, []))))), (17, (.iconst 0, (.inl (0 : Int32), (18, (0, []))))), (18, (.ireturn, (sv_N, (19, (0, [])))))]
noncomputable def ev_Mo_isIn : sv_E := (fun i => sv_lk i fl_12, (fun i => sv_lk i kc_12, (fun _ => 0, (false, (fun pc => sv_lk pc [], none)))))
noncomputable def kk_Mo_isIn : sv_K (Int32 × sv_S) := fun pc => sv_lk pc []
set_option maxRecDepth 20000 in
theorem e_Mo_isIn (a0 : Int64) (a1 : Int64) (a2 : Int64) (σ : sv_S) : sv_ex ev_Mo_isIn sv_rZ kk_Mo_isIn cd_Mo_isIn 14 0 [some (sv_L a0), none, some (sv_L a1), none, some (sv_L a2), none] [] σ = f_Mo_isIn a0 a1 a2 σ := by
  unfold f_Mo_isIn
  delta ev_Mo_isIn kk_Mo_isIn
  rfl
theorem d_Mo_isIn : cd_Mo_isIn.all (sv_dk cX12_isIn) = true := by decide +kernel
set_option maxRecDepth 20000 in
theorem b_Mo_isIn (Γ : sv_Ga) (res : Int32 × sv_S) (X : sv_Ok Γ ev_Mo_isIn cX12_isIn sv_rZ res) (as : List sv_V) (σ : sv_S) (h : n_Mo_isIn as σ = some res) : sv_T Γ 0 (sv_e0 6 as) [] σ := by
  unfold n_Mo_isIn at h
  split at h
  · refine sv_run X d_Mo_isIn (K := kk_Mo_isIn) (sv_lk_all (P := fun pc (k : sv_Lo → List sv_V → sv_S → Option (Int32 × sv_S)) => ∀ lo st σ, k lo st σ = some res → sv_T Γ pc lo st σ) ?_) _ _ _ _ _ ((e_Mo_isIn _ _ _ _).trans h)
    clear h
    exact fun _ h => absurd h List.not_mem_nil
  · cases h
theorem a_Mo_isIn (as : List sv_V) (σ : sv_S) (x : Int32 × sv_S) (h : n_Mo_isIn as σ = some x) : sv_args 6 ev_Mo_isIn.2.2.2.1 as := by
  unfold n_Mo_isIn at h
  split at h
  · exact ⟨Nat.le_of_ble_eq_true rfl, fun q => by cases q⟩
  · cases h

set_option maxRecDepth 20000 in
theorem m_Mo_isIn (l : Launch) : sv_M l yX12_isIn cX12_isIn 6 (some .boolean) (sv_gI n_Mo_isIn) 0 := by
  refine sv_mZ (E := ev_Mo_isIn) (by decide +kernel) (ln_gen fk_12 kk_12 (sv_ns _ (fun _ => rfl) _)) rfl ?_ a_Mo_isIn b_Mo_isIn
  intro p e R s m args below meth c cells slots Q base ad dC dI cA n0 S hkn hR hf pc n f hcs
  refine sv_lk_all (P := fun pc (x : Nat × sv_F) => sv_cok p l e R s m args below meth c cells slots Q base ad dC dI cA false 6 n0 pc x.1 x.2) ?_ pc (n, f) hcs
  exact fun _ h => absurd h List.not_mem_nil
noncomputable def f_Mo_orNone (a0 : Int32) (σ : sv_S) : Option (Int32 × sv_S) :=
  sv_if (0 ≤ a0)
    (some (a0, σ))
    (some ((-1000000005 : Int32), σ))
noncomputable def n_Mo_orNone : List sv_V → sv_S → Option (Int32 × sv_S)
  | [.inl a0], σ => f_Mo_orNone a0 σ
  | _, _ => none
def cd_Mo_orNone : sv_C := [(0, (.iload_n 0, (sv_N, (1, (0, []))))), (1, (.ifCond .ge 8, (sv_N, (4, (9, []))))), (4, (.ldc 70, (sv_N, (6, (0, []))))), (6, (.goto 4, (sv_N, (9, (10, []))))), (9, (.iload_n 0, (sv_N, (10, (0, []))))), (10, (.ireturn, (sv_N, (11, (0, [])))))]
noncomputable def ev_Mo_orNone : sv_E := (fun i => sv_lk i fl_12, (fun i => sv_lk i kc_12, (fun _ => 0, (true, (fun pc => sv_lk pc [], none)))))
noncomputable def kk_Mo_orNone : sv_K (Int32 × sv_S) := fun pc => sv_lk pc []
set_option maxRecDepth 20000 in
theorem e_Mo_orNone (a0 : Int32) (σ : sv_S) : sv_ex ev_Mo_orNone sv_rI kk_Mo_orNone cd_Mo_orNone 8 0 [some (.inl a0)] [] σ = f_Mo_orNone a0 σ := by
  unfold f_Mo_orNone
  delta ev_Mo_orNone kk_Mo_orNone
  rfl
theorem d_Mo_orNone : cd_Mo_orNone.all (sv_dk cX12_orNone) = true := by decide +kernel
set_option maxRecDepth 20000 in
theorem b_Mo_orNone (Γ : sv_Ga) (res : Int32 × sv_S) (X : sv_Ok Γ ev_Mo_orNone cX12_orNone sv_rI res) (as : List sv_V) (σ : sv_S) (h : n_Mo_orNone as σ = some res) : sv_T Γ 0 (sv_e0 1 as) [] σ := by
  unfold n_Mo_orNone at h
  split at h
  · refine sv_run X d_Mo_orNone (K := kk_Mo_orNone) (sv_lk_all (P := fun pc (k : sv_Lo → List sv_V → sv_S → Option (Int32 × sv_S)) => ∀ lo st σ, k lo st σ = some res → sv_T Γ pc lo st σ) ?_) _ _ _ _ _ ((e_Mo_orNone _ _).trans h)
    clear h
    exact fun _ h => absurd h List.not_mem_nil
  · cases h
theorem a_Mo_orNone (as : List sv_V) (σ : sv_S) (x : Int32 × sv_S) (h : n_Mo_orNone as σ = some x) : sv_args 1 ev_Mo_orNone.2.2.2.1 as := by
  unfold n_Mo_orNone at h
  split at h
  · exact ⟨Nat.le_of_ble_eq_true rfl, fun _ v hv => by
      simp only [List.mem_cons, List.not_mem_nil, or_false] at hv
      rcases hv with rfl <;> trivial⟩
  · cases h

set_option maxRecDepth 20000 in
theorem m_Mo_orNone (l : Launch) : sv_M l yX12_orNone cX12_orNone 1 (some .int) (sv_gI n_Mo_orNone) 0 := by
  refine sv_mI (E := ev_Mo_orNone) (by decide +kernel) (ln_gen fk_12 kk_12 (sv_ns _ (fun _ => rfl) _)) rfl ?_ a_Mo_orNone b_Mo_orNone
  intro p e R s m args below meth c cells slots Q base ad dC dI cA n0 S hkn hR hf pc n f hcs
  refine sv_lk_all (P := fun pc (x : Nat × sv_F) => sv_cok p l e R s m args below meth c cells slots Q base ad dC dI cA true 1 n0 pc x.1 x.2) ?_ pc (n, f) hcs
  exact fun _ h => absurd h List.not_mem_nil
noncomputable def f_Mo_held (a0 : Int32) (a1 : Int32) (a2 : Int32) (σ : sv_S) : Option (Int32 × sv_S) :=
  sv_if (a1 ≤ a0)
    (sv_if (a0 ≤ a2)
      (some (a0, σ))
      (some (a2, σ)))
    (some (a1, σ))
noncomputable def n_Mo_held : List sv_V → sv_S → Option (Int32 × sv_S)
  | [.inl a0, .inl a1, .inl a2], σ => f_Mo_held a0 a1 a2 σ
  | _, _ => none
def cd_Mo_held : sv_C := [(0, (.iload_n 0, (sv_N, (1, (0, []))))), (1, (.iload_n 1, (sv_N, (2, (0, []))))), (2, (.if_icmp .ge 7, (sv_N, (5, (9, []))))), (5, (.iload_n 1, (sv_N, (6, (0, []))))), (6, (.goto 13, (sv_N, (9, (19, []))))), (9, (.iload_n 0, (sv_N, (10, (0, []))))), (10, (.iload_n 2, (sv_N, (11, (0, []))))), (11, (.if_icmp .le 7, (sv_N, (14, (18, []))))), (14, (.iload_n 2, (sv_N, (15, (0, []))))), (15, (.goto 4, (sv_N, (18, (19, []))))), (18, (.iload_n 0, (sv_N, (19, (0, []))))), (19, (.ireturn, (sv_N, (20, (0, [])))))]
noncomputable def ev_Mo_held : sv_E := (fun i => sv_lk i fl_12, (fun i => sv_lk i kc_12, (fun _ => 0, (true, (fun pc => sv_lk pc [], none)))))
noncomputable def kk_Mo_held : sv_K (Int32 × sv_S) := fun pc => sv_lk pc []
set_option maxRecDepth 20000 in
theorem e_Mo_held (a0 : Int32) (a1 : Int32) (a2 : Int32) (σ : sv_S) : sv_ex ev_Mo_held sv_rI kk_Mo_held cd_Mo_held 14 0 [some (.inl a0), some (.inl a1), some (.inl a2)] [] σ = f_Mo_held a0 a1 a2 σ := by
  unfold f_Mo_held
  delta ev_Mo_held kk_Mo_held
  rfl
theorem d_Mo_held : cd_Mo_held.all (sv_dk cX12_held) = true := by decide +kernel
set_option maxRecDepth 20000 in
theorem b_Mo_held (Γ : sv_Ga) (res : Int32 × sv_S) (X : sv_Ok Γ ev_Mo_held cX12_held sv_rI res) (as : List sv_V) (σ : sv_S) (h : n_Mo_held as σ = some res) : sv_T Γ 0 (sv_e0 3 as) [] σ := by
  unfold n_Mo_held at h
  split at h
  · refine sv_run X d_Mo_held (K := kk_Mo_held) (sv_lk_all (P := fun pc (k : sv_Lo → List sv_V → sv_S → Option (Int32 × sv_S)) => ∀ lo st σ, k lo st σ = some res → sv_T Γ pc lo st σ) ?_) _ _ _ _ _ ((e_Mo_held _ _ _ _).trans h)
    clear h
    exact fun _ h => absurd h List.not_mem_nil
  · cases h
theorem a_Mo_held (as : List sv_V) (σ : sv_S) (x : Int32 × sv_S) (h : n_Mo_held as σ = some x) : sv_args 3 ev_Mo_held.2.2.2.1 as := by
  unfold n_Mo_held at h
  split at h
  · exact ⟨Nat.le_of_ble_eq_true rfl, fun _ v hv => by
      simp only [List.mem_cons, List.not_mem_nil, or_false] at hv
      rcases hv with rfl | rfl | rfl <;> trivial⟩
  · cases h

set_option maxRecDepth 20000 in
theorem m_Mo_held (l : Launch) : sv_M l yX12_held cX12_held 3 (some .int) (sv_gI n_Mo_held) 0 := by
  refine sv_mI (E := ev_Mo_held) (by decide +kernel) (ln_gen fk_12 kk_12 (sv_ns _ (fun _ => rfl) _)) rfl ?_ a_Mo_held b_Mo_held
  intro p e R s m args below meth c cells slots Q base ad dC dI cA n0 S hkn hR hf pc n f hcs
  refine sv_lk_all (P := fun pc (x : Nat × sv_F) => sv_cok p l e R s m args below meth c cells slots Q base ad dC dI cA true 3 n0 pc x.1 x.2) ?_ pc (n, f) hcs
  exact fun _ h => absurd h List.not_mem_nil
noncomputable def f_Mo_off (a0 : Int32) (a1 : Int32) (σ : sv_S) : Option (Int32 × sv_S) :=
  sv_if (a1 ≤ a0)
    (some (a0 - a1, σ))
    (some (a1 - a0, σ))
noncomputable def n_Mo_off : List sv_V → sv_S → Option (Int32 × sv_S)
  | [.inl a0, .inl a1], σ => f_Mo_off a0 a1 σ
  | _, _ => none
def cd_Mo_off : sv_C := [(0, (.iload_n 0, (sv_N, (1, (0, []))))), (1, (.iload_n 1, (sv_N, (2, (0, []))))), (2, (.if_icmp .ge 9, (sv_N, (5, (11, []))))), (5, (.iload_n 1, (sv_N, (6, (0, []))))), (6, (.iload_n 0, (sv_N, (7, (0, []))))), (7, (.isub, (sv_N, (8, (0, []))))), (8, (.goto 6, (sv_N, (11, (14, []))))), (11, (.iload_n 0, (sv_N, (12, (0, []))))), (12, (.iload_n 1, (sv_N, (13, (0, []))))), (13, (.isub, (sv_N, (14, (0, []))))), (14, (.ireturn, (sv_N, (15, (0, [])))))]
noncomputable def ev_Mo_off : sv_E := (fun i => sv_lk i fl_12, (fun i => sv_lk i kc_12, (fun _ => 0, (true, (fun pc => sv_lk pc [], none)))))
noncomputable def kk_Mo_off : sv_K (Int32 × sv_S) := fun pc => sv_lk pc []
set_option maxRecDepth 20000 in
theorem e_Mo_off (a0 : Int32) (a1 : Int32) (σ : sv_S) : sv_ex ev_Mo_off sv_rI kk_Mo_off cd_Mo_off 13 0 [some (.inl a0), some (.inl a1)] [] σ = f_Mo_off a0 a1 σ := by
  unfold f_Mo_off
  delta ev_Mo_off kk_Mo_off
  rfl
theorem d_Mo_off : cd_Mo_off.all (sv_dk cX12_off) = true := by decide +kernel
set_option maxRecDepth 20000 in
theorem b_Mo_off (Γ : sv_Ga) (res : Int32 × sv_S) (X : sv_Ok Γ ev_Mo_off cX12_off sv_rI res) (as : List sv_V) (σ : sv_S) (h : n_Mo_off as σ = some res) : sv_T Γ 0 (sv_e0 2 as) [] σ := by
  unfold n_Mo_off at h
  split at h
  · refine sv_run X d_Mo_off (K := kk_Mo_off) (sv_lk_all (P := fun pc (k : sv_Lo → List sv_V → sv_S → Option (Int32 × sv_S)) => ∀ lo st σ, k lo st σ = some res → sv_T Γ pc lo st σ) ?_) _ _ _ _ _ ((e_Mo_off _ _ _).trans h)
    clear h
    exact fun _ h => absurd h List.not_mem_nil
  · cases h
theorem a_Mo_off (as : List sv_V) (σ : sv_S) (x : Int32 × sv_S) (h : n_Mo_off as σ = some x) : sv_args 2 ev_Mo_off.2.2.2.1 as := by
  unfold n_Mo_off at h
  split at h
  · exact ⟨Nat.le_of_ble_eq_true rfl, fun _ v hv => by
      simp only [List.mem_cons, List.not_mem_nil, or_false] at hv
      rcases hv with rfl | rfl <;> trivial⟩
  · cases h

set_option maxRecDepth 20000 in
theorem m_Mo_off (l : Launch) : sv_M l yX12_off cX12_off 2 (some .int) (sv_gI n_Mo_off) 0 := by
  refine sv_mI (E := ev_Mo_off) (by decide +kernel) (ln_gen fk_12 kk_12 (sv_ns _ (fun _ => rfl) _)) rfl ?_ a_Mo_off b_Mo_off
  intro p e R s m args below meth c cells slots Q base ad dC dI cA n0 S hkn hR hf pc n f hcs
  refine sv_lk_all (P := fun pc (x : Nat × sv_F) => sv_cok p l e R s m args below meth c cells slots Q base ad dC dI cA true 2 n0 pc x.1 x.2) ?_ pc (n, f) hcs
  exact fun _ h => absurd h List.not_mem_nil
noncomputable def f_Mo_becomes (a1 : Int32) (a2 : Int32) (σ : sv_S) : Option (Int32 × sv_S) :=
  sv_g (sv_in a1 3086) (sv_g (sv_in a1 3086) (some (σ 31 0 (a1.toNatClampNeg), sv_up σ 31 0 (a1.toNatClampNeg) a2)))
noncomputable def n_Mo_becomes : List sv_V → sv_S → Option (Int32 × sv_S)
  | [.inr (.inr (some (30, 0))), .inl a1, .inl a2], σ => f_Mo_becomes a1 a2 σ
  | _, _ => none
def cd_Mo_becomes : sv_C := [(0, (.aload_n 0, (sv_N, (1, (0, []))))), (1, (.getfield 7, (sv_N, (4, (0, []))))), (4, (.iload_n 1, (sv_N, (5, (0, []))))), (5, (.iaload, (sv_N, (6, (0, []))))), (6, (.istore_n 3, (sv_N, (7, (0, []))))), (7, (.aload_n 0, (sv_N, (8, (0, []))))), (8, (.getfield 7, (sv_N, (11, (0, []))))), (11, (.iload_n 1, (sv_N, (12, (0, []))))), (12, (.iload_n 2, (sv_N, (13, (0, []))))), (13, (.iastore, (sv_N, (14, (0, []))))), (14, (.iload_n 3, (sv_N, (15, (0, []))))), (15, (.ireturn, (sv_N, (16, (0, [])))))]
noncomputable def ev_Mo_becomes : sv_E := (fun i => sv_lk i fl_12, (fun i => sv_lk i kc_12, (fun _ => 0, (true, (fun pc => sv_lk pc [], none)))))
noncomputable def kk_Mo_becomes : sv_K (Int32 × sv_S) := fun pc => sv_lk pc []
set_option maxRecDepth 20000 in
theorem e_Mo_becomes (a1 : Int32) (a2 : Int32) (σ : sv_S) : sv_ex ev_Mo_becomes sv_rI kk_Mo_becomes cd_Mo_becomes 14 0 [some (.inr (.inr (some (30, 0)))), some (.inl a1), some (.inl a2), none] [] σ = f_Mo_becomes a1 a2 σ := by
  unfold f_Mo_becomes
  delta ev_Mo_becomes kk_Mo_becomes
  rfl
theorem d_Mo_becomes : cd_Mo_becomes.all (sv_dk cX12_becomes) = true := by decide +kernel
set_option maxRecDepth 20000 in
theorem b_Mo_becomes (Γ : sv_Ga) (res : Int32 × sv_S) (X : sv_Ok Γ ev_Mo_becomes cX12_becomes sv_rI res) (as : List sv_V) (σ : sv_S) (h : n_Mo_becomes as σ = some res) : sv_T Γ 0 (sv_e0 4 as) [] σ := by
  unfold n_Mo_becomes at h
  split at h
  · refine sv_run X d_Mo_becomes (K := kk_Mo_becomes) (sv_lk_all (P := fun pc (k : sv_Lo → List sv_V → sv_S → Option (Int32 × sv_S)) => ∀ lo st σ, k lo st σ = some res → sv_T Γ pc lo st σ) ?_) _ _ _ _ _ ((e_Mo_becomes _ _ _).trans h)
    clear h
    exact fun _ h => absurd h List.not_mem_nil
  · cases h
theorem a_Mo_becomes (as : List sv_V) (σ : sv_S) (x : Int32 × sv_S) (h : n_Mo_becomes as σ = some x) : sv_args 4 ev_Mo_becomes.2.2.2.1 as := by
  unfold n_Mo_becomes at h
  split at h
  · exact ⟨Nat.le_of_ble_eq_true rfl, fun _ v hv => by
      simp only [List.mem_cons, List.not_mem_nil, or_false] at hv
      rcases hv with rfl | rfl | rfl <;> trivial⟩
  · cases h
theorem g_Mo_becomes (as : List sv_V) (σ : sv_S) (x : Option sv_V × sv_S) (h : sv_gI n_Mo_becomes as σ = some x) : ∃ r i as', as = sv_R r i :: as' ∧ sv_kd r i = .inl 12 := by
  obtain ⟨_, _, h, -⟩ := sv_b_some h
  unfold n_Mo_becomes at h
  split at h
  · exact ⟨_, _, _, rfl, rfl⟩
  · cases h

set_option maxRecDepth 20000 in
theorem m_Mo_becomes (l : Launch) : sv_M l yX12_becomes cX12_becomes 4 (some .int) (sv_gI n_Mo_becomes) 0 := by
  refine sv_mI (E := ev_Mo_becomes) (by decide +kernel) (ln_gen fk_12 kk_12 (sv_ns _ (fun _ => rfl) _)) rfl ?_ a_Mo_becomes b_Mo_becomes
  intro p e R s m args below meth c cells slots Q base ad dC dI cA n0 S hkn hR hf pc n f hcs
  refine sv_lk_all (P := fun pc (x : Nat × sv_F) => sv_cok p l e R s m args below meth c cells slots Q base ad dC dI cA true 4 n0 pc x.1 x.2) ?_ pc (n, f) hcs
  exact fun _ h => absurd h List.not_mem_nil
noncomputable def f_Mo_textAt (a1 : Int32) (σ : sv_S) : Option (Int32 × sv_S) :=
  some ((86 : Int32) + ((200 : Int32) * a1), σ)
noncomputable def n_Mo_textAt : List sv_V → sv_S → Option (Int32 × sv_S)
  | [.inr (.inr (some (30, 0))), .inl a1], σ => f_Mo_textAt a1 σ
  | _, _ => none
def cd_Mo_textAt : sv_C := [(0, (.bipush 86, (.inl (86 : Int32), (2, (0, []))))), (2, (.sipush 200, (.inl (200 : Int32), (5, (0, []))))), (5, (.iload_n 1, (sv_N, (6, (0, []))))), (6, (.imul, (sv_N, (7, (0, []))))), (7, (.iadd, (sv_N, (8, (0, []))))), (8, (.ireturn, (sv_N, (9, (0, [])))))]
noncomputable def ev_Mo_textAt : sv_E := (fun i => sv_lk i fl_12, (fun i => sv_lk i kc_12, (fun _ => 0, (true, (fun pc => sv_lk pc [], none)))))
noncomputable def kk_Mo_textAt : sv_K (Int32 × sv_S) := fun pc => sv_lk pc []
set_option maxRecDepth 20000 in
theorem e_Mo_textAt (a1 : Int32) (σ : sv_S) : sv_ex ev_Mo_textAt sv_rI kk_Mo_textAt cd_Mo_textAt 8 0 [some (.inr (.inr (some (30, 0)))), some (.inl a1)] [] σ = f_Mo_textAt a1 σ := by
  unfold f_Mo_textAt
  delta ev_Mo_textAt kk_Mo_textAt
  rfl
theorem d_Mo_textAt : cd_Mo_textAt.all (sv_dk cX12_textAt) = true := by decide +kernel
set_option maxRecDepth 20000 in
theorem b_Mo_textAt (Γ : sv_Ga) (res : Int32 × sv_S) (X : sv_Ok Γ ev_Mo_textAt cX12_textAt sv_rI res) (as : List sv_V) (σ : sv_S) (h : n_Mo_textAt as σ = some res) : sv_T Γ 0 (sv_e0 2 as) [] σ := by
  unfold n_Mo_textAt at h
  split at h
  · refine sv_run X d_Mo_textAt (K := kk_Mo_textAt) (sv_lk_all (P := fun pc (k : sv_Lo → List sv_V → sv_S → Option (Int32 × sv_S)) => ∀ lo st σ, k lo st σ = some res → sv_T Γ pc lo st σ) ?_) _ _ _ _ _ ((e_Mo_textAt _ _).trans h)
    clear h
    exact fun _ h => absurd h List.not_mem_nil
  · cases h
theorem a_Mo_textAt (as : List sv_V) (σ : sv_S) (x : Int32 × sv_S) (h : n_Mo_textAt as σ = some x) : sv_args 2 ev_Mo_textAt.2.2.2.1 as := by
  unfold n_Mo_textAt at h
  split at h
  · exact ⟨Nat.le_of_ble_eq_true rfl, fun _ v hv => by
      simp only [List.mem_cons, List.not_mem_nil, or_false] at hv
      rcases hv with rfl | rfl <;> trivial⟩
  · cases h
theorem g_Mo_textAt (as : List sv_V) (σ : sv_S) (x : Option sv_V × sv_S) (h : sv_gI n_Mo_textAt as σ = some x) : ∃ r i as', as = sv_R r i :: as' ∧ sv_kd r i = .inl 12 := by
  obtain ⟨_, _, h, -⟩ := sv_b_some h
  unfold n_Mo_textAt at h
  split at h
  · exact ⟨_, _, _, rfl, rfl⟩
  · cases h

set_option maxRecDepth 20000 in
theorem m_Mo_textAt (l : Launch) : sv_M l yX12_textAt cX12_textAt 2 (some .int) (sv_gI n_Mo_textAt) 0 := by
  refine sv_mI (E := ev_Mo_textAt) (by decide +kernel) (ln_gen fk_12 kk_12 (sv_ns _ (fun _ => rfl) _)) rfl ?_ a_Mo_textAt b_Mo_textAt
  intro p e R s m args below meth c cells slots Q base ad dC dI cA n0 S hkn hR hf pc n f hcs
  refine sv_lk_all (P := fun pc (x : Nat × sv_F) => sv_cok p l e R s m args below meth c cells slots Q base ad dC dI cA true 2 n0 pc x.1 x.2) ?_ pc (n, f) hcs
  exact fun _ h => absurd h List.not_mem_nil
noncomputable def f_Mo_of (a1 : Int32) (a2 : Int32) (σ : sv_S) : Option (Int32 × sv_S) :=
  sv_g (sv_in (((6 : Int32) + ((8 : Int32) * a1)) + a2) 3086) (some (σ 31 0 ((((6 : Int32) + ((8 : Int32) * a1)) + a2).toNatClampNeg), σ))
noncomputable def n_Mo_of : List sv_V → sv_S → Option (Int32 × sv_S)
  | [.inr (.inr (some (30, 0))), .inl a1, .inl a2], σ => f_Mo_of a1 a2 σ
  | _, _ => none
def cd_Mo_of : sv_C := [(0, (.aload_n 0, (sv_N, (1, (0, []))))), (1, (.getfield 7, (sv_N, (4, (0, []))))), (4, (.bipush 6, (.inl (6 : Int32), (6, (0, []))))), (6, (.bipush 8, (.inl (8 : Int32), (8, (0, []))))), (8, (.iload_n 1, (sv_N, (9, (0, []))))), (9, (.imul, (sv_N, (10, (0, []))))), (10, (.iadd, (sv_N, (11, (0, []))))), (11, (.iload_n 2, (sv_N, (12, (0, []))))), (12, (.iadd, (sv_N, (13, (0, []))))), (13, (.iaload, (sv_N, (14, (0, []))))), (14, (.ireturn, (sv_N, (15, (0, [])))))]
noncomputable def ev_Mo_of : sv_E := (fun i => sv_lk i fl_12, (fun i => sv_lk i kc_12, (fun _ => 0, (true, (fun pc => sv_lk pc [], none)))))
noncomputable def kk_Mo_of : sv_K (Int32 × sv_S) := fun pc => sv_lk pc []
set_option maxRecDepth 20000 in
theorem e_Mo_of (a1 : Int32) (a2 : Int32) (σ : sv_S) : sv_ex ev_Mo_of sv_rI kk_Mo_of cd_Mo_of 13 0 [some (.inr (.inr (some (30, 0)))), some (.inl a1), some (.inl a2)] [] σ = f_Mo_of a1 a2 σ := by
  unfold f_Mo_of
  delta ev_Mo_of kk_Mo_of
  rfl
theorem d_Mo_of : cd_Mo_of.all (sv_dk cX12_of) = true := by decide +kernel
set_option maxRecDepth 20000 in
theorem b_Mo_of (Γ : sv_Ga) (res : Int32 × sv_S) (X : sv_Ok Γ ev_Mo_of cX12_of sv_rI res) (as : List sv_V) (σ : sv_S) (h : n_Mo_of as σ = some res) : sv_T Γ 0 (sv_e0 3 as) [] σ := by
  unfold n_Mo_of at h
  split at h
  · refine sv_run X d_Mo_of (K := kk_Mo_of) (sv_lk_all (P := fun pc (k : sv_Lo → List sv_V → sv_S → Option (Int32 × sv_S)) => ∀ lo st σ, k lo st σ = some res → sv_T Γ pc lo st σ) ?_) _ _ _ _ _ ((e_Mo_of _ _ _).trans h)
    clear h
    exact fun _ h => absurd h List.not_mem_nil
  · cases h
theorem a_Mo_of (as : List sv_V) (σ : sv_S) (x : Int32 × sv_S) (h : n_Mo_of as σ = some x) : sv_args 3 ev_Mo_of.2.2.2.1 as := by
  unfold n_Mo_of at h
  split at h
  · exact ⟨Nat.le_of_ble_eq_true rfl, fun _ v hv => by
      simp only [List.mem_cons, List.not_mem_nil, or_false] at hv
      rcases hv with rfl | rfl | rfl <;> trivial⟩
  · cases h
theorem g_Mo_of (as : List sv_V) (σ : sv_S) (x : Option sv_V × sv_S) (h : sv_gI n_Mo_of as σ = some x) : ∃ r i as', as = sv_R r i :: as' ∧ sv_kd r i = .inl 12 := by
  obtain ⟨_, _, h, -⟩ := sv_b_some h
  unfold n_Mo_of at h
  split at h
  · exact ⟨_, _, _, rfl, rfl⟩
  · cases h

set_option maxRecDepth 20000 in
theorem m_Mo_of (l : Launch) : sv_M l yX12_of cX12_of 3 (some .int) (sv_gI n_Mo_of) 0 := by
  refine sv_mI (E := ev_Mo_of) (by decide +kernel) (ln_gen fk_12 kk_12 (sv_ns _ (fun _ => rfl) _)) rfl ?_ a_Mo_of b_Mo_of
  intro p e R s m args below meth c cells slots Q base ad dC dI cA n0 S hkn hR hf pc n f hcs
  refine sv_lk_all (P := fun pc (x : Nat × sv_F) => sv_cok p l e R s m args below meth c cells slots Q base ad dC dI cA true 3 n0 pc x.1 x.2) ?_ pc (n, f) hcs
  exact fun _ h => absurd h List.not_mem_nil
noncomputable def f_Mo_sets (a1 : Int32) (a2 : Int32) (a3 : Int32) (σ : sv_S) : Option (sv_S) :=
  sv_g (sv_in (((6 : Int32) + ((8 : Int32) * a1)) + a2) 3086) (some (sv_up σ 31 0 ((((6 : Int32) + ((8 : Int32) * a1)) + a2).toNatClampNeg) a3))
noncomputable def n_Mo_sets : List sv_V → sv_S → Option (sv_S)
  | [.inr (.inr (some (30, 0))), .inl a1, .inl a2, .inl a3], σ => f_Mo_sets a1 a2 a3 σ
  | _, _ => none
def cd_Mo_sets : sv_C := [(0, (.aload_n 0, (sv_N, (1, (0, []))))), (1, (.getfield 7, (sv_N, (4, (0, []))))), (4, (.bipush 6, (.inl (6 : Int32), (6, (0, []))))), (6, (.bipush 8, (.inl (8 : Int32), (8, (0, []))))), (8, (.iload_n 1, (sv_N, (9, (0, []))))), (9, (.imul, (sv_N, (10, (0, []))))), (10, (.iadd, (sv_N, (11, (0, []))))), (11, (.iload_n 2, (sv_N, (12, (0, []))))), (12, (.iadd, (sv_N, (13, (0, []))))), (13, (.iload_n 3, (sv_N, (14, (0, []))))), (14, (.iastore, (sv_N, (15, (0, []))))), (15, (.return_, (sv_N, (16, (0, [])))))]
noncomputable def ev_Mo_sets : sv_E := (fun i => sv_lk i fl_12, (fun i => sv_lk i kc_12, (fun _ => 0, (true, (fun pc => sv_lk pc [], none)))))
noncomputable def kk_Mo_sets : sv_K (sv_S) := fun pc => sv_lk pc []
set_option maxRecDepth 20000 in
theorem e_Mo_sets (a1 : Int32) (a2 : Int32) (a3 : Int32) (σ : sv_S) : sv_ex ev_Mo_sets sv_rV kk_Mo_sets cd_Mo_sets 14 0 [some (.inr (.inr (some (30, 0)))), some (.inl a1), some (.inl a2), some (.inl a3)] [] σ = f_Mo_sets a1 a2 a3 σ := by
  unfold f_Mo_sets
  delta ev_Mo_sets kk_Mo_sets
  rfl
theorem d_Mo_sets : cd_Mo_sets.all (sv_dk cX12_sets) = true := by decide +kernel
set_option maxRecDepth 20000 in
theorem b_Mo_sets (Γ : sv_Ga) (res : sv_S) (X : sv_Ok Γ ev_Mo_sets cX12_sets sv_rV res) (as : List sv_V) (σ : sv_S) (h : n_Mo_sets as σ = some res) : sv_T Γ 0 (sv_e0 4 as) [] σ := by
  unfold n_Mo_sets at h
  split at h
  · refine sv_run X d_Mo_sets (K := kk_Mo_sets) (sv_lk_all (P := fun pc (k : sv_Lo → List sv_V → sv_S → Option (sv_S)) => ∀ lo st σ, k lo st σ = some res → sv_T Γ pc lo st σ) ?_) _ _ _ _ _ ((e_Mo_sets _ _ _ _).trans h)
    clear h
    exact fun _ h => absurd h List.not_mem_nil
  · cases h
theorem a_Mo_sets (as : List sv_V) (σ : sv_S) (x : sv_S) (h : n_Mo_sets as σ = some x) : sv_args 4 ev_Mo_sets.2.2.2.1 as := by
  unfold n_Mo_sets at h
  split at h
  · exact ⟨Nat.le_of_ble_eq_true rfl, fun _ v hv => by
      simp only [List.mem_cons, List.not_mem_nil, or_false] at hv
      rcases hv with rfl | rfl | rfl | rfl <;> trivial⟩
  · cases h
theorem g_Mo_sets (as : List sv_V) (σ : sv_S) (x : Option sv_V × sv_S) (h : sv_gV n_Mo_sets as σ = some x) : ∃ r i as', as = sv_R r i :: as' ∧ sv_kd r i = .inl 12 := by
  obtain ⟨_, h, -⟩ := sv_b0_some h
  unfold n_Mo_sets at h
  split at h
  · exact ⟨_, _, _, rfl, rfl⟩
  · cases h

set_option maxRecDepth 20000 in
theorem m_Mo_sets (l : Launch) : sv_M l yX12_sets cX12_sets 4 none (sv_gV n_Mo_sets) 0 := by
  refine sv_mV (E := ev_Mo_sets) (by decide +kernel) (ln_gen fk_12 kk_12 (sv_ns _ (fun _ => rfl) _)) rfl ?_ a_Mo_sets b_Mo_sets
  intro p e R s m args below meth c cells slots Q base ad dC dI cA n0 S hkn hR hf pc n f hcs
  refine sv_lk_all (P := fun pc (x : Nat × sv_F) => sv_cok p l e R s m args below meth c cells slots Q base ad dC dI cA true 4 n0 pc x.1 x.2) ?_ pc (n, f) hcs
  exact fun _ h => absurd h List.not_mem_nil
noncomputable def f_Mo_isDrummer (a1 : Int32) (σ : sv_S) : Option (Int32 × sv_S) :=
  sv_g (sv_in (0 : Int32) 3086) (sv_b (f_Mo_isIn (a1.toInt64) (0 : Int64) (((σ 31 0 ((0 : Int32).toNatClampNeg)) - (1 : Int32)).toInt64) σ) (fun v1 σ2 =>
    sv_g (v1 = 0 ∨ v1 = 1) (some (v1, σ2))))
noncomputable def n_Mo_isDrummer : List sv_V → sv_S → Option (Int32 × sv_S)
  | [.inr (.inr (some (30, 0))), .inl a1], σ => f_Mo_isDrummer a1 σ
  | _, _ => none
def cd_Mo_isDrummer : sv_C := [(0, (.iload_n 1, (sv_N, (1, (0, []))))), (1, (.i2l, (sv_N, (2, (0, []))))), (2, (.lconst 0, (.inr (.inl (0 : Int64)), (3, (0, []))))), (3, (.aload_n 0, (sv_N, (4, (0, []))))), (4, (.getfield 7, (sv_N, (7, (0, []))))), (7, (.iconst 0, (.inl (0 : Int32), (8, (0, []))))), (8, (.iaload, (sv_N, (9, (0, []))))), (9, (.iconst 1, (.inl (1 : Int32), (10, (0, []))))), (10, (.isub, (sv_N, (11, (0, []))))), (11, (.i2l, (sv_N, (12, (0, []))))), (12, (.invokestatic 71, (sv_N, (15, (0, []))))), (15, (.ireturn, (sv_N, (16, (0, [])))))]
noncomputable def ev_Mo_isDrummer : sv_E := (fun i => sv_lk i fl_12, (fun i => sv_lk i kc_12, (fun _ => 0, (true, (fun pc => sv_lk pc [(12, (3, .inl n_Mo_isIn))], none)))))
noncomputable def kk_Mo_isDrummer : sv_K (Int32 × sv_S) := fun pc => sv_lk pc []
set_option maxRecDepth 20000 in
theorem e_Mo_isDrummer (a1 : Int32) (σ : sv_S) : sv_ex ev_Mo_isDrummer sv_rZ kk_Mo_isDrummer cd_Mo_isDrummer 14 0 [some (.inr (.inr (some (30, 0)))), some (.inl a1)] [] σ = f_Mo_isDrummer a1 σ := by
  unfold f_Mo_isDrummer
  delta ev_Mo_isDrummer kk_Mo_isDrummer n_Mo_isIn
  generalize f_Mo_isIn = c0
  rfl
theorem d_Mo_isDrummer : cd_Mo_isDrummer.all (sv_dk cX12_isDrummer) = true := by decide +kernel
set_option maxRecDepth 20000 in
theorem b_Mo_isDrummer (Γ : sv_Ga) (res : Int32 × sv_S) (X : sv_Ok Γ ev_Mo_isDrummer cX12_isDrummer sv_rZ res) (as : List sv_V) (σ : sv_S) (h : n_Mo_isDrummer as σ = some res) : sv_T Γ 0 (sv_e0 2 as) [] σ := by
  unfold n_Mo_isDrummer at h
  split at h
  · refine sv_run X d_Mo_isDrummer (K := kk_Mo_isDrummer) (sv_lk_all (P := fun pc (k : sv_Lo → List sv_V → sv_S → Option (Int32 × sv_S)) => ∀ lo st σ, k lo st σ = some res → sv_T Γ pc lo st σ) ?_) _ _ _ _ _ ((e_Mo_isDrummer _ _).trans h)
    clear h
    exact fun _ h => absurd h List.not_mem_nil
  · cases h
theorem a_Mo_isDrummer (as : List sv_V) (σ : sv_S) (x : Int32 × sv_S) (h : n_Mo_isDrummer as σ = some x) : sv_args 2 ev_Mo_isDrummer.2.2.2.1 as := by
  unfold n_Mo_isDrummer at h
  split at h
  · exact ⟨Nat.le_of_ble_eq_true rfl, fun _ v hv => by
      simp only [List.mem_cons, List.not_mem_nil, or_false] at hv
      rcases hv with rfl | rfl <;> trivial⟩
  · cases h
theorem g_Mo_isDrummer (as : List sv_V) (σ : sv_S) (x : Option sv_V × sv_S) (h : sv_gI n_Mo_isDrummer as σ = some x) : ∃ r i as', as = sv_R r i :: as' ∧ sv_kd r i = .inl 12 := by
  obtain ⟨_, _, h, -⟩ := sv_b_some h
  unfold n_Mo_isDrummer at h
  split at h
  · exact ⟨_, _, _, rfl, rfl⟩
  · cases h
theorem tw_65 : Cond.initialized RX12 ∈ gw_tbl := gw_at 65 (by decide +kernel) rfl
theorem tw_1098 : Cond.methodLink RX12 71 yX12_isIn ∈ gw_tbl := gw_at 1098 (by decide +kernel) rfl
theorem tw_1099 : Cond.static yX12_isIn ∈ gw_tbl := gw_at 1099 (by decide +kernel) rfl
theorem tw_1100 : Cond.code yX12_isIn cX12_isIn 6 (some .boolean) ∈ gw_tbl := gw_at 1100 (by decide +kernel) rfl
set_option maxRecDepth 20000 in
theorem m_Mo_isDrummer (l : Launch) : sv_M l yX12_isDrummer cX12_isDrummer 2 (some .boolean) (sv_gI n_Mo_isDrummer) 1 := by
  refine sv_mZ (E := ev_Mo_isDrummer) (by decide +kernel) (ln_gen fk_12 kk_12 (sv_ns _ (fun _ => rfl) _)) rfl ?_ a_Mo_isDrummer b_Mo_isDrummer
  intro p e R s m args below meth c cells slots Q base ad dC dI cA n0 S hkn hR hf pc n f hcs
  refine sv_lk_all (P := fun pc (x : Nat × sv_F) => sv_cok p l e R s m args below meth c cells slots Q base ad dC dI cA true 2 n0 pc x.1 x.2) ?_ pc (n, f) hcs
  exact List.forall_mem_cons.mpr ⟨(sv_cS S hkn (m_Mo_isIn l) ⟨Nat.le_trans (by decide) hR.1, Nat.le_trans (by decide) hR.2⟩ (by decide) hf (sv_w4 tw_1098 tw_1099 tw_65 tw_1100) (by decide +kernel) (sv_dc3 d_Mo_isDrummer (pc := 12) rfl rfl)).I,
      fun _ h => absurd h List.not_mem_nil⟩
noncomputable def f_Mo_isText (a1 : Int32) (σ : sv_S) : Option (Int32 × sv_S) :=
  sv_g (sv_in (1 : Int32) 3086) (sv_b (f_Mo_isIn (a1.toInt64) (0 : Int64) (((σ 31 0 ((1 : Int32).toNatClampNeg)) - (1 : Int32)).toInt64) σ) (fun v1 σ2 =>
    sv_g (v1 = 0 ∨ v1 = 1) (some (v1, σ2))))
noncomputable def n_Mo_isText : List sv_V → sv_S → Option (Int32 × sv_S)
  | [.inr (.inr (some (30, 0))), .inl a1], σ => f_Mo_isText a1 σ
  | _, _ => none
def cd_Mo_isText : sv_C := [(0, (.iload_n 1, (sv_N, (1, (0, []))))), (1, (.i2l, (sv_N, (2, (0, []))))), (2, (.lconst 0, (.inr (.inl (0 : Int64)), (3, (0, []))))), (3, (.aload_n 0, (sv_N, (4, (0, []))))), (4, (.getfield 7, (sv_N, (7, (0, []))))), (7, (.iconst 1, (.inl (1 : Int32), (8, (0, []))))), (8, (.iaload, (sv_N, (9, (0, []))))), (9, (.iconst 1, (.inl (1 : Int32), (10, (0, []))))), (10, (.isub, (sv_N, (11, (0, []))))), (11, (.i2l, (sv_N, (12, (0, []))))), (12, (.invokestatic 71, (sv_N, (15, (0, []))))), (15, (.ireturn, (sv_N, (16, (0, [])))))]
noncomputable def ev_Mo_isText : sv_E := (fun i => sv_lk i fl_12, (fun i => sv_lk i kc_12, (fun _ => 0, (true, (fun pc => sv_lk pc [(12, (3, .inl n_Mo_isIn))], none)))))
noncomputable def kk_Mo_isText : sv_K (Int32 × sv_S) := fun pc => sv_lk pc []
set_option maxRecDepth 20000 in
theorem e_Mo_isText (a1 : Int32) (σ : sv_S) : sv_ex ev_Mo_isText sv_rZ kk_Mo_isText cd_Mo_isText 14 0 [some (.inr (.inr (some (30, 0)))), some (.inl a1)] [] σ = f_Mo_isText a1 σ := by
  unfold f_Mo_isText
  delta ev_Mo_isText kk_Mo_isText n_Mo_isIn
  generalize f_Mo_isIn = c0
  rfl
theorem d_Mo_isText : cd_Mo_isText.all (sv_dk cX12_isText) = true := by decide +kernel
set_option maxRecDepth 20000 in
theorem b_Mo_isText (Γ : sv_Ga) (res : Int32 × sv_S) (X : sv_Ok Γ ev_Mo_isText cX12_isText sv_rZ res) (as : List sv_V) (σ : sv_S) (h : n_Mo_isText as σ = some res) : sv_T Γ 0 (sv_e0 2 as) [] σ := by
  unfold n_Mo_isText at h
  split at h
  · refine sv_run X d_Mo_isText (K := kk_Mo_isText) (sv_lk_all (P := fun pc (k : sv_Lo → List sv_V → sv_S → Option (Int32 × sv_S)) => ∀ lo st σ, k lo st σ = some res → sv_T Γ pc lo st σ) ?_) _ _ _ _ _ ((e_Mo_isText _ _).trans h)
    clear h
    exact fun _ h => absurd h List.not_mem_nil
  · cases h
theorem a_Mo_isText (as : List sv_V) (σ : sv_S) (x : Int32 × sv_S) (h : n_Mo_isText as σ = some x) : sv_args 2 ev_Mo_isText.2.2.2.1 as := by
  unfold n_Mo_isText at h
  split at h
  · exact ⟨Nat.le_of_ble_eq_true rfl, fun _ v hv => by
      simp only [List.mem_cons, List.not_mem_nil, or_false] at hv
      rcases hv with rfl | rfl <;> trivial⟩
  · cases h
theorem g_Mo_isText (as : List sv_V) (σ : sv_S) (x : Option sv_V × sv_S) (h : sv_gI n_Mo_isText as σ = some x) : ∃ r i as', as = sv_R r i :: as' ∧ sv_kd r i = .inl 12 := by
  obtain ⟨_, _, h, -⟩ := sv_b_some h
  unfold n_Mo_isText at h
  split at h
  · exact ⟨_, _, _, rfl, rfl⟩
  · cases h

set_option maxRecDepth 20000 in
theorem m_Mo_isText (l : Launch) : sv_M l yX12_isText cX12_isText 2 (some .boolean) (sv_gI n_Mo_isText) 1 := by
  refine sv_mZ (E := ev_Mo_isText) (by decide +kernel) (ln_gen fk_12 kk_12 (sv_ns _ (fun _ => rfl) _)) rfl ?_ a_Mo_isText b_Mo_isText
  intro p e R s m args below meth c cells slots Q base ad dC dI cA n0 S hkn hR hf pc n f hcs
  refine sv_lk_all (P := fun pc (x : Nat × sv_F) => sv_cok p l e R s m args below meth c cells slots Q base ad dC dI cA true 2 n0 pc x.1 x.2) ?_ pc (n, f) hcs
  exact List.forall_mem_cons.mpr ⟨(sv_cS S hkn (m_Mo_isIn l) ⟨Nat.le_trans (by decide) hR.1, Nat.le_trans (by decide) hR.2⟩ (by decide) hf (sv_w4 tw_1098 tw_1099 tw_65 tw_1100) (by decide +kernel) (sv_dc3 d_Mo_isText (pc := 12) rfl rfl)).I,
      fun _ h => absurd h List.not_mem_nil⟩
noncomputable def f_Mo_drawn (σ : sv_S) : Option (Int32 × sv_S) :=
  sv_g (sv_in (4 : Int32) 3086) (sv_g (sv_in (4 : Int32) 3086) (sv_g (sv_in (4 : Int32) 3086) (some ((((sv_up σ 31 0 ((4 : Int32).toNatClampNeg) (((σ 31 0 ((4 : Int32).toNatClampNeg)) * (1103515245 : Int32)) + (12345 : Int32))) 31 0 ((4 : Int32).toNatClampNeg)).toUInt32 >>> ((8 : Int32).toUInt32 &&& Int32.toUInt32 31)).toInt32, sv_up σ 31 0 ((4 : Int32).toNatClampNeg) (((σ 31 0 ((4 : Int32).toNatClampNeg)) * (1103515245 : Int32)) + (12345 : Int32))))))
noncomputable def n_Mo_drawn : List sv_V → sv_S → Option (Int32 × sv_S)
  | [.inr (.inr (some (30, 0)))], σ => f_Mo_drawn σ
  | _, _ => none
def cd_Mo_drawn : sv_C := [(0, (.aload_n 0, (sv_N, (1, (0, []))))), (1, (.getfield 7, (sv_N, (4, (0, []))))), (4, (.iconst 4, (.inl (4 : Int32), (5, (0, []))))), (5, (.aload_n 0, (sv_N, (6, (0, []))))), (6, (.getfield 7, (sv_N, (9, (0, []))))), (9, (.iconst 4, (.inl (4 : Int32), (10, (0, []))))), (10, (.iaload, (sv_N, (11, (0, []))))), (11, (.ldc 75, (sv_N, (13, (0, []))))), (13, (.imul, (sv_N, (14, (0, []))))), (14, (.sipush 12345, (.inl (12345 : Int32), (17, (0, []))))), (17, (.iadd, (sv_N, (18, (0, []))))), (18, (.iastore, (sv_N, (19, (0, []))))), (19, (.aload_n 0, (sv_N, (20, (0, []))))), (20, (.getfield 7, (sv_N, (23, (0, []))))), (23, (.iconst 4, (.inl (4 : Int32), (24, (0, []))))), (24, (.iaload, (sv_N, (25, (0, []))))), (25, (.bipush 8, (.inl (8 : Int32), (27, (0, []))))), (27, (.iushr, (sv_N, (28, (0, []))))), (28, (.ireturn, (sv_N, (29, (0, [])))))]
noncomputable def ev_Mo_drawn : sv_E := (fun i => sv_lk i fl_12, (fun i => sv_lk i kc_12, (fun _ => 0, (true, (fun pc => sv_lk pc [], none)))))
noncomputable def kk_Mo_drawn : sv_K (Int32 × sv_S) := fun pc => sv_lk pc []
set_option maxRecDepth 20000 in
theorem e_Mo_drawn (σ : sv_S) : sv_ex ev_Mo_drawn sv_rI kk_Mo_drawn cd_Mo_drawn 21 0 [some (.inr (.inr (some (30, 0))))] [] σ = f_Mo_drawn σ := by
  unfold f_Mo_drawn
  delta ev_Mo_drawn kk_Mo_drawn
  rfl
theorem d_Mo_drawn : cd_Mo_drawn.all (sv_dk cX12_drawn) = true := by decide +kernel
set_option maxRecDepth 20000 in
theorem b_Mo_drawn (Γ : sv_Ga) (res : Int32 × sv_S) (X : sv_Ok Γ ev_Mo_drawn cX12_drawn sv_rI res) (as : List sv_V) (σ : sv_S) (h : n_Mo_drawn as σ = some res) : sv_T Γ 0 (sv_e0 1 as) [] σ := by
  unfold n_Mo_drawn at h
  split at h
  · refine sv_run X d_Mo_drawn (K := kk_Mo_drawn) (sv_lk_all (P := fun pc (k : sv_Lo → List sv_V → sv_S → Option (Int32 × sv_S)) => ∀ lo st σ, k lo st σ = some res → sv_T Γ pc lo st σ) ?_) _ _ _ _ _ ((e_Mo_drawn _).trans h)
    clear h
    exact fun _ h => absurd h List.not_mem_nil
  · cases h
theorem a_Mo_drawn (as : List sv_V) (σ : sv_S) (x : Int32 × sv_S) (h : n_Mo_drawn as σ = some x) : sv_args 1 ev_Mo_drawn.2.2.2.1 as := by
  unfold n_Mo_drawn at h
  split at h
  · exact ⟨Nat.le_of_ble_eq_true rfl, fun _ v hv => by
      simp only [List.mem_cons, List.not_mem_nil, or_false] at hv
      rcases hv with rfl <;> trivial⟩
  · cases h
theorem g_Mo_drawn (as : List sv_V) (σ : sv_S) (x : Option sv_V × sv_S) (h : sv_gI n_Mo_drawn as σ = some x) : ∃ r i as', as = sv_R r i :: as' ∧ sv_kd r i = .inl 12 := by
  obtain ⟨_, _, h, -⟩ := sv_b_some h
  unfold n_Mo_drawn at h
  split at h
  · exact ⟨_, _, _, rfl, rfl⟩
  · cases h

set_option maxRecDepth 20000 in
theorem m_Mo_drawn (l : Launch) : sv_M l yX12_drawn cX12_drawn 1 (some .int) (sv_gI n_Mo_drawn) 0 := by
  refine sv_mI (E := ev_Mo_drawn) (by decide +kernel) (ln_gen fk_12 kk_12 (sv_ns _ (fun _ => rfl) _)) rfl ?_ a_Mo_drawn b_Mo_drawn
  intro p e R s m args below meth c cells slots Q base ad dC dI cA n0 S hkn hR hf pc n f hcs
  refine sv_lk_all (P := fun pc (x : Nat × sv_F) => sv_cok p l e R s m args below meth c cells slots Q base ad dC dI cA true 1 n0 pc x.1 x.2) ?_ pc (n, f) hcs
  exact fun _ h => absurd h List.not_mem_nil
noncomputable def f_Mo_comes_20 : Nat → Int32 → Int32 → Int32 → Int32 → sv_S → Option (sv_S)
  | 0, _, _, _, _, _ => none
  | n + 1, x1, x2, x3, x4, σ =>
    sv_if ((8 : Int32) ≤ x4)
      (sv_b0 (f_Mo_sets x3 (0 : Int32) x1 σ) (fun σ1 =>
        sv_b0 (f_Mo_sets x3 (1 : Int32) x2 σ1) (fun σ2 =>
          sv_b0 (f_Mo_sets x3 (7 : Int32) (1 : Int32) σ2) (fun σ3 =>
            some σ3))))
      (sv_b0 (f_Mo_sets x3 x4 (0 : Int32) σ) (fun σ4 =>
        f_Mo_comes_20 n x1 x2 x3 (x4 + (1 : Int32)) σ4))
noncomputable def f_Mo_comes (a1 : Int32) (a2 : Int32) (σ : sv_S) : Option (sv_S) :=
  sv_g (sv_in (0 : Int32) 3086) (sv_g (sv_in (0 : Int32) 3086) (sv_g (sv_in (0 : Int32) 3086) (f_Mo_comes_20 sv_fu a1 a2 (σ 31 0 ((0 : Int32).toNatClampNeg)) (0 : Int32) (sv_up σ 31 0 ((0 : Int32).toNatClampNeg) ((σ 31 0 ((0 : Int32).toNatClampNeg)) + (1 : Int32))))))
noncomputable def n_Mo_comes : List sv_V → sv_S → Option (sv_S)
  | [.inr (.inr (some (30, 0))), .inl a1, .inl a2], σ => f_Mo_comes a1 a2 σ
  | _, _ => none
def cd_Mo_comes : sv_C := [(0, (.aload_n 0, (sv_N, (1, (0, []))))), (1, (.getfield 7, (sv_N, (4, (0, []))))), (4, (.iconst 0, (.inl (0 : Int32), (5, (0, []))))), (5, (.iaload, (sv_N, (6, (0, []))))), (6, (.istore_n 3, (sv_N, (7, (0, []))))), (7, (.aload_n 0, (sv_N, (8, (0, []))))), (8, (.getfield 7, (sv_N, (11, (0, []))))), (11, (.iconst 0, (.inl (0 : Int32), (12, (0, []))))), (12, (.dup2, (sv_N, (13, (0, []))))), (13, (.iaload, (sv_N, (14, (0, []))))), (14, (.iconst 1, (.inl (1 : Int32), (15, (0, []))))), (15, (.iadd, (sv_N, (16, (0, []))))), (16, (.iastore, (sv_N, (17, (0, []))))), (17, (.iconst 0, (.inl (0 : Int32), (18, (0, []))))), (18, (.istore 4, (sv_N, (20, (0, []))))), (20, (.iload 4, (sv_N, (22, (0, []))))), (22, (.bipush 8, (.inl (8 : Int32), (24, (0, []))))), (24, (.if_icmp .ge 17, (sv_N, (27, (41, []))))), (27, (.aload_n 0, (sv_N, (28, (0, []))))), (28, (.iload_n 3, (sv_N, (29, (0, []))))), (29, (.iload 4, (sv_N, (31, (0, []))))), (31, (.iconst 0, (.inl (0 : Int32), (32, (0, []))))), (32, (.invokevirtual 76, (sv_N, (35, (0, []))))), (35, (.iinc 4 1, (.inl (1 : Int32), (38, (0, []))))), (38, (.goto (-18), (sv_N, (41, (20, []))))), (41, (.aload_n 0, (sv_N, (42, (0, []))))), (42, (.iload_n 3, (sv_N, (43, (0, []))))), (43, (.iconst 0, (.inl (0 : Int32), (44, (0, []))))), (44, (.iload_n 1, (sv_N, (45, (0, []))))), (45, (.invokevirtual 76, (sv_N, (48, (0, []))))), (48, (.aload_n 0, (sv_N, (49, (0, []))))), (49, (.iload_n 3, (sv_N, (50, (0, []))))), (50, (.iconst 1, (.inl (1 : Int32), (51, (0, []))))), (51, (.iload_n 2, (sv_N, (52, (0, []))))), (52, (.invokevirtual 76, (sv_N, (55, (0, []))))), (55, (.aload_n 0, (sv_N, (56, (0, []))))), (56, (.iload_n 3, (sv_N, (57, (0, []))))), (57, (.bipush 7, (.inl (7 : Int32), (59, (0, []))))), (59, (.iconst 1, (.inl (1 : Int32), (60, (0, []))))), (60, (.invokevirtual 76, (sv_N, (63, (0, []))))), (63, (.return_, (sv_N, (64, (0, [])))))]
noncomputable def ev_Mo_comes : sv_E := (fun i => sv_lk i fl_12, (fun i => sv_lk i kc_12, (fun _ => 0, (true, (fun pc => sv_lk pc [(32, (4, .inr (.inl n_Mo_sets))), (45, (4, .inr (.inl n_Mo_sets))), (52, (4, .inr (.inl n_Mo_sets))), (60, (4, .inr (.inl n_Mo_sets)))], none)))))
noncomputable def kk_Mo_comes_20 (n : Nat) : sv_K (sv_S) := fun pc => sv_lk pc [(20, fun lo st σ => match lo, st with
    | [some (.inr (.inr (some (30, 0)))), some (.inl x1), some (.inl x2), some (.inl x3), some (.inl x4)], [] => f_Mo_comes_20 n x1 x2 x3 x4 σ
    | _, _ => none)]
set_option maxRecDepth 20000 in
theorem e_Mo_comes_20 (n : Nat) (x1 : Int32) (x2 : Int32) (x3 : Int32) (x4 : Int32) (σ : sv_S) : sv_ex ev_Mo_comes sv_rV (kk_Mo_comes_20 n) cd_Mo_comes 43 20 [some (.inr (.inr (some (30, 0)))), some (.inl x1), some (.inl x2), some (.inl x3), some (.inl x4)] [] σ = f_Mo_comes_20 (n + 1) x1 x2 x3 x4 σ := by
  rw [f_Mo_comes_20.eq_2]
  delta ev_Mo_comes kk_Mo_comes_20 n_Mo_sets
  generalize f_Mo_sets = c0
  generalize f_Mo_comes_20 = c1
  rfl
noncomputable def kk_Mo_comes : sv_K (sv_S) := fun pc => sv_lk pc [(20, fun lo st σ => match lo, st with
    | [some (.inr (.inr (some (30, 0)))), some (.inl x1), some (.inl x2), some (.inl x3), some (.inl x4)], [] => f_Mo_comes_20 sv_fu x1 x2 x3 x4 σ
    | _, _ => none)]
set_option maxRecDepth 20000 in
theorem e_Mo_comes (a1 : Int32) (a2 : Int32) (σ : sv_S) : sv_ex ev_Mo_comes sv_rV kk_Mo_comes cd_Mo_comes 43 0 [some (.inr (.inr (some (30, 0)))), some (.inl a1), some (.inl a2), none, none] [] σ = f_Mo_comes a1 a2 σ := by
  unfold f_Mo_comes
  delta ev_Mo_comes kk_Mo_comes n_Mo_sets
  generalize f_Mo_sets = c0
  generalize f_Mo_comes_20 = c1
  rfl
theorem d_Mo_comes : cd_Mo_comes.all (sv_dk cX12_comes) = true := by decide +kernel
set_option maxRecDepth 20000 in
theorem w_Mo_comes_20 {Γ : sv_Ga} {res : sv_S} (X : sv_Ok Γ ev_Mo_comes cX12_comes sv_rV res) : ∀ (n : Nat) (x1 : Int32) (x2 : Int32) (x3 : Int32) (x4 : Int32) (σ : sv_S), f_Mo_comes_20 n x1 x2 x3 x4 σ = some res → sv_T Γ 20 [some (.inr (.inr (some (30, 0)))), some (.inl x1), some (.inl x2), some (.inl x3), some (.inl x4)] [] σ := by
  intro n
  induction n with
  | zero =>
    intro x1 x2 x3 x4 σ h
    rw [f_Mo_comes_20.eq_1] at h
    cases h
  | succ n ih =>
    intro x1 x2 x3 x4 σ h
    refine sv_run X d_Mo_comes (K := kk_Mo_comes_20 n) (sv_lk_all (P := fun pc (k : sv_Lo → List sv_V → sv_S → Option (sv_S)) => ∀ lo st σ, k lo st σ = some res → sv_T Γ pc lo st σ) ?_) _ _ _ _ _ ((e_Mo_comes_20 n x1 x2 x3 x4 σ).trans h)
    clear h
    refine List.forall_mem_cons.mpr ⟨fun lo st σ h => ?_, fun _ h => absurd h List.not_mem_nil⟩
    · dsimp only at h
      split at h
      · exact ih _ _ _ _ _ h
      · cases h

set_option maxRecDepth 20000 in
theorem b_Mo_comes (Γ : sv_Ga) (res : sv_S) (X : sv_Ok Γ ev_Mo_comes cX12_comes sv_rV res) (as : List sv_V) (σ : sv_S) (h : n_Mo_comes as σ = some res) : sv_T Γ 0 (sv_e0 5 as) [] σ := by
  unfold n_Mo_comes at h
  split at h
  · refine sv_run X d_Mo_comes (K := kk_Mo_comes) (sv_lk_all (P := fun pc (k : sv_Lo → List sv_V → sv_S → Option (sv_S)) => ∀ lo st σ, k lo st σ = some res → sv_T Γ pc lo st σ) ?_) _ _ _ _ _ ((e_Mo_comes _ _ _).trans h)
    clear h
    refine List.forall_mem_cons.mpr ⟨fun lo st σ h => ?_, fun _ h => absurd h List.not_mem_nil⟩
    · dsimp only at h
      split at h
      · exact w_Mo_comes_20 X _ _ _ _ _ _ h
      · cases h
  · cases h
theorem a_Mo_comes (as : List sv_V) (σ : sv_S) (x : sv_S) (h : n_Mo_comes as σ = some x) : sv_args 5 ev_Mo_comes.2.2.2.1 as := by
  unfold n_Mo_comes at h
  split at h
  · exact ⟨Nat.le_of_ble_eq_true rfl, fun _ v hv => by
      simp only [List.mem_cons, List.not_mem_nil, or_false] at hv
      rcases hv with rfl | rfl | rfl <;> trivial⟩
  · cases h
theorem g_Mo_comes (as : List sv_V) (σ : sv_S) (x : Option sv_V × sv_S) (h : sv_gV n_Mo_comes as σ = some x) : ∃ r i as', as = sv_R r i :: as' ∧ sv_kd r i = .inl 12 := by
  obtain ⟨_, h, -⟩ := sv_b0_some h
  unfold n_Mo_comes at h
  split at h
  · exact ⟨_, _, _, rfl, rfl⟩
  · cases h
theorem tw_8 : Cond.selects RX12 yX12_sets yX12_sets ∈ gw_tbl := gw_at 8 (by decide +kernel) rfl
theorem tw_1108 : Cond.methodLink RX12 76 yX12_sets ∈ gw_tbl := gw_at 1108 (by decide +kernel) rfl
theorem tw_1110 : Cond.instanceMethod yX12_sets ∈ gw_tbl := gw_at 1110 (by decide +kernel) rfl
theorem tw_1111 : Cond.code yX12_sets cX12_sets 4 none ∈ gw_tbl := gw_at 1111 (by decide +kernel) rfl
set_option maxRecDepth 20000 in
theorem m_Mo_comes (l : Launch) : sv_M l yX12_comes cX12_comes 5 none (sv_gV n_Mo_comes) 1 := by
  refine sv_mV (E := ev_Mo_comes) (by decide +kernel) (ln_gen fk_12 kk_12 (sv_ns _ (fun _ => rfl) _)) rfl ?_ a_Mo_comes b_Mo_comes
  intro p e R s m args below meth c cells slots Q base ad dC dI cA n0 S hkn hR hf pc n f hcs
  refine sv_lk_all (P := fun pc (x : Nat × sv_F) => sv_cok p l e R s m args below meth c cells slots Q base ad dC dI cA true 5 n0 pc x.1 x.2) ?_ pc (n, f) hcs
  exact List.forall_mem_cons.mpr ⟨(sv_cV S hkn (m_Mo_sets l) ⟨Nat.le_trans (by decide) hR.1, Nat.le_trans (by decide) hR.2⟩ (by decide) hf rfl (g_Mo_sets) (sv_w5 tw_1108 tw_1110 tw_8 tw_65 tw_1111) (by decide +kernel) (sv_dc3 d_Mo_comes (pc := 32) rfl rfl)).V,
      List.forall_mem_cons.mpr ⟨(sv_cV S hkn (m_Mo_sets l) ⟨Nat.le_trans (by decide) hR.1, Nat.le_trans (by decide) hR.2⟩ (by decide) hf rfl (g_Mo_sets) (sv_w5 tw_1108 tw_1110 tw_8 tw_65 tw_1111) (by decide +kernel) (sv_dc3 d_Mo_comes (pc := 45) rfl rfl)).V,
      List.forall_mem_cons.mpr ⟨(sv_cV S hkn (m_Mo_sets l) ⟨Nat.le_trans (by decide) hR.1, Nat.le_trans (by decide) hR.2⟩ (by decide) hf rfl (g_Mo_sets) (sv_w5 tw_1108 tw_1110 tw_8 tw_65 tw_1111) (by decide +kernel) (sv_dc3 d_Mo_comes (pc := 52) rfl rfl)).V,
      List.forall_mem_cons.mpr ⟨(sv_cV S hkn (m_Mo_sets l) ⟨Nat.le_trans (by decide) hR.1, Nat.le_trans (by decide) hR.2⟩ (by decide) hf rfl (g_Mo_sets) (sv_w5 tw_1108 tw_1110 tw_8 tw_65 tw_1111) (by decide +kernel) (sv_dc3 d_Mo_comes (pc := 60) rfl rfl)).V,
      fun _ h => absurd h List.not_mem_nil⟩⟩⟩⟩
noncomputable def f_Mo_drummer (a1 : Int32) (a2 : Int32) (σ : sv_S) : Option (Int32 × sv_S) :=
  sv_b (f_Mo_isIn (a1.toInt64) (0 : Int64) (5 : Int64) σ) (fun v1 σ2 =>
    sv_if (v1 = 0)
      (some ((-1000000001 : Int32), σ2))
      (sv_b (f_Mo_isIn (a2.toInt64) (1 : Int64) (9 : Int64) σ2) (fun v3 σ4 =>
        sv_if (v3 = 0)
          (some ((-1000000001 : Int32), σ4))
          (sv_g (sv_in (0 : Int32) 3086) (sv_if ((σ4 31 0 ((0 : Int32).toNatClampNeg)) = (10 : Int32))
            (some ((-1000000003 : Int32), σ4))
            (sv_b0 (f_Mo_comes a1 a2 σ4) (fun σ5 =>
              sv_g (sv_in (0 : Int32) 3086) (some ((σ5 31 0 ((0 : Int32).toNatClampNeg)) - (1 : Int32), σ5)))))))))
noncomputable def n_Mo_drummer : List sv_V → sv_S → Option (Int32 × sv_S)
  | [.inr (.inr (some (30, 0))), .inl a1, .inl a2], σ => f_Mo_drummer a1 a2 σ
  | _, _ => none
def cd_Mo_drummer : sv_C := [(0, (.iload_n 1, (sv_N, (1, (0, []))))), (1, (.i2l, (sv_N, (2, (0, []))))), (2, (.lconst 0, (.inr (.inl (0 : Int64)), (3, (0, []))))), (3, (.ldc2_w 80, (sv_N, (6, (0, []))))), (6, (.invokestatic 71, (sv_N, (9, (0, []))))), (9, (.ifCond .eq 15, (sv_N, (12, (24, []))))), (12, (.iload_n 2, (sv_N, (13, (0, []))))), (13, (.i2l, (sv_N, (14, (0, []))))), (14, (.lconst 1, (.inr (.inl (1 : Int64)), (15, (0, []))))), (15, (.ldc2_w 82, (sv_N, (18, (0, []))))), (18, (.invokestatic 71, (sv_N, (21, (0, []))))), (21, (.ifCond .ne 6, (sv_N, (24, (27, []))))), (24, (.ldc 84, (sv_N, (26, (0, []))))), (26, (.ireturn, (sv_N, (27, (0, []))))), (27, (.aload_n 0, (sv_N, (28, (0, []))))), (28, (.getfield 7, (sv_N, (31, (0, []))))), (31, (.iconst 0, (.inl (0 : Int32), (32, (0, []))))), (32, (.iaload, (sv_N, (33, (0, []))))), (33, (.bipush 10, (.inl (10 : Int32), (35, (0, []))))), (35, (.if_icmp .ne 6, (sv_N, (38, (41, []))))), (38, (.ldc 85, (sv_N, (40, (0, []))))), (40, (.ireturn, (sv_N, (41, (0, []))))), (41, (.aload_n 0, (sv_N, (42, (0, []))))), (42, (.iload_n 1, (sv_N, (43, (0, []))))), (43, (.iload_n 2, (sv_N, (44, (0, []))))), (44, (.invokevirtual 86, (sv_N, (47, (0, []))))), (47, (.aload_n 0, (sv_N, (48, (0, []))))), (48, (.getfield 7, (sv_N, (51, (0, []))))), (51, (.iconst 0, (.inl (0 : Int32), (52, (0, []))))), (52, (.iaload, (sv_N, (53, (0, []))))), (53, (.iconst 1, (.inl (1 : Int32), (54, (0, []))))), (54, (.isub, (sv_N, (55, (0, []))))), (55, (.ireturn, (sv_N, (56, (0, [])))))]
noncomputable def ev_Mo_drummer : sv_E := (fun i => sv_lk i fl_12, (fun i => sv_lk i kc_12, (fun _ => 0, (true, (fun pc => sv_lk pc [(6, (3, .inl n_Mo_isIn)), (18, (3, .inl n_Mo_isIn)), (44, (3, .inr (.inl n_Mo_comes)))], none)))))
noncomputable def kk_Mo_drummer : sv_K (Int32 × sv_S) := fun pc => sv_lk pc []
set_option maxRecDepth 20000 in
theorem e_Mo_drummer (a1 : Int32) (a2 : Int32) (σ : sv_S) : sv_ex ev_Mo_drummer sv_rI kk_Mo_drummer cd_Mo_drummer 35 0 [some (.inr (.inr (some (30, 0)))), some (.inl a1), some (.inl a2)] [] σ = f_Mo_drummer a1 a2 σ := by
  unfold f_Mo_drummer
  delta ev_Mo_drummer kk_Mo_drummer n_Mo_isIn n_Mo_comes
  generalize f_Mo_isIn = c0
  generalize f_Mo_comes = c1
  rfl
theorem d_Mo_drummer : cd_Mo_drummer.all (sv_dk cX12_drummer) = true := by decide +kernel
set_option maxRecDepth 20000 in
theorem b_Mo_drummer (Γ : sv_Ga) (res : Int32 × sv_S) (X : sv_Ok Γ ev_Mo_drummer cX12_drummer sv_rI res) (as : List sv_V) (σ : sv_S) (h : n_Mo_drummer as σ = some res) : sv_T Γ 0 (sv_e0 3 as) [] σ := by
  unfold n_Mo_drummer at h
  split at h
  · refine sv_run X d_Mo_drummer (K := kk_Mo_drummer) (sv_lk_all (P := fun pc (k : sv_Lo → List sv_V → sv_S → Option (Int32 × sv_S)) => ∀ lo st σ, k lo st σ = some res → sv_T Γ pc lo st σ) ?_) _ _ _ _ _ ((e_Mo_drummer _ _ _).trans h)
    clear h
    exact fun _ h => absurd h List.not_mem_nil
  · cases h
theorem a_Mo_drummer (as : List sv_V) (σ : sv_S) (x : Int32 × sv_S) (h : n_Mo_drummer as σ = some x) : sv_args 3 ev_Mo_drummer.2.2.2.1 as := by
  unfold n_Mo_drummer at h
  split at h
  · exact ⟨Nat.le_of_ble_eq_true rfl, fun _ v hv => by
      simp only [List.mem_cons, List.not_mem_nil, or_false] at hv
      rcases hv with rfl | rfl | rfl <;> trivial⟩
  · cases h
theorem g_Mo_drummer (as : List sv_V) (σ : sv_S) (x : Option sv_V × sv_S) (h : sv_gI n_Mo_drummer as σ = some x) : ∃ r i as', as = sv_R r i :: as' ∧ sv_kd r i = .inl 12 := by
  obtain ⟨_, _, h, -⟩ := sv_b_some h
  unfold n_Mo_drummer at h
  split at h
  · exact ⟨_, _, _, rfl, rfl⟩
  · cases h
theorem tw_7 : Cond.selects RX12 yX12_comes yX12_comes ∈ gw_tbl := gw_at 7 (by decide +kernel) rfl
theorem tw_1104 : Cond.methodLink RX12 86 yX12_comes ∈ gw_tbl := gw_at 1104 (by decide +kernel) rfl
theorem tw_1106 : Cond.instanceMethod yX12_comes ∈ gw_tbl := gw_at 1106 (by decide +kernel) rfl
theorem tw_1107 : Cond.code yX12_comes cX12_comes 5 none ∈ gw_tbl := gw_at 1107 (by decide +kernel) rfl
set_option maxRecDepth 20000 in
theorem m_Mo_drummer (l : Launch) : sv_M l yX12_drummer cX12_drummer 3 (some .int) (sv_gI n_Mo_drummer) 2 := by
  refine sv_mI (E := ev_Mo_drummer) (by decide +kernel) (ln_gen fk_12 kk_12 (sv_ns _ (fun _ => rfl) _)) rfl ?_ a_Mo_drummer b_Mo_drummer
  intro p e R s m args below meth c cells slots Q base ad dC dI cA n0 S hkn hR hf pc n f hcs
  refine sv_lk_all (P := fun pc (x : Nat × sv_F) => sv_cok p l e R s m args below meth c cells slots Q base ad dC dI cA true 3 n0 pc x.1 x.2) ?_ pc (n, f) hcs
  exact List.forall_mem_cons.mpr ⟨(sv_cS S hkn (m_Mo_isIn l) ⟨Nat.le_trans (by decide) hR.1, Nat.le_trans (by decide) hR.2⟩ (by decide) hf (sv_w4 tw_1098 tw_1099 tw_65 tw_1100) (by decide +kernel) (sv_dc3 d_Mo_drummer (pc := 6) rfl rfl)).I,
      List.forall_mem_cons.mpr ⟨(sv_cS S hkn (m_Mo_isIn l) ⟨Nat.le_trans (by decide) hR.1, Nat.le_trans (by decide) hR.2⟩ (by decide) hf (sv_w4 tw_1098 tw_1099 tw_65 tw_1100) (by decide +kernel) (sv_dc3 d_Mo_drummer (pc := 18) rfl rfl)).I,
      List.forall_mem_cons.mpr ⟨(sv_cV S hkn (m_Mo_comes l) ⟨Nat.le_trans (by decide) hR.1, Nat.le_trans (by decide) hR.2⟩ (by decide) hf rfl (g_Mo_comes) (sv_w5 tw_1104 tw_1106 tw_7 tw_65 tw_1107) (by decide +kernel) (sv_dc3 d_Mo_drummer (pc := 44) rfl rfl)).V,
      fun _ h => absurd h List.not_mem_nil⟩⟩⟩
noncomputable def f_Mo_ago (a1 : Int32) (a2 : Int32) (σ : sv_S) : Option (Int32 × sv_S) :=
  sv_b (f_Mo_of a1 ((2 : Int32) + a2) σ) (fun v1 σ2 =>
    some (v1, σ2))
noncomputable def n_Mo_ago : List sv_V → sv_S → Option (Int32 × sv_S)
  | [.inr (.inr (some (30, 0))), .inl a1, .inl a2], σ => f_Mo_ago a1 a2 σ
  | _, _ => none
def cd_Mo_ago : sv_C := [(0, (.aload_n 0, (sv_N, (1, (0, []))))), (1, (.iload_n 1, (sv_N, (2, (0, []))))), (2, (.iconst 2, (.inl (2 : Int32), (3, (0, []))))), (3, (.iload_n 2, (sv_N, (4, (0, []))))), (4, (.iadd, (sv_N, (5, (0, []))))), (5, (.invokevirtual 90, (sv_N, (8, (0, []))))), (8, (.ireturn, (sv_N, (9, (0, [])))))]
noncomputable def ev_Mo_ago : sv_E := (fun i => sv_lk i fl_12, (fun i => sv_lk i kc_12, (fun _ => 0, (true, (fun pc => sv_lk pc [(5, (3, .inl n_Mo_of))], none)))))
noncomputable def kk_Mo_ago : sv_K (Int32 × sv_S) := fun pc => sv_lk pc []
set_option maxRecDepth 20000 in
theorem e_Mo_ago (a1 : Int32) (a2 : Int32) (σ : sv_S) : sv_ex ev_Mo_ago sv_rI kk_Mo_ago cd_Mo_ago 9 0 [some (.inr (.inr (some (30, 0)))), some (.inl a1), some (.inl a2)] [] σ = f_Mo_ago a1 a2 σ := by
  unfold f_Mo_ago
  delta ev_Mo_ago kk_Mo_ago n_Mo_of
  generalize f_Mo_of = c0
  rfl
theorem d_Mo_ago : cd_Mo_ago.all (sv_dk cX12_ago) = true := by decide +kernel
set_option maxRecDepth 20000 in
theorem b_Mo_ago (Γ : sv_Ga) (res : Int32 × sv_S) (X : sv_Ok Γ ev_Mo_ago cX12_ago sv_rI res) (as : List sv_V) (σ : sv_S) (h : n_Mo_ago as σ = some res) : sv_T Γ 0 (sv_e0 3 as) [] σ := by
  unfold n_Mo_ago at h
  split at h
  · refine sv_run X d_Mo_ago (K := kk_Mo_ago) (sv_lk_all (P := fun pc (k : sv_Lo → List sv_V → sv_S → Option (Int32 × sv_S)) => ∀ lo st σ, k lo st σ = some res → sv_T Γ pc lo st σ) ?_) _ _ _ _ _ ((e_Mo_ago _ _ _).trans h)
    clear h
    exact fun _ h => absurd h List.not_mem_nil
  · cases h
theorem a_Mo_ago (as : List sv_V) (σ : sv_S) (x : Int32 × sv_S) (h : n_Mo_ago as σ = some x) : sv_args 3 ev_Mo_ago.2.2.2.1 as := by
  unfold n_Mo_ago at h
  split at h
  · exact ⟨Nat.le_of_ble_eq_true rfl, fun _ v hv => by
      simp only [List.mem_cons, List.not_mem_nil, or_false] at hv
      rcases hv with rfl | rfl | rfl <;> trivial⟩
  · cases h
theorem g_Mo_ago (as : List sv_V) (σ : sv_S) (x : Option sv_V × sv_S) (h : sv_gI n_Mo_ago as σ = some x) : ∃ r i as', as = sv_R r i :: as' ∧ sv_kd r i = .inl 12 := by
  obtain ⟨_, _, h, -⟩ := sv_b_some h
  unfold n_Mo_ago at h
  split at h
  · exact ⟨_, _, _, rfl, rfl⟩
  · cases h
theorem tw_10 : Cond.selects RX12 yX12_of yX12_of ∈ gw_tbl := gw_at 10 (by decide +kernel) rfl
theorem tw_1120 : Cond.methodLink RX12 90 yX12_of ∈ gw_tbl := gw_at 1120 (by decide +kernel) rfl
theorem tw_1122 : Cond.instanceMethod yX12_of ∈ gw_tbl := gw_at 1122 (by decide +kernel) rfl
theorem tw_1123 : Cond.code yX12_of cX12_of 3 (some .int) ∈ gw_tbl := gw_at 1123 (by decide +kernel) rfl
set_option maxRecDepth 20000 in
theorem m_Mo_ago (l : Launch) : sv_M l yX12_ago cX12_ago 3 (some .int) (sv_gI n_Mo_ago) 1 := by
  refine sv_mI (E := ev_Mo_ago) (by decide +kernel) (ln_gen fk_12 kk_12 (sv_ns _ (fun _ => rfl) _)) rfl ?_ a_Mo_ago b_Mo_ago
  intro p e R s m args below meth c cells slots Q base ad dC dI cA n0 S hkn hR hf pc n f hcs
  refine sv_lk_all (P := fun pc (x : Nat × sv_F) => sv_cok p l e R s m args below meth c cells slots Q base ad dC dI cA true 3 n0 pc x.1 x.2) ?_ pc (n, f) hcs
  exact List.forall_mem_cons.mpr ⟨(sv_cV S hkn (m_Mo_of l) ⟨Nat.le_trans (by decide) hR.1, Nat.le_trans (by decide) hR.2⟩ (by decide) hf rfl (g_Mo_of) (sv_w5 tw_1120 tw_1122 tw_10 tw_65 tw_1123) (by decide +kernel) (sv_dc3 d_Mo_ago (pc := 5) rfl rfl)).I,
      fun _ h => absurd h List.not_mem_nil⟩
noncomputable def f_Mo_left (a1 : Int32) (σ : sv_S) : Option (Int32 × sv_S) :=
  sv_if (a1 = 0)
    (some ((0 : Int32), σ))
    (sv_b (f_Mo_of (a1 - (1 : Int32)) (7 : Int32) σ) (fun v1 σ2 =>
      sv_b (f_Mo_ago (a1 - (1 : Int32)) (v1 - (1 : Int32)) σ2) (fun v3 σ4 =>
        some (v3, σ4))))
noncomputable def n_Mo_left : List sv_V → sv_S → Option (Int32 × sv_S)
  | [.inr (.inr (some (30, 0))), .inl a1], σ => f_Mo_left a1 σ
  | _, _ => none
def cd_Mo_left : sv_C := [(0, (.iload_n 1, (sv_N, (1, (0, []))))), (1, (.ifCond .ne 7, (sv_N, (4, (8, []))))), (4, (.iconst 0, (.inl (0 : Int32), (5, (0, []))))), (5, (.goto 21, (sv_N, (8, (26, []))))), (8, (.aload_n 0, (sv_N, (9, (0, []))))), (9, (.iload_n 1, (sv_N, (10, (0, []))))), (10, (.iconst 1, (.inl (1 : Int32), (11, (0, []))))), (11, (.isub, (sv_N, (12, (0, []))))), (12, (.aload_n 0, (sv_N, (13, (0, []))))), (13, (.iload_n 1, (sv_N, (14, (0, []))))), (14, (.iconst 1, (.inl (1 : Int32), (15, (0, []))))), (15, (.isub, (sv_N, (16, (0, []))))), (16, (.bipush 7, (.inl (7 : Int32), (18, (0, []))))), (18, (.invokevirtual 90, (sv_N, (21, (0, []))))), (21, (.iconst 1, (.inl (1 : Int32), (22, (0, []))))), (22, (.isub, (sv_N, (23, (0, []))))), (23, (.invokevirtual 94, (sv_N, (26, (0, []))))), (26, (.ireturn, (sv_N, (27, (0, [])))))]
noncomputable def ev_Mo_left : sv_E := (fun i => sv_lk i fl_12, (fun i => sv_lk i kc_12, (fun _ => 0, (true, (fun pc => sv_lk pc [(18, (3, .inl n_Mo_of)), (23, (3, .inl n_Mo_ago))], none)))))
noncomputable def kk_Mo_left : sv_K (Int32 × sv_S) := fun pc => sv_lk pc []
set_option maxRecDepth 20000 in
theorem e_Mo_left (a1 : Int32) (σ : sv_S) : sv_ex ev_Mo_left sv_rI kk_Mo_left cd_Mo_left 20 0 [some (.inr (.inr (some (30, 0)))), some (.inl a1)] [] σ = f_Mo_left a1 σ := by
  unfold f_Mo_left
  delta ev_Mo_left kk_Mo_left n_Mo_of n_Mo_ago
  generalize f_Mo_of = c0
  generalize f_Mo_ago = c1
  rfl
theorem d_Mo_left : cd_Mo_left.all (sv_dk cX12_left) = true := by decide +kernel
set_option maxRecDepth 20000 in
theorem b_Mo_left (Γ : sv_Ga) (res : Int32 × sv_S) (X : sv_Ok Γ ev_Mo_left cX12_left sv_rI res) (as : List sv_V) (σ : sv_S) (h : n_Mo_left as σ = some res) : sv_T Γ 0 (sv_e0 2 as) [] σ := by
  unfold n_Mo_left at h
  split at h
  · refine sv_run X d_Mo_left (K := kk_Mo_left) (sv_lk_all (P := fun pc (k : sv_Lo → List sv_V → sv_S → Option (Int32 × sv_S)) => ∀ lo st σ, k lo st σ = some res → sv_T Γ pc lo st σ) ?_) _ _ _ _ _ ((e_Mo_left _ _).trans h)
    clear h
    exact fun _ h => absurd h List.not_mem_nil
  · cases h
theorem a_Mo_left (as : List sv_V) (σ : sv_S) (x : Int32 × sv_S) (h : n_Mo_left as σ = some x) : sv_args 2 ev_Mo_left.2.2.2.1 as := by
  unfold n_Mo_left at h
  split at h
  · exact ⟨Nat.le_of_ble_eq_true rfl, fun _ v hv => by
      simp only [List.mem_cons, List.not_mem_nil, or_false] at hv
      rcases hv with rfl | rfl <;> trivial⟩
  · cases h
theorem g_Mo_left (as : List sv_V) (σ : sv_S) (x : Option sv_V × sv_S) (h : sv_gI n_Mo_left as σ = some x) : ∃ r i as', as = sv_R r i :: as' ∧ sv_kd r i = .inl 12 := by
  obtain ⟨_, _, h, -⟩ := sv_b_some h
  unfold n_Mo_left at h
  split at h
  · exact ⟨_, _, _, rfl, rfl⟩
  · cases h
theorem tw_13 : Cond.selects RX12 yX12_ago yX12_ago ∈ gw_tbl := gw_at 13 (by decide +kernel) rfl
theorem tw_1133 : Cond.methodLink RX12 94 yX12_ago ∈ gw_tbl := gw_at 1133 (by decide +kernel) rfl
theorem tw_1135 : Cond.instanceMethod yX12_ago ∈ gw_tbl := gw_at 1135 (by decide +kernel) rfl
theorem tw_1136 : Cond.code yX12_ago cX12_ago 3 (some .int) ∈ gw_tbl := gw_at 1136 (by decide +kernel) rfl
set_option maxRecDepth 20000 in
theorem m_Mo_left (l : Launch) : sv_M l yX12_left cX12_left 2 (some .int) (sv_gI n_Mo_left) 2 := by
  refine sv_mI (E := ev_Mo_left) (by decide +kernel) (ln_gen fk_12 kk_12 (sv_ns _ (fun _ => rfl) _)) rfl ?_ a_Mo_left b_Mo_left
  intro p e R s m args below meth c cells slots Q base ad dC dI cA n0 S hkn hR hf pc n f hcs
  refine sv_lk_all (P := fun pc (x : Nat × sv_F) => sv_cok p l e R s m args below meth c cells slots Q base ad dC dI cA true 2 n0 pc x.1 x.2) ?_ pc (n, f) hcs
  exact List.forall_mem_cons.mpr ⟨(sv_cV S hkn (m_Mo_of l) ⟨Nat.le_trans (by decide) hR.1, Nat.le_trans (by decide) hR.2⟩ (by decide) hf rfl (g_Mo_of) (sv_w5 tw_1120 tw_1122 tw_10 tw_65 tw_1123) (by decide +kernel) (sv_dc3 d_Mo_left (pc := 18) rfl rfl)).I,
      List.forall_mem_cons.mpr ⟨(sv_cV S hkn (m_Mo_ago l) ⟨Nat.le_trans (by decide) hR.1, Nat.le_trans (by decide) hR.2⟩ (by decide) hf rfl (g_Mo_ago) (sv_w5 tw_1133 tw_1135 tw_13 tw_65 tw_1136) (by decide +kernel) (sv_dc3 d_Mo_left (pc := 23) rfl rfl)).I,
      fun _ h => absurd h List.not_mem_nil⟩⟩
noncomputable def f_Mo_right (a1 : Int32) (σ : sv_S) : Option (Int32 × sv_S) :=
  sv_g (sv_in (0 : Int32) 3086) (sv_if ((a1 + (1 : Int32)) = (σ 31 0 ((0 : Int32).toNatClampNeg)))
    (some ((0 : Int32), σ))
    (sv_b (f_Mo_of a1 (7 : Int32) σ) (fun v1 σ2 =>
      sv_b (f_Mo_ago (a1 + (1 : Int32)) (v1 - (1 : Int32)) σ2) (fun v3 σ4 =>
        some (v3, σ4)))))
noncomputable def n_Mo_right : List sv_V → sv_S → Option (Int32 × sv_S)
  | [.inr (.inr (some (30, 0))), .inl a1], σ => f_Mo_right a1 σ
  | _, _ => none
def cd_Mo_right : sv_C := [(0, (.iload_n 1, (sv_N, (1, (0, []))))), (1, (.iconst 1, (.inl (1 : Int32), (2, (0, []))))), (2, (.iadd, (sv_N, (3, (0, []))))), (3, (.aload_n 0, (sv_N, (4, (0, []))))), (4, (.getfield 7, (sv_N, (7, (0, []))))), (7, (.iconst 0, (.inl (0 : Int32), (8, (0, []))))), (8, (.iaload, (sv_N, (9, (0, []))))), (9, (.if_icmp .ne 7, (sv_N, (12, (16, []))))), (12, (.iconst 0, (.inl (0 : Int32), (13, (0, []))))), (13, (.goto 19, (sv_N, (16, (32, []))))), (16, (.aload_n 0, (sv_N, (17, (0, []))))), (17, (.iload_n 1, (sv_N, (18, (0, []))))), (18, (.iconst 1, (.inl (1 : Int32), (19, (0, []))))), (19, (.iadd, (sv_N, (20, (0, []))))), (20, (.aload_n 0, (sv_N, (21, (0, []))))), (21, (.iload_n 1, (sv_N, (22, (0, []))))), (22, (.bipush 7, (.inl (7 : Int32), (24, (0, []))))), (24, (.invokevirtual 90, (sv_N, (27, (0, []))))), (27, (.iconst 1, (.inl (1 : Int32), (28, (0, []))))), (28, (.isub, (sv_N, (29, (0, []))))), (29, (.invokevirtual 94, (sv_N, (32, (0, []))))), (32, (.ireturn, (sv_N, (33, (0, [])))))]
noncomputable def ev_Mo_right : sv_E := (fun i => sv_lk i fl_12, (fun i => sv_lk i kc_12, (fun _ => 0, (true, (fun pc => sv_lk pc [(24, (3, .inl n_Mo_of)), (29, (3, .inl n_Mo_ago))], none)))))
noncomputable def kk_Mo_right : sv_K (Int32 × sv_S) := fun pc => sv_lk pc []
set_option maxRecDepth 20000 in
theorem e_Mo_right (a1 : Int32) (σ : sv_S) : sv_ex ev_Mo_right sv_rI kk_Mo_right cd_Mo_right 24 0 [some (.inr (.inr (some (30, 0)))), some (.inl a1)] [] σ = f_Mo_right a1 σ := by
  unfold f_Mo_right
  delta ev_Mo_right kk_Mo_right n_Mo_of n_Mo_ago
  generalize f_Mo_of = c0
  generalize f_Mo_ago = c1
  rfl
theorem d_Mo_right : cd_Mo_right.all (sv_dk cX12_right) = true := by decide +kernel
set_option maxRecDepth 20000 in
theorem b_Mo_right (Γ : sv_Ga) (res : Int32 × sv_S) (X : sv_Ok Γ ev_Mo_right cX12_right sv_rI res) (as : List sv_V) (σ : sv_S) (h : n_Mo_right as σ = some res) : sv_T Γ 0 (sv_e0 2 as) [] σ := by
  unfold n_Mo_right at h
  split at h
  · refine sv_run X d_Mo_right (K := kk_Mo_right) (sv_lk_all (P := fun pc (k : sv_Lo → List sv_V → sv_S → Option (Int32 × sv_S)) => ∀ lo st σ, k lo st σ = some res → sv_T Γ pc lo st σ) ?_) _ _ _ _ _ ((e_Mo_right _ _).trans h)
    clear h
    exact fun _ h => absurd h List.not_mem_nil
  · cases h
theorem a_Mo_right (as : List sv_V) (σ : sv_S) (x : Int32 × sv_S) (h : n_Mo_right as σ = some x) : sv_args 2 ev_Mo_right.2.2.2.1 as := by
  unfold n_Mo_right at h
  split at h
  · exact ⟨Nat.le_of_ble_eq_true rfl, fun _ v hv => by
      simp only [List.mem_cons, List.not_mem_nil, or_false] at hv
      rcases hv with rfl | rfl <;> trivial⟩
  · cases h
theorem g_Mo_right (as : List sv_V) (σ : sv_S) (x : Option sv_V × sv_S) (h : sv_gI n_Mo_right as σ = some x) : ∃ r i as', as = sv_R r i :: as' ∧ sv_kd r i = .inl 12 := by
  obtain ⟨_, _, h, -⟩ := sv_b_some h
  unfold n_Mo_right at h
  split at h
  · exact ⟨_, _, _, rfl, rfl⟩
  · cases h

set_option maxRecDepth 20000 in
theorem m_Mo_right (l : Launch) : sv_M l yX12_right cX12_right 2 (some .int) (sv_gI n_Mo_right) 2 := by
  refine sv_mI (E := ev_Mo_right) (by decide +kernel) (ln_gen fk_12 kk_12 (sv_ns _ (fun _ => rfl) _)) rfl ?_ a_Mo_right b_Mo_right
  intro p e R s m args below meth c cells slots Q base ad dC dI cA n0 S hkn hR hf pc n f hcs
  refine sv_lk_all (P := fun pc (x : Nat × sv_F) => sv_cok p l e R s m args below meth c cells slots Q base ad dC dI cA true 2 n0 pc x.1 x.2) ?_ pc (n, f) hcs
  exact List.forall_mem_cons.mpr ⟨(sv_cV S hkn (m_Mo_of l) ⟨Nat.le_trans (by decide) hR.1, Nat.le_trans (by decide) hR.2⟩ (by decide) hf rfl (g_Mo_of) (sv_w5 tw_1120 tw_1122 tw_10 tw_65 tw_1123) (by decide +kernel) (sv_dc3 d_Mo_right (pc := 24) rfl rfl)).I,
      List.forall_mem_cons.mpr ⟨(sv_cV S hkn (m_Mo_ago l) ⟨Nat.le_trans (by decide) hR.1, Nat.le_trans (by decide) hR.2⟩ (by decide) hf rfl (g_Mo_ago) (sv_w5 tw_1133 tw_1135 tw_13 tw_65 tw_1136) (by decide +kernel) (sv_dc3 d_Mo_right (pc := 29) rfl rfl)).I,
      fun _ h => absurd h List.not_mem_nil⟩⟩
noncomputable def f_Mo_counts_4 : Nat → Int32 → Int32 → Int32 → sv_S → Option (Int32 × sv_S)
  | 0, _, _, _, _ => none
  | n + 1, x1, x2, x3, σ =>
    sv_g (sv_in (1 : Int32) 3086) (sv_if ((σ 31 0 ((1 : Int32).toNatClampNeg)) ≤ x3)
      (some (x2, σ))
      (sv_b (f_Mo_textAt x3 σ) (fun v1 σ2 =>
        sv_g (sv_in v1 3086) (sv_if ((σ2 31 0 (v1.toNatClampNeg)) = x1)
          (f_Mo_counts_4 n x1 x3 (x3 + (1 : Int32)) σ2)
          (f_Mo_counts_4 n x1 x2 (x3 + (1 : Int32)) σ2)))))
noncomputable def f_Mo_counts (a1 : Int32) (σ : sv_S) : Option (Int32 × sv_S) :=
  f_Mo_counts_4 sv_fu a1 (-1 : Int32) (0 : Int32) σ
noncomputable def n_Mo_counts : List sv_V → sv_S → Option (Int32 × sv_S)
  | [.inr (.inr (some (30, 0))), .inl a1], σ => f_Mo_counts a1 σ
  | _, _ => none
def cd_Mo_counts : sv_C := [(0, (.iconst (-1), (.inl (-1 : Int32), (1, (0, []))))), (1, (.istore_n 2, (sv_N, (2, (0, []))))), (2, (.iconst 0, (.inl (0 : Int32), (3, (0, []))))), (3, (.istore_n 3, (sv_N, (4, (0, []))))), (4, (.iload_n 3, (sv_N, (5, (0, []))))), (5, (.aload_n 0, (sv_N, (6, (0, []))))), (6, (.getfield 7, (sv_N, (9, (0, []))))), (9, (.iconst 1, (.inl (1 : Int32), (10, (0, []))))), (10, (.iaload, (sv_N, (11, (0, []))))), (11, (.if_icmp .ge 29, (sv_N, (14, (40, []))))), (14, (.aload_n 0, (sv_N, (15, (0, []))))), (15, (.getfield 7, (sv_N, (18, (0, []))))), (18, (.aload_n 0, (sv_N, (19, (0, []))))), (19, (.iload_n 3, (sv_N, (20, (0, []))))), (20, (.invokevirtual 282, (sv_N, (23, (0, []))))), (23, (.iaload, (sv_N, (24, (0, []))))), (24, (.iload_n 1, (sv_N, (25, (0, []))))), (25, (.if_icmp .ne 7, (sv_N, (28, (32, []))))), (28, (.iload_n 3, (sv_N, (29, (0, []))))), (29, (.goto 4, (sv_N, (32, (33, []))))), (32, (.iload_n 2, (sv_N, (33, (0, []))))), (33, (.istore_n 2, (sv_N, (34, (0, []))))), (34, (.iinc 3 1, (.inl (1 : Int32), (37, (0, []))))), (37, (.goto (-33), (sv_N, (40, (4, []))))), (40, (.iload_n 2, (sv_N, (41, (0, []))))), (41, (.ireturn, (sv_N, (42, (0, [])))))]
noncomputable def ev_Mo_counts : sv_E := (fun i => sv_lk i fl_12, (fun i => sv_lk i kc_12, (fun _ => 0, (true, (fun pc => sv_lk pc [(20, (2, .inl n_Mo_textAt))], none)))))
noncomputable def kk_Mo_counts_4 (n : Nat) : sv_K (Int32 × sv_S) := fun pc => sv_lk pc [(4, fun lo st σ => match lo, st with
    | [some (.inr (.inr (some (30, 0)))), some (.inl x1), some (.inl x2), some (.inl x3)], [] => f_Mo_counts_4 n x1 x2 x3 σ
    | _, _ => none)]
set_option maxRecDepth 20000 in
theorem e_Mo_counts_4 (n : Nat) (x1 : Int32) (x2 : Int32) (x3 : Int32) (σ : sv_S) : sv_ex ev_Mo_counts sv_rI (kk_Mo_counts_4 n) cd_Mo_counts 28 4 [some (.inr (.inr (some (30, 0)))), some (.inl x1), some (.inl x2), some (.inl x3)] [] σ = f_Mo_counts_4 (n + 1) x1 x2 x3 σ := by
  rw [f_Mo_counts_4.eq_2]
  delta ev_Mo_counts kk_Mo_counts_4 n_Mo_textAt
  generalize f_Mo_textAt = c0
  generalize f_Mo_counts_4 = c1
  rfl
noncomputable def kk_Mo_counts : sv_K (Int32 × sv_S) := fun pc => sv_lk pc [(4, fun lo st σ => match lo, st with
    | [some (.inr (.inr (some (30, 0)))), some (.inl x1), some (.inl x2), some (.inl x3)], [] => f_Mo_counts_4 sv_fu x1 x2 x3 σ
    | _, _ => none)]
set_option maxRecDepth 20000 in
theorem e_Mo_counts (a1 : Int32) (σ : sv_S) : sv_ex ev_Mo_counts sv_rI kk_Mo_counts cd_Mo_counts 28 0 [some (.inr (.inr (some (30, 0)))), some (.inl a1), none, none] [] σ = f_Mo_counts a1 σ := by
  unfold f_Mo_counts
  delta ev_Mo_counts kk_Mo_counts n_Mo_textAt
  generalize f_Mo_textAt = c0
  generalize f_Mo_counts_4 = c1
  rfl
theorem d_Mo_counts : cd_Mo_counts.all (sv_dk cX12_counts) = true := by decide +kernel
set_option maxRecDepth 20000 in
theorem w_Mo_counts_4 {Γ : sv_Ga} {res : Int32 × sv_S} (X : sv_Ok Γ ev_Mo_counts cX12_counts sv_rI res) : ∀ (n : Nat) (x1 : Int32) (x2 : Int32) (x3 : Int32) (σ : sv_S), f_Mo_counts_4 n x1 x2 x3 σ = some res → sv_T Γ 4 [some (.inr (.inr (some (30, 0)))), some (.inl x1), some (.inl x2), some (.inl x3)] [] σ := by
  intro n
  induction n with
  | zero =>
    intro x1 x2 x3 σ h
    rw [f_Mo_counts_4.eq_1] at h
    cases h
  | succ n ih =>
    intro x1 x2 x3 σ h
    refine sv_run X d_Mo_counts (K := kk_Mo_counts_4 n) (sv_lk_all (P := fun pc (k : sv_Lo → List sv_V → sv_S → Option (Int32 × sv_S)) => ∀ lo st σ, k lo st σ = some res → sv_T Γ pc lo st σ) ?_) _ _ _ _ _ ((e_Mo_counts_4 n x1 x2 x3 σ).trans h)
    clear h
    refine List.forall_mem_cons.mpr ⟨fun lo st σ h => ?_, fun _ h => absurd h List.not_mem_nil⟩
    · dsimp only at h
      split at h
      · exact ih _ _ _ _ h
      · cases h

set_option maxRecDepth 20000 in
theorem b_Mo_counts (Γ : sv_Ga) (res : Int32 × sv_S) (X : sv_Ok Γ ev_Mo_counts cX12_counts sv_rI res) (as : List sv_V) (σ : sv_S) (h : n_Mo_counts as σ = some res) : sv_T Γ 0 (sv_e0 4 as) [] σ := by
  unfold n_Mo_counts at h
  split at h
  · refine sv_run X d_Mo_counts (K := kk_Mo_counts) (sv_lk_all (P := fun pc (k : sv_Lo → List sv_V → sv_S → Option (Int32 × sv_S)) => ∀ lo st σ, k lo st σ = some res → sv_T Γ pc lo st σ) ?_) _ _ _ _ _ ((e_Mo_counts _ _).trans h)
    clear h
    refine List.forall_mem_cons.mpr ⟨fun lo st σ h => ?_, fun _ h => absurd h List.not_mem_nil⟩
    · dsimp only at h
      split at h
      · exact w_Mo_counts_4 X _ _ _ _ _ h
      · cases h
  · cases h
theorem a_Mo_counts (as : List sv_V) (σ : sv_S) (x : Int32 × sv_S) (h : n_Mo_counts as σ = some x) : sv_args 4 ev_Mo_counts.2.2.2.1 as := by
  unfold n_Mo_counts at h
  split at h
  · exact ⟨Nat.le_of_ble_eq_true rfl, fun _ v hv => by
      simp only [List.mem_cons, List.not_mem_nil, or_false] at hv
      rcases hv with rfl | rfl <;> trivial⟩
  · cases h
theorem g_Mo_counts (as : List sv_V) (σ : sv_S) (x : Option sv_V × sv_S) (h : sv_gI n_Mo_counts as σ = some x) : ∃ r i as', as = sv_R r i :: as' ∧ sv_kd r i = .inl 12 := by
  obtain ⟨_, _, h, -⟩ := sv_b_some h
  unfold n_Mo_counts at h
  split at h
  · exact ⟨_, _, _, rfl, rfl⟩
  · cases h
theorem tw_15 : Cond.selects RX12 yX12_textAt yX12_textAt ∈ gw_tbl := gw_at 15 (by decide +kernel) rfl
theorem tw_1141 : Cond.methodLink RX12 282 yX12_textAt ∈ gw_tbl := gw_at 1141 (by decide +kernel) rfl
theorem tw_1143 : Cond.instanceMethod yX12_textAt ∈ gw_tbl := gw_at 1143 (by decide +kernel) rfl
theorem tw_1144 : Cond.code yX12_textAt cX12_textAt 2 (some .int) ∈ gw_tbl := gw_at 1144 (by decide +kernel) rfl
set_option maxRecDepth 20000 in
theorem m_Mo_counts (l : Launch) : sv_M l yX12_counts cX12_counts 4 (some .int) (sv_gI n_Mo_counts) 1 := by
  refine sv_mI (E := ev_Mo_counts) (by decide +kernel) (ln_gen fk_12 kk_12 (sv_ns _ (fun _ => rfl) _)) rfl ?_ a_Mo_counts b_Mo_counts
  intro p e R s m args below meth c cells slots Q base ad dC dI cA n0 S hkn hR hf pc n f hcs
  refine sv_lk_all (P := fun pc (x : Nat × sv_F) => sv_cok p l e R s m args below meth c cells slots Q base ad dC dI cA true 4 n0 pc x.1 x.2) ?_ pc (n, f) hcs
  exact List.forall_mem_cons.mpr ⟨(sv_cV S hkn (m_Mo_textAt l) ⟨Nat.le_trans (by decide) hR.1, Nat.le_trans (by decide) hR.2⟩ (by decide) hf rfl (g_Mo_textAt) (sv_w5 tw_1141 tw_1143 tw_15 tw_65 tw_1144) (by decide +kernel) (sv_dc3 d_Mo_counts (pc := 20) rfl rfl)).I,
      fun _ h => absurd h List.not_mem_nil⟩
noncomputable def f_Mo_joined (a0 : Int32) (a1 : Int32) (a2 : Int32) (σ : sv_S) : Option (Int32 × sv_S) :=
  sv_if (a0.toInt = 38)
    (sv_if (a1 = 0)
      (some ((0 : Int32), σ))
      (sv_if (a2 = 0)
        (some ((0 : Int32), σ))
        (some ((1 : Int32), σ))))
    (sv_if (a0.toInt = 39)
    (sv_if (a1 = 0)
      (sv_if (a2 = 0)
        (some ((0 : Int32), σ))
        (some ((1 : Int32), σ)))
      (some ((1 : Int32), σ)))
    (sv_if (a0.toInt = 40)
    (sv_if (a1 = 0)
      (sv_if (a2 = 0)
        (some ((0 : Int32), σ))
        (some ((1 : Int32), σ)))
      (some ((1 : Int32), σ)))
    (sv_if (a0.toInt = 41)
    (sv_if (a1 = 0)
      (sv_if (a2 = 0)
        (some ((0 : Int32), σ))
        (some ((1 : Int32), σ)))
      (some ((1 : Int32), σ)))
    (sv_if (a0.toInt = 42)
    (some (a1 * a2, σ))
    (sv_if (a0.toInt = 43)
    (some (a1 + a2, σ))
    (sv_if (a0.toInt = 44)
    (sv_if (a1 = 0)
      (sv_if (a2 = 0)
        (some ((0 : Int32), σ))
        (some ((1 : Int32), σ)))
      (some ((1 : Int32), σ)))
    (sv_if (a0.toInt = 45)
    (some (a1 - a2, σ))
    (sv_if (a0.toInt = 46)
    (sv_if (a1 = 0)
      (sv_if (a2 = 0)
        (some ((0 : Int32), σ))
        (some ((1 : Int32), σ)))
      (some ((1 : Int32), σ)))
    (sv_if (a0.toInt = 47)
    (sv_if (a2 = 0)
      (some ((0 : Int32), σ))
      (sv_if (a2 = (-1 : Int32))
        (some (-a1, σ))
        (sv_g (¬ a2 = 0) (some (a1 / a2, σ)))))
    (sv_if (a0.toInt = 48)
    (sv_if (a1 = 0)
      (sv_if (a2 = 0)
        (some ((0 : Int32), σ))
        (some ((1 : Int32), σ)))
      (some ((1 : Int32), σ)))
    (sv_if (a0.toInt = 49)
    (sv_if (a1 = 0)
      (sv_if (a2 = 0)
        (some ((0 : Int32), σ))
        (some ((1 : Int32), σ)))
      (some ((1 : Int32), σ)))
    (sv_if (a0.toInt = 50)
    (sv_if (a1 = 0)
      (sv_if (a2 = 0)
        (some ((0 : Int32), σ))
        (some ((1 : Int32), σ)))
      (some ((1 : Int32), σ)))
    (sv_if (a0.toInt = 51)
    (sv_if (a1 = 0)
      (sv_if (a2 = 0)
        (some ((0 : Int32), σ))
        (some ((1 : Int32), σ)))
      (some ((1 : Int32), σ)))
    (sv_if (a0.toInt = 52)
    (sv_if (a1 = 0)
      (sv_if (a2 = 0)
        (some ((0 : Int32), σ))
        (some ((1 : Int32), σ)))
      (some ((1 : Int32), σ)))
    (sv_if (a0.toInt = 53)
    (sv_if (a1 = 0)
      (sv_if (a2 = 0)
        (some ((0 : Int32), σ))
        (some ((1 : Int32), σ)))
      (some ((1 : Int32), σ)))
    (sv_if (a0.toInt = 54)
    (sv_if (a1 = 0)
      (sv_if (a2 = 0)
        (some ((0 : Int32), σ))
        (some ((1 : Int32), σ)))
      (some ((1 : Int32), σ)))
    (sv_if (a0.toInt = 55)
    (sv_if (a1 = 0)
      (sv_if (a2 = 0)
        (some ((0 : Int32), σ))
        (some ((1 : Int32), σ)))
      (some ((1 : Int32), σ)))
    (sv_if (a0.toInt = 56)
    (sv_if (a1 = 0)
      (sv_if (a2 = 0)
        (some ((0 : Int32), σ))
        (some ((1 : Int32), σ)))
      (some ((1 : Int32), σ)))
    (sv_if (a0.toInt = 57)
    (sv_if (a1 = 0)
      (sv_if (a2 = 0)
        (some ((0 : Int32), σ))
        (some ((1 : Int32), σ)))
      (some ((1 : Int32), σ)))
    (sv_if (a0.toInt = 58)
    (sv_if (a1 = 0)
      (sv_if (a2 = 0)
        (some ((0 : Int32), σ))
        (some ((1 : Int32), σ)))
      (some ((1 : Int32), σ)))
    (sv_if (a0.toInt = 59)
    (sv_if (a1 = 0)
      (sv_if (a2 = 0)
        (some ((0 : Int32), σ))
        (some ((1 : Int32), σ)))
      (some ((1 : Int32), σ)))
    (sv_if (a0.toInt = 60)
    (sv_if (a2 ≤ a1)
      (some ((0 : Int32), σ))
      (some ((1 : Int32), σ)))
    (sv_if (a0.toInt = 61)
    (sv_if (a1 = a2)
      (some ((1 : Int32), σ))
      (some ((0 : Int32), σ)))
    (sv_if (a0.toInt = 62)
    (sv_if (a1 ≤ a2)
      (some ((0 : Int32), σ))
      (some ((1 : Int32), σ)))
    (sv_if (a1 = 0)
      (sv_if (a2 = 0)
        (some ((0 : Int32), σ))
        (some ((1 : Int32), σ)))
      (some ((1 : Int32), σ)))))))))))))))))))))))))))
noncomputable def n_Mo_joined : List sv_V → sv_S → Option (Int32 × sv_S)
  | [.inl a0, .inl a1, .inl a2], σ => f_Mo_joined a0 a1 a2 σ
  | _, _ => none
def cd_Mo_joined : sv_C := [(0, (.iload_n 0, (sv_N, (1, (0, []))))), (1, (.tableswitch 196 38 62 #[182, 196, 196, 196, 123, 115, 196, 119, 196, 127, 196, 196, 196, 196, 196, 196, 196, 196, 196, 196, 196, 196, 149, 171, 160], (sv_N, (1, (197, [(38, 183), (39, 197), (40, 197), (41, 197), (42, 124), (43, 116), (44, 197), (45, 120), (46, 197), (47, 128), (48, 197), (49, 197), (50, 197), (51, 197), (52, 197), (53, 197), (54, 197), (55, 197), (56, 197), (57, 197), (58, 197), (59, 197), (60, 150), (61, 172), (62, 161)]))))), (116, (.iload_n 1, (sv_N, (117, (0, []))))), (117, (.iload_n 2, (sv_N, (118, (0, []))))), (118, (.iadd, (sv_N, (119, (0, []))))), (119, (.ireturn, (sv_N, (120, (0, []))))), (120, (.iload_n 1, (sv_N, (121, (0, []))))), (121, (.iload_n 2, (sv_N, (122, (0, []))))), (122, (.isub, (sv_N, (123, (0, []))))), (123, (.ireturn, (sv_N, (124, (0, []))))), (124, (.iload_n 1, (sv_N, (125, (0, []))))), (125, (.iload_n 2, (sv_N, (126, (0, []))))), (126, (.imul, (sv_N, (127, (0, []))))), (127, (.ireturn, (sv_N, (128, (0, []))))), (128, (.iload_n 2, (sv_N, (129, (0, []))))), (129, (.ifCond .ne 7, (sv_N, (132, (136, []))))), (132, (.iconst 0, (.inl (0 : Int32), (133, (0, []))))), (133, (.goto 16, (sv_N, (136, (149, []))))), (136, (.iload_n 2, (sv_N, (137, (0, []))))), (137, (.iconst (-1), (.inl (-1 : Int32), (138, (0, []))))), (138, (.if_icmp .ne 8, (sv_N, (141, (146, []))))), (141, (.iload_n 1, (sv_N, (142, (0, []))))), (142, (.ineg, (sv_N, (143, (0, []))))), (143, (.goto 6, (sv_N, (146, (149, []))))), (146, (.iload_n 1, (sv_N, (147, (0, []))))), (147, (.iload_n 2, (sv_N, (148, (0, []))))), (148, (.idiv, (sv_N, (149, (0, []))))), (149, (.ireturn, (sv_N, (150, (0, []))))), (150, (.iload_n 1, (sv_N, (151, (0, []))))), (151, (.iload_n 2, (sv_N, (152, (0, []))))), (152, (.if_icmp .ge 7, (sv_N, (155, (159, []))))), (155, (.iconst 1, (.inl (1 : Int32), (156, (0, []))))), (156, (.goto 4, (sv_N, (159, (160, []))))), (159, (.iconst 0, (.inl (0 : Int32), (160, (0, []))))), (160, (.ireturn, (sv_N, (161, (0, []))))), (161, (.iload_n 1, (sv_N, (162, (0, []))))), (162, (.iload_n 2, (sv_N, (163, (0, []))))), (163, (.if_icmp .le 7, (sv_N, (166, (170, []))))), (166, (.iconst 1, (.inl (1 : Int32), (167, (0, []))))), (167, (.goto 4, (sv_N, (170, (171, []))))), (170, (.iconst 0, (.inl (0 : Int32), (171, (0, []))))), (171, (.ireturn, (sv_N, (172, (0, []))))), (172, (.iload_n 1, (sv_N, (173, (0, []))))), (173, (.iload_n 2, (sv_N, (174, (0, []))))), (174, (.if_icmp .ne 7, (sv_N, (177, (181, []))))), (177, (.iconst 1, (.inl (1 : Int32), (178, (0, []))))), (178, (.goto 4, (sv_N, (181, (182, []))))), (181, (.iconst 0, (.inl (0 : Int32), (182, (0, []))))), (182, (.ireturn, (sv_N, (183, (0, []))))), (183, (.iload_n 1, (sv_N, (184, (0, []))))), (184, (.ifCond .eq 11, (sv_N, (187, (195, []))))), (187, (.iload_n 2, (sv_N, (188, (0, []))))), (188, (.ifCond .eq 7, (sv_N, (191, (195, []))))), (191, (.iconst 1, (.inl (1 : Int32), (192, (0, []))))), (192, (.goto 4, (sv_N, (195, (196, []))))), (195, (.iconst 0, (.inl (0 : Int32), (196, (0, []))))), (196, (.ireturn, (sv_N, (197, (0, []))))), (197, (.iload_n 1, (sv_N, (198, (0, []))))), (198, (.ifCond .ne 7, (sv_N, (201, (205, []))))), (201, (.iload_n 2, (sv_N, (202, (0, []))))), (202, (.ifCond .eq 7, (sv_N, (205, (209, []))))), (205, (.iconst 1, (.inl (1 : Int32), (206, (0, []))))), (206, (.goto 4, (sv_N, (209, (210, []))))), (209, (.iconst 0, (.inl (0 : Int32), (210, (0, []))))), (210, (.ireturn, (sv_N, (211, (0, [])))))]
noncomputable def ev_Mo_joined : sv_E := (fun i => sv_lk i fl_12, (fun i => sv_lk i kc_12, (fun _ => 0, (true, (fun pc => sv_lk pc [], none)))))
noncomputable def kk_Mo_joined : sv_K (Int32 × sv_S) := fun pc => sv_lk pc []
set_option maxRecDepth 20000 in
theorem e_Mo_joined (a0 : Int32) (a1 : Int32) (a2 : Int32) (σ : sv_S) : sv_ex ev_Mo_joined sv_rI kk_Mo_joined cd_Mo_joined 67 0 [some (.inl a0), some (.inl a1), some (.inl a2)] [] σ = f_Mo_joined a0 a1 a2 σ := by
  unfold f_Mo_joined
  delta ev_Mo_joined kk_Mo_joined
  rfl
theorem d_Mo_joined : cd_Mo_joined.all (sv_dk cX12_joined) = true := by decide +kernel
set_option maxRecDepth 20000 in
theorem b_Mo_joined (Γ : sv_Ga) (res : Int32 × sv_S) (X : sv_Ok Γ ev_Mo_joined cX12_joined sv_rI res) (as : List sv_V) (σ : sv_S) (h : n_Mo_joined as σ = some res) : sv_T Γ 0 (sv_e0 3 as) [] σ := by
  unfold n_Mo_joined at h
  split at h
  · refine sv_run X d_Mo_joined (K := kk_Mo_joined) (sv_lk_all (P := fun pc (k : sv_Lo → List sv_V → sv_S → Option (Int32 × sv_S)) => ∀ lo st σ, k lo st σ = some res → sv_T Γ pc lo st σ) ?_) _ _ _ _ _ ((e_Mo_joined _ _ _ _).trans h)
    clear h
    exact fun _ h => absurd h List.not_mem_nil
  · cases h
theorem a_Mo_joined (as : List sv_V) (σ : sv_S) (x : Int32 × sv_S) (h : n_Mo_joined as σ = some x) : sv_args 3 ev_Mo_joined.2.2.2.1 as := by
  unfold n_Mo_joined at h
  split at h
  · exact ⟨Nat.le_of_ble_eq_true rfl, fun _ v hv => by
      simp only [List.mem_cons, List.not_mem_nil, or_false] at hv
      rcases hv with rfl | rfl | rfl <;> trivial⟩
  · cases h

set_option maxRecDepth 20000 in
theorem m_Mo_joined (l : Launch) : sv_M l yX12_joined cX12_joined 3 (some .int) (sv_gI n_Mo_joined) 0 := by
  refine sv_mI (E := ev_Mo_joined) (by decide +kernel) (ln_gen fk_12 kk_12 (sv_ns _ (fun _ => rfl) _)) rfl ?_ a_Mo_joined b_Mo_joined
  intro p e R s m args below meth c cells slots Q base ad dC dI cA n0 S hkn hR hf pc n f hcs
  refine sv_lk_all (P := fun pc (x : Nat × sv_F) => sv_cok p l e R s m args below meth c cells slots Q base ad dC dI cA true 3 n0 pc x.1 x.2) ?_ pc (n, f) hcs
  exact fun _ h => absurd h List.not_mem_nil
noncomputable def f_Mo_worked_86 (k4 : Int32 → Int32 → Int32 → sv_S → Option (Int32 × sv_S)) (x1 : Int32) (x2 : Int32) (x3 : Int32) (y0 : Int32) (y1 : Int32) (y2 : Nat) (σ : sv_S) : Option (Int32 × sv_S) :=
    sv_g (sv_in y1 (sv_ml y2)) (k4 x1 (x2 + (1 : Int32)) (x3 + (1 : Int32)) (sv_up σ 31 y2 (y1.toNatClampNeg) y0))
noncomputable def f_Mo_worked_4 : Nat → Int32 → Int32 → Int32 → sv_S → Option (Int32 × sv_S)
  | 0, _, _, _, _ => none
  | n + 1, x1, x2, x3, σ =>
    sv_b (f_Mo_textAt x1 σ) (fun v1 σ2 =>
      sv_g (sv_in (v1 + (2 : Int32)) 3086) (sv_if ((σ2 31 0 ((v1 + (2 : Int32)).toNatClampNeg)) ≤ x3)
        (sv_g (sv_in (0 : Int32) 100) (some (σ2 31 29 ((0 : Int32).toNatClampNeg), σ2)))
        (sv_b (f_Mo_textAt x1 σ2) (fun v3 σ4 =>
          sv_g (sv_in ((v3 + (4 : Int32)) + ((2 : Int32) * x3)) 3086) (sv_b (f_Mo_textAt x1 σ4) (fun v5 σ6 =>
            sv_g (sv_in (((v5 + (4 : Int32)) + ((2 : Int32) * x3)) + (1 : Int32)) 3086) (sv_if ((σ4 31 0 (((v3 + (4 : Int32)) + ((2 : Int32) * x3)).toNatClampNeg)) = (2 : Int32))
              (sv_if ((σ6 31 0 ((((v5 + (4 : Int32)) + ((2 : Int32) * x3)) + (1 : Int32)).toNatClampNeg)) = (33 : Int32))
                (sv_g (sv_in (x2 - (1 : Int32)) 100) (sv_if ((σ6 31 29 ((x2 - (1 : Int32)).toNatClampNeg)) = 0)
                  (sv_g (sv_in (x2 - (1 : Int32)) 100) (f_Mo_worked_4 n x1 x2 (x3 + (1 : Int32)) (sv_up σ6 31 29 ((x2 - (1 : Int32)).toNatClampNeg) (1 : Int32))))
                  (sv_g (sv_in (x2 - (1 : Int32)) 100) (f_Mo_worked_4 n x1 x2 (x3 + (1 : Int32)) (sv_up σ6 31 29 ((x2 - (1 : Int32)).toNatClampNeg) (0 : Int32))))))
                (sv_g (sv_in ((x2 + (-1 : Int32)) - (1 : Int32)) 100) (sv_g (sv_in (x2 + (-1 : Int32)) 100) (sv_b (f_Mo_joined (σ6 31 0 ((((v5 + (4 : Int32)) + ((2 : Int32) * x3)) + (1 : Int32)).toNatClampNeg)) (σ6 31 29 (((x2 + (-1 : Int32)) - (1 : Int32)).toNatClampNeg)) (σ6 31 29 ((x2 + (-1 : Int32)).toNatClampNeg)) σ6) (fun v7 σ8 =>
                  sv_g (sv_in ((x2 + (-1 : Int32)) - (1 : Int32)) 100) (f_Mo_worked_4 n x1 (x2 + (-1 : Int32)) (x3 + (1 : Int32)) (sv_up σ8 31 29 (((x2 + (-1 : Int32)) - (1 : Int32)).toNatClampNeg) v7)))))))
              (sv_if ((σ4 31 0 (((v3 + (4 : Int32)) + ((2 : Int32) * x3)).toNatClampNeg)) = 0)
                (f_Mo_worked_86 (f_Mo_worked_4 n) x1 x2 x3 (σ6 31 0 ((((v5 + (4 : Int32)) + ((2 : Int32) * x3)) + (1 : Int32)).toNatClampNeg)) x2 29 σ6)
                (sv_g (sv_in (σ6 31 0 ((((v5 + (4 : Int32)) + ((2 : Int32) * x3)) + (1 : Int32)).toNatClampNeg)) 128) (f_Mo_worked_86 (f_Mo_worked_4 n) x1 x2 x3 (σ6 31 28 ((σ6 31 0 ((((v5 + (4 : Int32)) + ((2 : Int32) * x3)) + (1 : Int32)).toNatClampNeg)).toNatClampNeg)) x2 29 σ6))))))))))
noncomputable def f_Mo_worked (a1 : Int32) (σ : sv_S) : Option (Int32 × sv_S) :=
  f_Mo_worked_4 sv_fu a1 (0 : Int32) (0 : Int32) σ
noncomputable def n_Mo_worked : List sv_V → sv_S → Option (Int32 × sv_S)
  | [.inr (.inr (some (30, 0))), .inl a1], σ => f_Mo_worked a1 σ
  | _, _ => none
def cd_Mo_worked : sv_C := [(0, (.iconst 0, (.inl (0 : Int32), (1, (0, []))))), (1, (.istore_n 2, (sv_N, (2, (0, []))))), (2, (.iconst 0, (.inl (0 : Int32), (3, (0, []))))), (3, (.istore_n 3, (sv_N, (4, (0, []))))), (4, (.iload_n 3, (sv_N, (5, (0, []))))), (5, (.aload_n 0, (sv_N, (6, (0, []))))), (6, (.getfield 7, (sv_N, (9, (0, []))))), (9, (.aload_n 0, (sv_N, (10, (0, []))))), (10, (.iload_n 1, (sv_N, (11, (0, []))))), (11, (.invokevirtual 282, (sv_N, (14, (0, []))))), (14, (.iconst 2, (.inl (2 : Int32), (15, (0, []))))), (15, (.iadd, (sv_N, (16, (0, []))))), (16, (.iaload, (sv_N, (17, (0, []))))), (17, (.if_icmp .ge 146, (sv_N, (20, (163, []))))), (20, (.aload_n 0, (sv_N, (21, (0, []))))), (21, (.getfield 7, (sv_N, (24, (0, []))))), (24, (.aload_n 0, (sv_N, (25, (0, []))))), (25, (.iload_n 1, (sv_N, (26, (0, []))))), (26, (.invokevirtual 282, (sv_N, (29, (0, []))))), (29, (.iconst 4, (.inl (4 : Int32), (30, (0, []))))), (30, (.iadd, (sv_N, (31, (0, []))))), (31, (.iconst 2, (.inl (2 : Int32), (32, (0, []))))), (32, (.iload_n 3, (sv_N, (33, (0, []))))), (33, (.imul, (sv_N, (34, (0, []))))), (34, (.iadd, (sv_N, (35, (0, []))))), (35, (.iaload, (sv_N, (36, (0, []))))), (36, (.istore 4, (sv_N, (38, (0, []))))), (38, (.aload_n 0, (sv_N, (39, (0, []))))), (39, (.getfield 7, (sv_N, (42, (0, []))))), (42, (.aload_n 0, (sv_N, (43, (0, []))))), (43, (.iload_n 1, (sv_N, (44, (0, []))))), (44, (.invokevirtual 282, (sv_N, (47, (0, []))))), (47, (.iconst 4, (.inl (4 : Int32), (48, (0, []))))), (48, (.iadd, (sv_N, (49, (0, []))))), (49, (.iconst 2, (.inl (2 : Int32), (50, (0, []))))), (50, (.iload_n 3, (sv_N, (51, (0, []))))), (51, (.imul, (sv_N, (52, (0, []))))), (52, (.iadd, (sv_N, (53, (0, []))))), (53, (.iconst 1, (.inl (1 : Int32), (54, (0, []))))), (54, (.iadd, (sv_N, (55, (0, []))))), (55, (.iaload, (sv_N, (56, (0, []))))), (56, (.istore 5, (sv_N, (58, (0, []))))), (58, (.iload 4, (sv_N, (60, (0, []))))), (60, (.iconst 2, (.inl (2 : Int32), (61, (0, []))))), (61, (.if_icmp .eq 32, (sv_N, (64, (93, []))))), (64, (.aload_n 0, (sv_N, (65, (0, []))))), (65, (.getfield 58, (sv_N, (68, (0, []))))), (68, (.iload_n 2, (sv_N, (69, (0, []))))), (69, (.iload 4, (sv_N, (71, (0, []))))), (71, (.ifCond .ne 8, (sv_N, (74, (79, []))))), (74, (.iload 5, (sv_N, (76, (0, []))))), (76, (.goto 10, (sv_N, (79, (86, []))))), (79, (.aload_n 0, (sv_N, (80, (0, []))))), (80, (.getfield 55, (sv_N, (83, (0, []))))), (83, (.iload 5, (sv_N, (85, (0, []))))), (85, (.iaload, (sv_N, (86, (0, []))))), (86, (.iastore, (sv_N, (87, (0, []))))), (87, (.iinc 2 1, (.inl (1 : Int32), (90, (0, []))))), (90, (.goto 67, (sv_N, (93, (157, []))))), (93, (.iload 5, (sv_N, (95, (0, []))))), (95, (.bipush 33, (.inl (33 : Int32), (97, (0, []))))), (97, (.if_icmp .ne 30, (sv_N, (100, (127, []))))), (100, (.aload_n 0, (sv_N, (101, (0, []))))), (101, (.getfield 58, (sv_N, (104, (0, []))))), (104, (.iload_n 2, (sv_N, (105, (0, []))))), (105, (.iconst 1, (.inl (1 : Int32), (106, (0, []))))), (106, (.isub, (sv_N, (107, (0, []))))), (107, (.aload_n 0, (sv_N, (108, (0, []))))), (108, (.getfield 58, (sv_N, (111, (0, []))))), (111, (.iload_n 2, (sv_N, (112, (0, []))))), (112, (.iconst 1, (.inl (1 : Int32), (113, (0, []))))), (113, (.isub, (sv_N, (114, (0, []))))), (114, (.iaload, (sv_N, (115, (0, []))))), (115, (.ifCond .ne 7, (sv_N, (118, (122, []))))), (118, (.iconst 1, (.inl (1 : Int32), (119, (0, []))))), (119, (.goto 4, (sv_N, (122, (123, []))))), (122, (.iconst 0, (.inl (0 : Int32), (123, (0, []))))), (123, (.iastore, (sv_N, (124, (0, []))))), (124, (.goto 33, (sv_N, (127, (157, []))))), (127, (.iinc 2 (-1), (.inl (-1 : Int32), (130, (0, []))))), (130, (.aload_n 0, (sv_N, (131, (0, []))))), (131, (.getfield 58, (sv_N, (134, (0, []))))), (134, (.iload_n 2, (sv_N, (135, (0, []))))), (135, (.iconst 1, (.inl (1 : Int32), (136, (0, []))))), (136, (.isub, (sv_N, (137, (0, []))))), (137, (.iload 5, (sv_N, (139, (0, []))))), (139, (.aload_n 0, (sv_N, (140, (0, []))))), (140, (.getfield 58, (sv_N, (143, (0, []))))), (143, (.iload_n 2, (sv_N, (144, (0, []))))), (144, (.iconst 1, (.inl (1 : Int32), (145, (0, []))))), (145, (.isub, (sv_N, (146, (0, []))))), (146, (.iaload, (sv_N, (147, (0, []))))), (147, (.aload_n 0, (sv_N, (148, (0, []))))), (148, (.getfield 58, (sv_N, (151, (0, []))))), (151, (.iload_n 2, (sv_N, (152, (0, []))))), (152, (.iaload, (sv_N, (153, (0, []))))), (153, (.invokestatic 294, (sv_N, (156, (0, []))))), (156, (.iastore, (sv_N, (157, (0, []))))), (157, (.iinc 3 1, (.inl (1 : Int32), (160, (0, []))))), (160, (.goto (-156), (sv_N, (163, (4, []))))), (163, (.aload_n 0, (sv_N, (164, (0, []))))), (164, (.getfield 58, (sv_N, (167, (0, []))))), (167, (.iconst 0, (.inl (0 : Int32), (168, (0, []))))), (168, (.iaload, (sv_N, (169, (0, []))))), (169, (.ireturn, (sv_N, (170, (0, [])))))]
noncomputable def ev_Mo_worked : sv_E := (fun i => sv_lk i fl_12, (fun i => sv_lk i kc_12, (fun _ => 0, (true, (fun pc => sv_lk pc [(11, (2, .inl n_Mo_textAt)), (26, (2, .inl n_Mo_textAt)), (44, (2, .inl n_Mo_textAt)), (153, (3, .inl n_Mo_joined))], none)))))
noncomputable def kk_Mo_worked_86 (k4 : Int32 → Int32 → Int32 → sv_S → Option (Int32 × sv_S)) : sv_K (Int32 × sv_S) := fun pc => sv_lk pc [(4, fun lo st σ => match lo, st with
    | [some (.inr (.inr (some (30, 0)))), some (.inl x1), some (.inl x2), some (.inl x3), _, _], [] => k4 x1 x2 x3 σ
    | _, _ => none)]
set_option maxRecDepth 20000 in
theorem e_Mo_worked_86 (k4 : Int32 → Int32 → Int32 → sv_S → Option (Int32 × sv_S)) (x1 : Int32) (x2 : Int32) (x3 : Int32) (y0 : Int32) (y1 : Int32) (y2 : Nat) (z4 z5 : Option sv_V) (σ : sv_S) : sv_ex ev_Mo_worked sv_rI (kk_Mo_worked_86 k4) cd_Mo_worked 107 86 [some (.inr (.inr (some (30, 0)))), some (.inl x1), some (.inl x2), some (.inl x3), z4, z5] [.inl y0, .inl y1, .inr (.inr (some (31, y2)))] σ = f_Mo_worked_86 k4 x1 x2 x3 y0 y1 y2 σ := by
  unfold f_Mo_worked_86
  delta ev_Mo_worked kk_Mo_worked_86 n_Mo_textAt n_Mo_joined
  generalize f_Mo_textAt = c0
  generalize f_Mo_joined = c1
  generalize f_Mo_worked_4 = c2
  rfl
noncomputable def kk_Mo_worked_4 (n : Nat) : sv_K (Int32 × sv_S) := fun pc => sv_lk pc [(4, fun lo st σ => match lo, st with
    | [some (.inr (.inr (some (30, 0)))), some (.inl x1), some (.inl x2), some (.inl x3), _, _], [] => f_Mo_worked_4 n x1 x2 x3 σ
    | _, _ => none),
  (86, fun lo st σ => match lo, st with
    | [some (.inr (.inr (some (30, 0)))), some (.inl x1), some (.inl x2), some (.inl x3), _, _], [.inl y0, .inl y1, .inr (.inr (some (31, y2)))] => f_Mo_worked_86 (f_Mo_worked_4 n) x1 x2 x3 y0 y1 y2 σ
    | _, _ => none)]
set_option maxRecDepth 20000 in
theorem e_Mo_worked_4 (n : Nat) (x1 : Int32) (x2 : Int32) (x3 : Int32) (z4 z5 : Option sv_V) (σ : sv_S) : sv_ex ev_Mo_worked sv_rI (kk_Mo_worked_4 n) cd_Mo_worked 107 4 [some (.inr (.inr (some (30, 0)))), some (.inl x1), some (.inl x2), some (.inl x3), z4, z5] [] σ = f_Mo_worked_4 (n + 1) x1 x2 x3 σ := by
  rw [f_Mo_worked_4.eq_2]
  delta ev_Mo_worked kk_Mo_worked_4 n_Mo_textAt n_Mo_joined
  generalize f_Mo_textAt = c0
  generalize f_Mo_joined = c1
  generalize f_Mo_worked_4 = c2
  generalize f_Mo_worked_86 = c3
  rfl
noncomputable def kk_Mo_worked : sv_K (Int32 × sv_S) := fun pc => sv_lk pc [(4, fun lo st σ => match lo, st with
    | [some (.inr (.inr (some (30, 0)))), some (.inl x1), some (.inl x2), some (.inl x3), _, _], [] => f_Mo_worked_4 sv_fu x1 x2 x3 σ
    | _, _ => none)]
set_option maxRecDepth 20000 in
theorem e_Mo_worked (a1 : Int32) (σ : sv_S) : sv_ex ev_Mo_worked sv_rI kk_Mo_worked cd_Mo_worked 107 0 [some (.inr (.inr (some (30, 0)))), some (.inl a1), none, none, none, none] [] σ = f_Mo_worked a1 σ := by
  unfold f_Mo_worked
  delta ev_Mo_worked kk_Mo_worked n_Mo_textAt n_Mo_joined
  generalize f_Mo_textAt = c0
  generalize f_Mo_joined = c1
  generalize f_Mo_worked_4 = c2
  rfl
theorem d_Mo_worked : cd_Mo_worked.all (sv_dk cX12_worked) = true := by decide +kernel
set_option maxRecDepth 20000 in
theorem w_Mo_worked_86 {Γ : sv_Ga} {res : Int32 × sv_S} (X : sv_Ok Γ ev_Mo_worked cX12_worked sv_rI res) (k4 : Int32 → Int32 → Int32 → sv_S → Option (Int32 × sv_S)) (h4 : ∀ (x1 : Int32) (x2 : Int32) (x3 : Int32) (z4 z5 : Option sv_V) (σ : sv_S), k4 x1 x2 x3 σ = some res → sv_T Γ 4 [some (.inr (.inr (some (30, 0)))), some (.inl x1), some (.inl x2), some (.inl x3), z4, z5] [] σ) : ∀ (x1 : Int32) (x2 : Int32) (x3 : Int32) (y0 : Int32) (y1 : Int32) (y2 : Nat) (z4 z5 : Option sv_V) (σ : sv_S), f_Mo_worked_86 k4 x1 x2 x3 y0 y1 y2 σ = some res → sv_T Γ 86 [some (.inr (.inr (some (30, 0)))), some (.inl x1), some (.inl x2), some (.inl x3), z4, z5] [.inl y0, .inl y1, .inr (.inr (some (31, y2)))] σ := by
  intro x1 x2 x3 y0 y1 y2 z4 z5 σ h
  refine sv_run X d_Mo_worked (K := kk_Mo_worked_86 k4) (sv_lk_all (P := fun pc (k : sv_Lo → List sv_V → sv_S → Option (Int32 × sv_S)) => ∀ lo st σ, k lo st σ = some res → sv_T Γ pc lo st σ) ?_) _ _ _ _ _ ((e_Mo_worked_86 k4 x1 x2 x3 y0 y1 y2 z4 z5 σ).trans h)
  clear h
  refine List.forall_mem_cons.mpr ⟨fun lo st σ h => ?_, fun _ h => absurd h List.not_mem_nil⟩
  · dsimp only at h
    split at h
    · exact h4 _ _ _ _ _ _ h
    · cases h

set_option maxRecDepth 20000 in
theorem w_Mo_worked_4 {Γ : sv_Ga} {res : Int32 × sv_S} (X : sv_Ok Γ ev_Mo_worked cX12_worked sv_rI res) : ∀ (n : Nat) (x1 : Int32) (x2 : Int32) (x3 : Int32) (z4 z5 : Option sv_V) (σ : sv_S), f_Mo_worked_4 n x1 x2 x3 σ = some res → sv_T Γ 4 [some (.inr (.inr (some (30, 0)))), some (.inl x1), some (.inl x2), some (.inl x3), z4, z5] [] σ := by
  intro n
  induction n with
  | zero =>
    intro x1 x2 x3 z4 z5 σ h
    rw [f_Mo_worked_4.eq_1] at h
    cases h
  | succ n ih =>
    intro x1 x2 x3 z4 z5 σ h
    refine sv_run X d_Mo_worked (K := kk_Mo_worked_4 n) (sv_lk_all (P := fun pc (k : sv_Lo → List sv_V → sv_S → Option (Int32 × sv_S)) => ∀ lo st σ, k lo st σ = some res → sv_T Γ pc lo st σ) ?_) _ _ _ _ _ ((e_Mo_worked_4 n x1 x2 x3 z4 z5 σ).trans h)
    clear h
    refine List.forall_mem_cons.mpr ⟨fun lo st σ h => ?_, List.forall_mem_cons.mpr ⟨fun lo st σ h => ?_, fun _ h => absurd h List.not_mem_nil⟩⟩
    · dsimp only at h
      split at h
      · exact ih _ _ _ _ _ _ h
      · cases h
    · dsimp only at h
      split at h
      · exact w_Mo_worked_86 X _ ih _ _ _ _ _ _ _ _ _ h
      · cases h

set_option maxRecDepth 20000 in
theorem b_Mo_worked (Γ : sv_Ga) (res : Int32 × sv_S) (X : sv_Ok Γ ev_Mo_worked cX12_worked sv_rI res) (as : List sv_V) (σ : sv_S) (h : n_Mo_worked as σ = some res) : sv_T Γ 0 (sv_e0 6 as) [] σ := by
  unfold n_Mo_worked at h
  split at h
  · refine sv_run X d_Mo_worked (K := kk_Mo_worked) (sv_lk_all (P := fun pc (k : sv_Lo → List sv_V → sv_S → Option (Int32 × sv_S)) => ∀ lo st σ, k lo st σ = some res → sv_T Γ pc lo st σ) ?_) _ _ _ _ _ ((e_Mo_worked _ _).trans h)
    clear h
    refine List.forall_mem_cons.mpr ⟨fun lo st σ h => ?_, fun _ h => absurd h List.not_mem_nil⟩
    · dsimp only at h
      split at h
      · exact w_Mo_worked_4 X _ _ _ _ _ _ _ h
      · cases h
  · cases h
theorem a_Mo_worked (as : List sv_V) (σ : sv_S) (x : Int32 × sv_S) (h : n_Mo_worked as σ = some x) : sv_args 6 ev_Mo_worked.2.2.2.1 as := by
  unfold n_Mo_worked at h
  split at h
  · exact ⟨Nat.le_of_ble_eq_true rfl, fun _ v hv => by
      simp only [List.mem_cons, List.not_mem_nil, or_false] at hv
      rcases hv with rfl | rfl <;> trivial⟩
  · cases h
theorem g_Mo_worked (as : List sv_V) (σ : sv_S) (x : Option sv_V × sv_S) (h : sv_gI n_Mo_worked as σ = some x) : ∃ r i as', as = sv_R r i :: as' ∧ sv_kd r i = .inl 12 := by
  obtain ⟨_, _, h, -⟩ := sv_b_some h
  unfold n_Mo_worked at h
  split at h
  · exact ⟨_, _, _, rfl, rfl⟩
  · cases h
theorem tw_1153 : Cond.methodLink RX12 294 yX12_joined ∈ gw_tbl := gw_at 1153 (by decide +kernel) rfl
theorem tw_1154 : Cond.static yX12_joined ∈ gw_tbl := gw_at 1154 (by decide +kernel) rfl
theorem tw_1155 : Cond.code yX12_joined cX12_joined 3 (some .int) ∈ gw_tbl := gw_at 1155 (by decide +kernel) rfl
set_option maxRecDepth 20000 in
theorem m_Mo_worked (l : Launch) : sv_M l yX12_worked cX12_worked 6 (some .int) (sv_gI n_Mo_worked) 1 := by
  refine sv_mI (E := ev_Mo_worked) (by decide +kernel) (ln_gen fk_12 kk_12 (sv_ns _ (fun _ => rfl) _)) rfl ?_ a_Mo_worked b_Mo_worked
  intro p e R s m args below meth c cells slots Q base ad dC dI cA n0 S hkn hR hf pc n f hcs
  refine sv_lk_all (P := fun pc (x : Nat × sv_F) => sv_cok p l e R s m args below meth c cells slots Q base ad dC dI cA true 6 n0 pc x.1 x.2) ?_ pc (n, f) hcs
  exact List.forall_mem_cons.mpr ⟨(sv_cV S hkn (m_Mo_textAt l) ⟨Nat.le_trans (by decide) hR.1, Nat.le_trans (by decide) hR.2⟩ (by decide) hf rfl (g_Mo_textAt) (sv_w5 tw_1141 tw_1143 tw_15 tw_65 tw_1144) (by decide +kernel) (sv_dc3 d_Mo_worked (pc := 11) rfl rfl)).I,
      List.forall_mem_cons.mpr ⟨(sv_cV S hkn (m_Mo_textAt l) ⟨Nat.le_trans (by decide) hR.1, Nat.le_trans (by decide) hR.2⟩ (by decide) hf rfl (g_Mo_textAt) (sv_w5 tw_1141 tw_1143 tw_15 tw_65 tw_1144) (by decide +kernel) (sv_dc3 d_Mo_worked (pc := 26) rfl rfl)).I,
      List.forall_mem_cons.mpr ⟨(sv_cV S hkn (m_Mo_textAt l) ⟨Nat.le_trans (by decide) hR.1, Nat.le_trans (by decide) hR.2⟩ (by decide) hf rfl (g_Mo_textAt) (sv_w5 tw_1141 tw_1143 tw_15 tw_65 tw_1144) (by decide +kernel) (sv_dc3 d_Mo_worked (pc := 44) rfl rfl)).I,
      List.forall_mem_cons.mpr ⟨(sv_cS S hkn (m_Mo_joined l) ⟨Nat.le_trans (by decide) hR.1, Nat.le_trans (by decide) hR.2⟩ (by decide) hf (sv_w4 tw_1153 tw_1154 tw_65 tw_1155) (by decide +kernel) (sv_dc3 d_Mo_worked (pc := 153) rfl rfl)).I,
      fun _ h => absurd h List.not_mem_nil⟩⟩⟩⟩
noncomputable def f_Mo_hears (a1 : Int32) (σ : sv_S) : Option (Int32 × sv_S) :=
  sv_b (f_Mo_of a1 (0 : Int32) σ) (fun v1 σ2 =>
    sv_if (v1 = (5 : Int32))
      (sv_b (f_Mo_left a1 σ2) (fun v3 σ4 =>
        sv_if (v3 ≤ 0)
          (sv_g ((0 : Int32) = 0 ∨ (0 : Int32) = 1) (some ((0 : Int32), σ4)))
          (sv_g ((1 : Int32) = 0 ∨ (1 : Int32) = 1) (some ((1 : Int32), σ4)))))
      (sv_b (f_Mo_counts (0 : Int32) σ2) (fun v5 σ6 =>
        sv_if (0 ≤ v5)
          (sv_b (f_Mo_left a1 σ6) (fun v7 σ8 =>
            sv_g (sv_in (108 : Int32) 128) (sv_b (f_Mo_right a1 (sv_up σ8 31 28 ((108 : Int32).toNatClampNeg) v7)) (fun v9 σ10 =>
              sv_g (sv_in (114 : Int32) 128) (sv_g (sv_in (110 : Int32) 128) (sv_b (f_Mo_worked v5 (sv_up (sv_up σ10 31 28 ((114 : Int32).toNatClampNeg) v9) 31 28 ((110 : Int32).toNatClampNeg) a1)) (fun v11 σ12 =>
                sv_if (v11 = 0)
                  (sv_g ((0 : Int32) = 0 ∨ (0 : Int32) = 1) (some ((0 : Int32), σ12)))
                  (sv_g ((1 : Int32) = 0 ∨ (1 : Int32) = 1) (some ((1 : Int32), σ12))))))))))
          (sv_b (f_Mo_left a1 σ6) (fun v13 σ14 =>
            sv_if (0 < v13)
              (sv_g ((1 : Int32) = 0 ∨ (1 : Int32) = 1) (some ((1 : Int32), σ14)))
              (sv_b (f_Mo_right a1 σ14) (fun v15 σ16 =>
                sv_if (v15 ≤ 0)
                  (sv_g ((0 : Int32) = 0 ∨ (0 : Int32) = 1) (some ((0 : Int32), σ16)))
                  (sv_g ((1 : Int32) = 0 ∨ (1 : Int32) = 1) (some ((1 : Int32), σ16))))))))))
noncomputable def n_Mo_hears : List sv_V → sv_S → Option (Int32 × sv_S)
  | [.inr (.inr (some (30, 0))), .inl a1], σ => f_Mo_hears a1 σ
  | _, _ => none
def cd_Mo_hears : sv_C := [(0, (.aload_n 0, (sv_N, (1, (0, []))))), (1, (.iload_n 1, (sv_N, (2, (0, []))))), (2, (.iconst 0, (.inl (0 : Int32), (3, (0, []))))), (3, (.invokevirtual 90, (sv_N, (6, (0, []))))), (6, (.iconst 5, (.inl (5 : Int32), (7, (0, []))))), (7, (.if_icmp .ne 17, (sv_N, (10, (24, []))))), (10, (.aload_n 0, (sv_N, (11, (0, []))))), (11, (.iload_n 1, (sv_N, (12, (0, []))))), (12, (.invokevirtual 97, (sv_N, (15, (0, []))))), (15, (.ifCond .le 7, (sv_N, (18, (22, []))))), (18, (.iconst 1, (.inl (1 : Int32), (19, (0, []))))), (19, (.goto 4, (sv_N, (22, (23, []))))), (22, (.iconst 0, (.inl (0 : Int32), (23, (0, []))))), (23, (.ireturn, (sv_N, (24, (0, []))))), (24, (.aload_n 0, (sv_N, (25, (0, []))))), (25, (.iconst 0, (.inl (0 : Int32), (26, (0, []))))), (26, (.invokevirtual 101, (sv_N, (29, (0, []))))), (29, (.istore_n 2, (sv_N, (30, (0, []))))), (30, (.iload_n 2, (sv_N, (31, (0, []))))), (31, (.ifCond .ge 25, (sv_N, (34, (56, []))))), (34, (.aload_n 0, (sv_N, (35, (0, []))))), (35, (.iload_n 1, (sv_N, (36, (0, []))))), (36, (.invokevirtual 97, (sv_N, (39, (0, []))))), (39, (.ifCond .gt 11, (sv_N, (42, (50, []))))), (42, (.aload_n 0, (sv_N, (43, (0, []))))), (43, (.iload_n 1, (sv_N, (44, (0, []))))), (44, (.invokevirtual 104, (sv_N, (47, (0, []))))), (47, (.ifCond .le 7, (sv_N, (50, (54, []))))), (50, (.iconst 1, (.inl (1 : Int32), (51, (0, []))))), (51, (.goto 4, (sv_N, (54, (55, []))))), (54, (.iconst 0, (.inl (0 : Int32), (55, (0, []))))), (55, (.ireturn, (sv_N, (56, (0, []))))), (56, (.aload_n 0, (sv_N, (57, (0, []))))), (57, (.getfield 55, (sv_N, (60, (0, []))))), (60, (.bipush 108, (.inl (108 : Int32), (62, (0, []))))), (62, (.aload_n 0, (sv_N, (63, (0, []))))), (63, (.iload_n 1, (sv_N, (64, (0, []))))), (64, (.invokevirtual 97, (sv_N, (67, (0, []))))), (67, (.iastore, (sv_N, (68, (0, []))))), (68, (.aload_n 0, (sv_N, (69, (0, []))))), (69, (.getfield 55, (sv_N, (72, (0, []))))), (72, (.bipush 114, (.inl (114 : Int32), (74, (0, []))))), (74, (.aload_n 0, (sv_N, (75, (0, []))))), (75, (.iload_n 1, (sv_N, (76, (0, []))))), (76, (.invokevirtual 104, (sv_N, (79, (0, []))))), (79, (.iastore, (sv_N, (80, (0, []))))), (80, (.aload_n 0, (sv_N, (81, (0, []))))), (81, (.getfield 55, (sv_N, (84, (0, []))))), (84, (.bipush 110, (.inl (110 : Int32), (86, (0, []))))), (86, (.iload_n 1, (sv_N, (87, (0, []))))), (87, (.iastore, (sv_N, (88, (0, []))))), (88, (.aload_n 0, (sv_N, (89, (0, []))))), (89, (.iload_n 2, (sv_N, (90, (0, []))))), (90, (.invokevirtual 107, (sv_N, (93, (0, []))))), (93, (.ifCond .eq 7, (sv_N, (96, (100, []))))), (96, (.iconst 1, (.inl (1 : Int32), (97, (0, []))))), (97, (.goto 4, (sv_N, (100, (101, []))))), (100, (.iconst 0, (.inl (0 : Int32), (101, (0, []))))), (101, (.ireturn, (sv_N, (102, (0, [])))))]
noncomputable def ev_Mo_hears : sv_E := (fun i => sv_lk i fl_12, (fun i => sv_lk i kc_12, (fun _ => 0, (true, (fun pc => sv_lk pc [(3, (3, .inl n_Mo_of)), (12, (2, .inl n_Mo_left)), (26, (2, .inl n_Mo_counts)), (36, (2, .inl n_Mo_left)), (44, (2, .inl n_Mo_right)), (64, (2, .inl n_Mo_left)), (76, (2, .inl n_Mo_right)), (90, (2, .inl n_Mo_worked))], none)))))
noncomputable def kk_Mo_hears : sv_K (Int32 × sv_S) := fun pc => sv_lk pc []
set_option maxRecDepth 20000 in
theorem e_Mo_hears (a1 : Int32) (σ : sv_S) : sv_ex ev_Mo_hears sv_rZ kk_Mo_hears cd_Mo_hears 61 0 [some (.inr (.inr (some (30, 0)))), some (.inl a1), none] [] σ = f_Mo_hears a1 σ := by
  unfold f_Mo_hears
  delta ev_Mo_hears kk_Mo_hears n_Mo_of n_Mo_left n_Mo_counts n_Mo_right n_Mo_worked
  generalize f_Mo_of = c0
  generalize f_Mo_left = c1
  generalize f_Mo_counts = c2
  generalize f_Mo_right = c3
  generalize f_Mo_worked = c4
  rfl
theorem d_Mo_hears : cd_Mo_hears.all (sv_dk cX12_hears) = true := by decide +kernel
set_option maxRecDepth 20000 in
theorem b_Mo_hears (Γ : sv_Ga) (res : Int32 × sv_S) (X : sv_Ok Γ ev_Mo_hears cX12_hears sv_rZ res) (as : List sv_V) (σ : sv_S) (h : n_Mo_hears as σ = some res) : sv_T Γ 0 (sv_e0 3 as) [] σ := by
  unfold n_Mo_hears at h
  split at h
  · refine sv_run X d_Mo_hears (K := kk_Mo_hears) (sv_lk_all (P := fun pc (k : sv_Lo → List sv_V → sv_S → Option (Int32 × sv_S)) => ∀ lo st σ, k lo st σ = some res → sv_T Γ pc lo st σ) ?_) _ _ _ _ _ ((e_Mo_hears _ _).trans h)
    clear h
    exact fun _ h => absurd h List.not_mem_nil
  · cases h
theorem a_Mo_hears (as : List sv_V) (σ : sv_S) (x : Int32 × sv_S) (h : n_Mo_hears as σ = some x) : sv_args 3 ev_Mo_hears.2.2.2.1 as := by
  unfold n_Mo_hears at h
  split at h
  · exact ⟨Nat.le_of_ble_eq_true rfl, fun _ v hv => by
      simp only [List.mem_cons, List.not_mem_nil, or_false] at hv
      rcases hv with rfl | rfl <;> trivial⟩
  · cases h
theorem g_Mo_hears (as : List sv_V) (σ : sv_S) (x : Option sv_V × sv_S) (h : sv_gI n_Mo_hears as σ = some x) : ∃ r i as', as = sv_R r i :: as' ∧ sv_kd r i = .inl 12 := by
  obtain ⟨_, _, h, -⟩ := sv_b_some h
  unfold n_Mo_hears at h
  split at h
  · exact ⟨_, _, _, rfl, rfl⟩
  · cases h
theorem tw_12 : Cond.selects RX12 yX12_left yX12_left ∈ gw_tbl := gw_at 12 (by decide +kernel) rfl
theorem tw_14 : Cond.selects RX12 yX12_counts yX12_counts ∈ gw_tbl := gw_at 14 (by decide +kernel) rfl
theorem tw_16 : Cond.selects RX12 yX12_right yX12_right ∈ gw_tbl := gw_at 16 (by decide +kernel) rfl
theorem tw_17 : Cond.selects RX12 yX12_worked yX12_worked ∈ gw_tbl := gw_at 17 (by decide +kernel) rfl
theorem tw_1129 : Cond.methodLink RX12 97 yX12_left ∈ gw_tbl := gw_at 1129 (by decide +kernel) rfl
theorem tw_1131 : Cond.instanceMethod yX12_left ∈ gw_tbl := gw_at 1131 (by decide +kernel) rfl
theorem tw_1132 : Cond.code yX12_left cX12_left 2 (some .int) ∈ gw_tbl := gw_at 1132 (by decide +kernel) rfl
theorem tw_1137 : Cond.methodLink RX12 101 yX12_counts ∈ gw_tbl := gw_at 1137 (by decide +kernel) rfl
theorem tw_1139 : Cond.instanceMethod yX12_counts ∈ gw_tbl := gw_at 1139 (by decide +kernel) rfl
theorem tw_1140 : Cond.code yX12_counts cX12_counts 4 (some .int) ∈ gw_tbl := gw_at 1140 (by decide +kernel) rfl
theorem tw_1145 : Cond.methodLink RX12 104 yX12_right ∈ gw_tbl := gw_at 1145 (by decide +kernel) rfl
theorem tw_1147 : Cond.instanceMethod yX12_right ∈ gw_tbl := gw_at 1147 (by decide +kernel) rfl
theorem tw_1148 : Cond.code yX12_right cX12_right 2 (some .int) ∈ gw_tbl := gw_at 1148 (by decide +kernel) rfl
theorem tw_1149 : Cond.methodLink RX12 107 yX12_worked ∈ gw_tbl := gw_at 1149 (by decide +kernel) rfl
theorem tw_1151 : Cond.instanceMethod yX12_worked ∈ gw_tbl := gw_at 1151 (by decide +kernel) rfl
theorem tw_1152 : Cond.code yX12_worked cX12_worked 6 (some .int) ∈ gw_tbl := gw_at 1152 (by decide +kernel) rfl
set_option maxRecDepth 20000 in
theorem m_Mo_hears (l : Launch) : sv_M l yX12_hears cX12_hears 3 (some .boolean) (sv_gI n_Mo_hears) 3 := by
  refine sv_mZ (E := ev_Mo_hears) (by decide +kernel) (ln_gen fk_12 kk_12 (sv_ns _ (fun _ => rfl) _)) rfl ?_ a_Mo_hears b_Mo_hears
  intro p e R s m args below meth c cells slots Q base ad dC dI cA n0 S hkn hR hf pc n f hcs
  refine sv_lk_all (P := fun pc (x : Nat × sv_F) => sv_cok p l e R s m args below meth c cells slots Q base ad dC dI cA true 3 n0 pc x.1 x.2) ?_ pc (n, f) hcs
  exact List.forall_mem_cons.mpr ⟨(sv_cV S hkn (m_Mo_of l) ⟨Nat.le_trans (by decide) hR.1, Nat.le_trans (by decide) hR.2⟩ (by decide) hf rfl (g_Mo_of) (sv_w5 tw_1120 tw_1122 tw_10 tw_65 tw_1123) (by decide +kernel) (sv_dc3 d_Mo_hears (pc := 3) rfl rfl)).I,
      List.forall_mem_cons.mpr ⟨(sv_cV S hkn (m_Mo_left l) ⟨Nat.le_trans (by decide) hR.1, Nat.le_trans (by decide) hR.2⟩ (by decide) hf rfl (g_Mo_left) (sv_w5 tw_1129 tw_1131 tw_12 tw_65 tw_1132) (by decide +kernel) (sv_dc3 d_Mo_hears (pc := 12) rfl rfl)).I,
      List.forall_mem_cons.mpr ⟨(sv_cV S hkn (m_Mo_counts l) ⟨Nat.le_trans (by decide) hR.1, Nat.le_trans (by decide) hR.2⟩ (by decide) hf rfl (g_Mo_counts) (sv_w5 tw_1137 tw_1139 tw_14 tw_65 tw_1140) (by decide +kernel) (sv_dc3 d_Mo_hears (pc := 26) rfl rfl)).I,
      List.forall_mem_cons.mpr ⟨(sv_cV S hkn (m_Mo_left l) ⟨Nat.le_trans (by decide) hR.1, Nat.le_trans (by decide) hR.2⟩ (by decide) hf rfl (g_Mo_left) (sv_w5 tw_1129 tw_1131 tw_12 tw_65 tw_1132) (by decide +kernel) (sv_dc3 d_Mo_hears (pc := 36) rfl rfl)).I,
      List.forall_mem_cons.mpr ⟨(sv_cV S hkn (m_Mo_right l) ⟨Nat.le_trans (by decide) hR.1, Nat.le_trans (by decide) hR.2⟩ (by decide) hf rfl (g_Mo_right) (sv_w5 tw_1145 tw_1147 tw_16 tw_65 tw_1148) (by decide +kernel) (sv_dc3 d_Mo_hears (pc := 44) rfl rfl)).I,
      List.forall_mem_cons.mpr ⟨(sv_cV S hkn (m_Mo_left l) ⟨Nat.le_trans (by decide) hR.1, Nat.le_trans (by decide) hR.2⟩ (by decide) hf rfl (g_Mo_left) (sv_w5 tw_1129 tw_1131 tw_12 tw_65 tw_1132) (by decide +kernel) (sv_dc3 d_Mo_hears (pc := 64) rfl rfl)).I,
      List.forall_mem_cons.mpr ⟨(sv_cV S hkn (m_Mo_right l) ⟨Nat.le_trans (by decide) hR.1, Nat.le_trans (by decide) hR.2⟩ (by decide) hf rfl (g_Mo_right) (sv_w5 tw_1145 tw_1147 tw_16 tw_65 tw_1148) (by decide +kernel) (sv_dc3 d_Mo_hears (pc := 76) rfl rfl)).I,
      List.forall_mem_cons.mpr ⟨(sv_cV S hkn (m_Mo_worked l) ⟨Nat.le_trans (by decide) hR.1, Nat.le_trans (by decide) hR.2⟩ (by decide) hf rfl (g_Mo_worked) (sv_w5 tw_1149 tw_1151 tw_17 tw_65 tw_1152) (by decide +kernel) (sv_dc3 d_Mo_hears (pc := 90) rfl rfl)).I,
      fun _ h => absurd h List.not_mem_nil⟩⟩⟩⟩⟩⟩⟩⟩
noncomputable def f_Mo_wakes_63 (x1 : Int32) (x2 : Int32) (σ : sv_S) : Option (Int32 × sv_S) :=
    sv_b (f_Mo_of x1 (0 : Int32) σ) (fun v1 σ2 =>
      sv_if (v1.toInt = 2)
        (sv_b (f_Mo_held (x2 + (1 : Int32)) (1 : Int32) (9 : Int32) σ2) (fun v3 σ4 =>
          some (v3, σ4)))
        (sv_if (v1.toInt = 3)
        (sv_b (f_Mo_held (x2 - (1 : Int32)) (1 : Int32) (9 : Int32) σ2) (fun v5 σ6 =>
          some (v5, σ6)))
        (sv_if (v1.toInt = 4)
        (sv_b (f_Mo_held (x2 + (1 : Int32)) (1 : Int32) (9 : Int32) σ2) (fun v7 σ8 =>
          some (v7, σ8)))
        (some (x2, σ2)))))
noncomputable def f_Mo_wakes (a1 : Int32) (σ : sv_S) : Option (Int32 × sv_S) :=
  sv_b (f_Mo_of a1 (1 : Int32) σ) (fun v1 σ2 =>
    sv_b (f_Mo_counts (1 : Int32) σ2) (fun v3 σ4 =>
      sv_if (v3 < 0)
        (f_Mo_wakes_63 a1 v1 σ4)
        (sv_b (f_Mo_of a1 (1 : Int32) σ4) (fun v5 σ6 =>
          sv_g (sv_in (115 : Int32) 128) (sv_g (sv_in (110 : Int32) 128) (sv_g (sv_in (3 : Int32) 3086) (sv_g (sv_in (98 : Int32) 128) (sv_b (f_Mo_worked v3 (sv_up (sv_up (sv_up σ6 31 28 ((115 : Int32).toNatClampNeg) v5) 31 28 ((110 : Int32).toNatClampNeg) a1) 31 28 ((98 : Int32).toNatClampNeg) ((sv_up (sv_up σ6 31 28 ((115 : Int32).toNatClampNeg) v5) 31 28 ((110 : Int32).toNatClampNeg) a1) 31 0 ((3 : Int32).toNatClampNeg)))) (fun v7 σ8 =>
            sv_b (f_Mo_held v7 (1 : Int32) (9 : Int32) σ8) (fun v9 σ10 =>
              f_Mo_wakes_63 a1 v9 σ10))))))))))
noncomputable def n_Mo_wakes : List sv_V → sv_S → Option (Int32 × sv_S)
  | [.inr (.inr (some (30, 0))), .inl a1], σ => f_Mo_wakes a1 σ
  | _, _ => none
def cd_Mo_wakes : sv_C := [(0, (.aload_n 0, (sv_N, (1, (0, []))))), (1, (.iload_n 1, (sv_N, (2, (0, []))))), (2, (.iconst 1, (.inl (1 : Int32), (3, (0, []))))), (3, (.invokevirtual 90, (sv_N, (6, (0, []))))), (6, (.istore_n 2, (sv_N, (7, (0, []))))), (7, (.aload_n 0, (sv_N, (8, (0, []))))), (8, (.iconst 1, (.inl (1 : Int32), (9, (0, []))))), (9, (.invokevirtual 101, (sv_N, (12, (0, []))))), (12, (.istore_n 3, (sv_N, (13, (0, []))))), (13, (.iload_n 3, (sv_N, (14, (0, []))))), (14, (.ifCond .lt 49, (sv_N, (17, (63, []))))), (17, (.aload_n 0, (sv_N, (18, (0, []))))), (18, (.getfield 55, (sv_N, (21, (0, []))))), (21, (.bipush 115, (.inl (115 : Int32), (23, (0, []))))), (23, (.aload_n 0, (sv_N, (24, (0, []))))), (24, (.iload_n 1, (sv_N, (25, (0, []))))), (25, (.iconst 1, (.inl (1 : Int32), (26, (0, []))))), (26, (.invokevirtual 90, (sv_N, (29, (0, []))))), (29, (.iastore, (sv_N, (30, (0, []))))), (30, (.aload_n 0, (sv_N, (31, (0, []))))), (31, (.getfield 55, (sv_N, (34, (0, []))))), (34, (.bipush 110, (.inl (110 : Int32), (36, (0, []))))), (36, (.iload_n 1, (sv_N, (37, (0, []))))), (37, (.iastore, (sv_N, (38, (0, []))))), (38, (.aload_n 0, (sv_N, (39, (0, []))))), (39, (.getfield 55, (sv_N, (42, (0, []))))), (42, (.bipush 98, (.inl (98 : Int32), (44, (0, []))))), (44, (.aload_n 0, (sv_N, (45, (0, []))))), (45, (.getfield 7, (sv_N, (48, (0, []))))), (48, (.iconst 3, (.inl (3 : Int32), (49, (0, []))))), (49, (.iaload, (sv_N, (50, (0, []))))), (50, (.iastore, (sv_N, (51, (0, []))))), (51, (.aload_n 0, (sv_N, (52, (0, []))))), (52, (.iload_n 3, (sv_N, (53, (0, []))))), (53, (.invokevirtual 107, (sv_N, (56, (0, []))))), (56, (.iconst 1, (.inl (1 : Int32), (57, (0, []))))), (57, (.bipush 9, (.inl (9 : Int32), (59, (0, []))))), (59, (.invokestatic 110, (sv_N, (62, (0, []))))), (62, (.istore_n 2, (sv_N, (63, (0, []))))), (63, (.aload_n 0, (sv_N, (64, (0, []))))), (64, (.iload_n 1, (sv_N, (65, (0, []))))), (65, (.iconst 0, (.inl (0 : Int32), (66, (0, []))))), (66, (.invokevirtual 90, (sv_N, (69, (0, []))))), (69, (.tableswitch 47 2 4 #[37, 27, 37], (sv_N, (69, (116, [(2, 106), (3, 96), (4, 106)]))))), (96, (.iload_n 2, (sv_N, (97, (0, []))))), (97, (.iconst 1, (.inl (1 : Int32), (98, (0, []))))), (98, (.isub, (sv_N, (99, (0, []))))), (99, (.iconst 1, (.inl (1 : Int32), (100, (0, []))))), (100, (.bipush 9, (.inl (9 : Int32), (102, (0, []))))), (102, (.invokestatic 110, (sv_N, (105, (0, []))))), (105, (.ireturn, (sv_N, (106, (0, []))))), (106, (.iload_n 2, (sv_N, (107, (0, []))))), (107, (.iconst 1, (.inl (1 : Int32), (108, (0, []))))), (108, (.iadd, (sv_N, (109, (0, []))))), (109, (.iconst 1, (.inl (1 : Int32), (110, (0, []))))), (110, (.bipush 9, (.inl (9 : Int32), (112, (0, []))))), (112, (.invokestatic 110, (sv_N, (115, (0, []))))), (115, (.ireturn, (sv_N, (116, (0, []))))), (116, (.iload_n 2, (sv_N, (117, (0, []))))), (117, (.ireturn, (sv_N, (118, (0, [])))))]
noncomputable def ev_Mo_wakes : sv_E := (fun i => sv_lk i fl_12, (fun i => sv_lk i kc_12, (fun _ => 0, (true, (fun pc => sv_lk pc [(3, (3, .inl n_Mo_of)), (9, (2, .inl n_Mo_counts)), (26, (3, .inl n_Mo_of)), (53, (2, .inl n_Mo_worked)), (59, (3, .inl n_Mo_held)), (66, (3, .inl n_Mo_of)), (102, (3, .inl n_Mo_held)), (112, (3, .inl n_Mo_held))], none)))))
noncomputable def kk_Mo_wakes_63 : sv_K (Int32 × sv_S) := fun pc => sv_lk pc []
set_option maxRecDepth 20000 in
theorem e_Mo_wakes_63 (x1 : Int32) (x2 : Int32) (z3 : Option sv_V) (σ : sv_S) : sv_ex ev_Mo_wakes sv_rI (kk_Mo_wakes_63) cd_Mo_wakes 62 63 [some (.inr (.inr (some (30, 0)))), some (.inl x1), some (.inl x2), z3] [] σ = f_Mo_wakes_63 x1 x2 σ := by
  unfold f_Mo_wakes_63
  delta ev_Mo_wakes kk_Mo_wakes_63 n_Mo_of n_Mo_counts n_Mo_worked n_Mo_held
  generalize f_Mo_of = c0
  generalize f_Mo_counts = c1
  generalize f_Mo_worked = c2
  generalize f_Mo_held = c3
  rfl
noncomputable def kk_Mo_wakes : sv_K (Int32 × sv_S) := fun pc => sv_lk pc [(63, fun lo st σ => match lo, st with
    | [some (.inr (.inr (some (30, 0)))), some (.inl x1), some (.inl x2), _], [] => f_Mo_wakes_63 x1 x2 σ
    | _, _ => none)]
set_option maxRecDepth 20000 in
theorem e_Mo_wakes (a1 : Int32) (σ : sv_S) : sv_ex ev_Mo_wakes sv_rI kk_Mo_wakes cd_Mo_wakes 62 0 [some (.inr (.inr (some (30, 0)))), some (.inl a1), none, none] [] σ = f_Mo_wakes a1 σ := by
  unfold f_Mo_wakes
  delta ev_Mo_wakes kk_Mo_wakes n_Mo_of n_Mo_counts n_Mo_worked n_Mo_held
  generalize f_Mo_of = c0
  generalize f_Mo_counts = c1
  generalize f_Mo_worked = c2
  generalize f_Mo_held = c3
  generalize f_Mo_wakes_63 = c4
  rfl
theorem d_Mo_wakes : cd_Mo_wakes.all (sv_dk cX12_wakes) = true := by decide +kernel
set_option maxRecDepth 20000 in
theorem w_Mo_wakes_63 {Γ : sv_Ga} {res : Int32 × sv_S} (X : sv_Ok Γ ev_Mo_wakes cX12_wakes sv_rI res) : ∀ (x1 : Int32) (x2 : Int32) (z3 : Option sv_V) (σ : sv_S), f_Mo_wakes_63 x1 x2 σ = some res → sv_T Γ 63 [some (.inr (.inr (some (30, 0)))), some (.inl x1), some (.inl x2), z3] [] σ := by
  intro x1 x2 z3 σ h
  refine sv_run X d_Mo_wakes (K := kk_Mo_wakes_63) (sv_lk_all (P := fun pc (k : sv_Lo → List sv_V → sv_S → Option (Int32 × sv_S)) => ∀ lo st σ, k lo st σ = some res → sv_T Γ pc lo st σ) ?_) _ _ _ _ _ ((e_Mo_wakes_63 x1 x2 z3 σ).trans h)
  clear h
  exact fun _ h => absurd h List.not_mem_nil

set_option maxRecDepth 20000 in
theorem b_Mo_wakes (Γ : sv_Ga) (res : Int32 × sv_S) (X : sv_Ok Γ ev_Mo_wakes cX12_wakes sv_rI res) (as : List sv_V) (σ : sv_S) (h : n_Mo_wakes as σ = some res) : sv_T Γ 0 (sv_e0 4 as) [] σ := by
  unfold n_Mo_wakes at h
  split at h
  · refine sv_run X d_Mo_wakes (K := kk_Mo_wakes) (sv_lk_all (P := fun pc (k : sv_Lo → List sv_V → sv_S → Option (Int32 × sv_S)) => ∀ lo st σ, k lo st σ = some res → sv_T Γ pc lo st σ) ?_) _ _ _ _ _ ((e_Mo_wakes _ _).trans h)
    clear h
    refine List.forall_mem_cons.mpr ⟨fun lo st σ h => ?_, fun _ h => absurd h List.not_mem_nil⟩
    · dsimp only at h
      split at h
      · exact w_Mo_wakes_63 X _ _ _ _ h
      · cases h
  · cases h
theorem a_Mo_wakes (as : List sv_V) (σ : sv_S) (x : Int32 × sv_S) (h : n_Mo_wakes as σ = some x) : sv_args 4 ev_Mo_wakes.2.2.2.1 as := by
  unfold n_Mo_wakes at h
  split at h
  · exact ⟨Nat.le_of_ble_eq_true rfl, fun _ v hv => by
      simp only [List.mem_cons, List.not_mem_nil, or_false] at hv
      rcases hv with rfl | rfl <;> trivial⟩
  · cases h
theorem g_Mo_wakes (as : List sv_V) (σ : sv_S) (x : Option sv_V × sv_S) (h : sv_gI n_Mo_wakes as σ = some x) : ∃ r i as', as = sv_R r i :: as' ∧ sv_kd r i = .inl 12 := by
  obtain ⟨_, _, h, -⟩ := sv_b_some h
  unfold n_Mo_wakes at h
  split at h
  · exact ⟨_, _, _, rfl, rfl⟩
  · cases h
theorem tw_1160 : Cond.methodLink RX12 110 yX12_held ∈ gw_tbl := gw_at 1160 (by decide +kernel) rfl
theorem tw_1161 : Cond.static yX12_held ∈ gw_tbl := gw_at 1161 (by decide +kernel) rfl
theorem tw_1162 : Cond.code yX12_held cX12_held 3 (some .int) ∈ gw_tbl := gw_at 1162 (by decide +kernel) rfl
set_option maxRecDepth 20000 in
theorem m_Mo_wakes (l : Launch) : sv_M l yX12_wakes cX12_wakes 4 (some .int) (sv_gI n_Mo_wakes) 2 := by
  refine sv_mI (E := ev_Mo_wakes) (by decide +kernel) (ln_gen fk_12 kk_12 (sv_ns _ (fun _ => rfl) _)) rfl ?_ a_Mo_wakes b_Mo_wakes
  intro p e R s m args below meth c cells slots Q base ad dC dI cA n0 S hkn hR hf pc n f hcs
  refine sv_lk_all (P := fun pc (x : Nat × sv_F) => sv_cok p l e R s m args below meth c cells slots Q base ad dC dI cA true 4 n0 pc x.1 x.2) ?_ pc (n, f) hcs
  exact List.forall_mem_cons.mpr ⟨(sv_cV S hkn (m_Mo_of l) ⟨Nat.le_trans (by decide) hR.1, Nat.le_trans (by decide) hR.2⟩ (by decide) hf rfl (g_Mo_of) (sv_w5 tw_1120 tw_1122 tw_10 tw_65 tw_1123) (by decide +kernel) (sv_dc3 d_Mo_wakes (pc := 3) rfl rfl)).I,
      List.forall_mem_cons.mpr ⟨(sv_cV S hkn (m_Mo_counts l) ⟨Nat.le_trans (by decide) hR.1, Nat.le_trans (by decide) hR.2⟩ (by decide) hf rfl (g_Mo_counts) (sv_w5 tw_1137 tw_1139 tw_14 tw_65 tw_1140) (by decide +kernel) (sv_dc3 d_Mo_wakes (pc := 9) rfl rfl)).I,
      List.forall_mem_cons.mpr ⟨(sv_cV S hkn (m_Mo_of l) ⟨Nat.le_trans (by decide) hR.1, Nat.le_trans (by decide) hR.2⟩ (by decide) hf rfl (g_Mo_of) (sv_w5 tw_1120 tw_1122 tw_10 tw_65 tw_1123) (by decide +kernel) (sv_dc3 d_Mo_wakes (pc := 26) rfl rfl)).I,
      List.forall_mem_cons.mpr ⟨(sv_cV S hkn (m_Mo_worked l) ⟨Nat.le_trans (by decide) hR.1, Nat.le_trans (by decide) hR.2⟩ (by decide) hf rfl (g_Mo_worked) (sv_w5 tw_1149 tw_1151 tw_17 tw_65 tw_1152) (by decide +kernel) (sv_dc3 d_Mo_wakes (pc := 53) rfl rfl)).I,
      List.forall_mem_cons.mpr ⟨(sv_cS S hkn (m_Mo_held l) ⟨Nat.le_trans (by decide) hR.1, Nat.le_trans (by decide) hR.2⟩ (by decide) hf (sv_w4 tw_1160 tw_1161 tw_65 tw_1162) (by decide +kernel) (sv_dc3 d_Mo_wakes (pc := 59) rfl rfl)).I,
      List.forall_mem_cons.mpr ⟨(sv_cV S hkn (m_Mo_of l) ⟨Nat.le_trans (by decide) hR.1, Nat.le_trans (by decide) hR.2⟩ (by decide) hf rfl (g_Mo_of) (sv_w5 tw_1120 tw_1122 tw_10 tw_65 tw_1123) (by decide +kernel) (sv_dc3 d_Mo_wakes (pc := 66) rfl rfl)).I,
      List.forall_mem_cons.mpr ⟨(sv_cS S hkn (m_Mo_held l) ⟨Nat.le_trans (by decide) hR.1, Nat.le_trans (by decide) hR.2⟩ (by decide) hf (sv_w4 tw_1160 tw_1161 tw_65 tw_1162) (by decide +kernel) (sv_dc3 d_Mo_wakes (pc := 102) rfl rfl)).I,
      List.forall_mem_cons.mpr ⟨(sv_cS S hkn (m_Mo_held l) ⟨Nat.le_trans (by decide) hR.1, Nat.le_trans (by decide) hR.2⟩ (by decide) hf (sv_w4 tw_1160 tw_1161 tw_65 tw_1162) (by decide +kernel) (sv_dc3 d_Mo_wakes (pc := 112) rfl rfl)).I,
      fun _ h => absurd h List.not_mem_nil⟩⟩⟩⟩⟩⟩⟩⟩
noncomputable def f_Mo_stepFrom_35 (x2 : Int32) (x3 : Int32) (σ : sv_S) : Option (Int32 × sv_S) :=
    sv_if (x2 = (9 : Int32))
      (some ((0 : Int32), σ))
      (sv_if (x2 = (8 : Int32))
        (sv_if (x3 = (4 : Int32))
          (some ((0 : Int32), σ))
          (some (x2 + (1 : Int32), σ)))
        (some (x2 + (1 : Int32), σ)))
noncomputable def f_Mo_stepFrom_21 (x2 : Int32) (x3 : Int32) (σ : sv_S) : Option (Int32 × sv_S) :=
    sv_g (sv_in (3 : Int32) 3086) (sv_g (¬ (4 : Int32) = 0) (sv_if (((σ 31 0 ((3 : Int32).toNatClampNeg)) - (σ 31 0 ((3 : Int32).toNatClampNeg)) / (4 : Int32) * (4 : Int32)) = (3 : Int32))
      (some (x2, σ))
      (f_Mo_stepFrom_35 x2 x3 σ)))
noncomputable def f_Mo_stepFrom (a1 : Int32) (a2 : Int32) (σ : sv_S) : Option (Int32 × sv_S) :=
  sv_b (f_Mo_of a1 (0 : Int32) σ) (fun v1 σ2 =>
    sv_if (a2 = 0)
      (some (a2, σ2))
      (sv_if (v1 = (1 : Int32))
        (f_Mo_stepFrom_21 a2 v1 σ2)
        (sv_if (v1 = (3 : Int32))
          (f_Mo_stepFrom_21 a2 v1 σ2)
          (f_Mo_stepFrom_35 a2 v1 σ2))))
noncomputable def n_Mo_stepFrom : List sv_V → sv_S → Option (Int32 × sv_S)
  | [.inr (.inr (some (30, 0))), .inl a1, .inl a2], σ => f_Mo_stepFrom a1 a2 σ
  | _, _ => none
def cd_Mo_stepFrom : sv_C := [(0, (.aload_n 0, (sv_N, (1, (0, []))))), (1, (.iload_n 1, (sv_N, (2, (0, []))))), (2, (.iconst 0, (.inl (0 : Int32), (3, (0, []))))), (3, (.invokevirtual 90, (sv_N, (6, (0, []))))), (6, (.istore_n 3, (sv_N, (7, (0, []))))), (7, (.iload_n 2, (sv_N, (8, (0, []))))), (8, (.ifCond .eq 25, (sv_N, (11, (33, []))))), (11, (.iload_n 3, (sv_N, (12, (0, []))))), (12, (.iconst 1, (.inl (1 : Int32), (13, (0, []))))), (13, (.if_icmp .eq 8, (sv_N, (16, (21, []))))), (16, (.iload_n 3, (sv_N, (17, (0, []))))), (17, (.iconst 3, (.inl (3 : Int32), (18, (0, []))))), (18, (.if_icmp .ne 17, (sv_N, (21, (35, []))))), (21, (.aload_n 0, (sv_N, (22, (0, []))))), (22, (.getfield 7, (sv_N, (25, (0, []))))), (25, (.iconst 3, (.inl (3 : Int32), (26, (0, []))))), (26, (.iaload, (sv_N, (27, (0, []))))), (27, (.iconst 4, (.inl (4 : Int32), (28, (0, []))))), (28, (.irem, (sv_N, (29, (0, []))))), (29, (.iconst 3, (.inl (3 : Int32), (30, (0, []))))), (30, (.if_icmp .ne 5, (sv_N, (33, (35, []))))), (33, (.iload_n 2, (sv_N, (34, (0, []))))), (34, (.ireturn, (sv_N, (35, (0, []))))), (35, (.iload_n 2, (sv_N, (36, (0, []))))), (36, (.bipush 9, (.inl (9 : Int32), (38, (0, []))))), (38, (.if_icmp .eq 14, (sv_N, (41, (52, []))))), (41, (.iload_n 2, (sv_N, (42, (0, []))))), (42, (.bipush 8, (.inl (8 : Int32), (44, (0, []))))), (44, (.if_icmp .ne 12, (sv_N, (47, (56, []))))), (47, (.iload_n 3, (sv_N, (48, (0, []))))), (48, (.iconst 4, (.inl (4 : Int32), (49, (0, []))))), (49, (.if_icmp .ne 7, (sv_N, (52, (56, []))))), (52, (.iconst 0, (.inl (0 : Int32), (53, (0, []))))), (53, (.goto 6, (sv_N, (56, (59, []))))), (56, (.iload_n 2, (sv_N, (57, (0, []))))), (57, (.iconst 1, (.inl (1 : Int32), (58, (0, []))))), (58, (.iadd, (sv_N, (59, (0, []))))), (59, (.ireturn, (sv_N, (60, (0, [])))))]
noncomputable def ev_Mo_stepFrom : sv_E := (fun i => sv_lk i fl_12, (fun i => sv_lk i kc_12, (fun _ => 0, (true, (fun pc => sv_lk pc [(3, (3, .inl n_Mo_of))], none)))))
noncomputable def kk_Mo_stepFrom_35 : sv_K (Int32 × sv_S) := fun pc => sv_lk pc []
set_option maxRecDepth 20000 in
theorem e_Mo_stepFrom_35 (x2 : Int32) (x3 : Int32) (z0 z1 : Option sv_V) (σ : sv_S) : sv_ex ev_Mo_stepFrom sv_rI (kk_Mo_stepFrom_35) cd_Mo_stepFrom 40 35 [z0, z1, some (.inl x2), some (.inl x3)] [] σ = f_Mo_stepFrom_35 x2 x3 σ := by
  unfold f_Mo_stepFrom_35
  delta ev_Mo_stepFrom kk_Mo_stepFrom_35 n_Mo_of
  generalize f_Mo_of = c0
  rfl
noncomputable def kk_Mo_stepFrom_21 : sv_K (Int32 × sv_S) := fun pc => sv_lk pc [(35, fun lo st σ => match lo, st with
    | [_, _, some (.inl x2), some (.inl x3)], [] => f_Mo_stepFrom_35 x2 x3 σ
    | _, _ => none)]
set_option maxRecDepth 20000 in
theorem e_Mo_stepFrom_21 (x2 : Int32) (x3 : Int32) (z1 : Option sv_V) (σ : sv_S) : sv_ex ev_Mo_stepFrom sv_rI (kk_Mo_stepFrom_21) cd_Mo_stepFrom 40 21 [some (.inr (.inr (some (30, 0)))), z1, some (.inl x2), some (.inl x3)] [] σ = f_Mo_stepFrom_21 x2 x3 σ := by
  unfold f_Mo_stepFrom_21
  delta ev_Mo_stepFrom kk_Mo_stepFrom_21 n_Mo_of
  generalize f_Mo_of = c0
  generalize f_Mo_stepFrom_35 = c1
  rfl
noncomputable def kk_Mo_stepFrom : sv_K (Int32 × sv_S) := fun pc => sv_lk pc [(21, fun lo st σ => match lo, st with
    | [some (.inr (.inr (some (30, 0)))), _, some (.inl x2), some (.inl x3)], [] => f_Mo_stepFrom_21 x2 x3 σ
    | _, _ => none),
  (35, fun lo st σ => match lo, st with
    | [_, _, some (.inl x2), some (.inl x3)], [] => f_Mo_stepFrom_35 x2 x3 σ
    | _, _ => none)]
set_option maxRecDepth 20000 in
theorem e_Mo_stepFrom (a1 : Int32) (a2 : Int32) (σ : sv_S) : sv_ex ev_Mo_stepFrom sv_rI kk_Mo_stepFrom cd_Mo_stepFrom 40 0 [some (.inr (.inr (some (30, 0)))), some (.inl a1), some (.inl a2), none] [] σ = f_Mo_stepFrom a1 a2 σ := by
  unfold f_Mo_stepFrom
  delta ev_Mo_stepFrom kk_Mo_stepFrom n_Mo_of
  generalize f_Mo_of = c0
  generalize f_Mo_stepFrom_21 = c1
  generalize f_Mo_stepFrom_35 = c2
  rfl
theorem d_Mo_stepFrom : cd_Mo_stepFrom.all (sv_dk cX12_stepFrom) = true := by decide +kernel
set_option maxRecDepth 20000 in
theorem w_Mo_stepFrom_35 {Γ : sv_Ga} {res : Int32 × sv_S} (X : sv_Ok Γ ev_Mo_stepFrom cX12_stepFrom sv_rI res) : ∀ (x2 : Int32) (x3 : Int32) (z0 z1 : Option sv_V) (σ : sv_S), f_Mo_stepFrom_35 x2 x3 σ = some res → sv_T Γ 35 [z0, z1, some (.inl x2), some (.inl x3)] [] σ := by
  intro x2 x3 z0 z1 σ h
  refine sv_run X d_Mo_stepFrom (K := kk_Mo_stepFrom_35) (sv_lk_all (P := fun pc (k : sv_Lo → List sv_V → sv_S → Option (Int32 × sv_S)) => ∀ lo st σ, k lo st σ = some res → sv_T Γ pc lo st σ) ?_) _ _ _ _ _ ((e_Mo_stepFrom_35 x2 x3 z0 z1 σ).trans h)
  clear h
  exact fun _ h => absurd h List.not_mem_nil

set_option maxRecDepth 20000 in
theorem w_Mo_stepFrom_21 {Γ : sv_Ga} {res : Int32 × sv_S} (X : sv_Ok Γ ev_Mo_stepFrom cX12_stepFrom sv_rI res) : ∀ (x2 : Int32) (x3 : Int32) (z1 : Option sv_V) (σ : sv_S), f_Mo_stepFrom_21 x2 x3 σ = some res → sv_T Γ 21 [some (.inr (.inr (some (30, 0)))), z1, some (.inl x2), some (.inl x3)] [] σ := by
  intro x2 x3 z1 σ h
  refine sv_run X d_Mo_stepFrom (K := kk_Mo_stepFrom_21) (sv_lk_all (P := fun pc (k : sv_Lo → List sv_V → sv_S → Option (Int32 × sv_S)) => ∀ lo st σ, k lo st σ = some res → sv_T Γ pc lo st σ) ?_) _ _ _ _ _ ((e_Mo_stepFrom_21 x2 x3 z1 σ).trans h)
  clear h
  refine List.forall_mem_cons.mpr ⟨fun lo st σ h => ?_, fun _ h => absurd h List.not_mem_nil⟩
  · dsimp only at h
    split at h
    · exact w_Mo_stepFrom_35 X _ _ _ _ _ h
    · cases h

set_option maxRecDepth 20000 in
theorem b_Mo_stepFrom (Γ : sv_Ga) (res : Int32 × sv_S) (X : sv_Ok Γ ev_Mo_stepFrom cX12_stepFrom sv_rI res) (as : List sv_V) (σ : sv_S) (h : n_Mo_stepFrom as σ = some res) : sv_T Γ 0 (sv_e0 4 as) [] σ := by
  unfold n_Mo_stepFrom at h
  split at h
  · refine sv_run X d_Mo_stepFrom (K := kk_Mo_stepFrom) (sv_lk_all (P := fun pc (k : sv_Lo → List sv_V → sv_S → Option (Int32 × sv_S)) => ∀ lo st σ, k lo st σ = some res → sv_T Γ pc lo st σ) ?_) _ _ _ _ _ ((e_Mo_stepFrom _ _ _).trans h)
    clear h
    refine List.forall_mem_cons.mpr ⟨fun lo st σ h => ?_, List.forall_mem_cons.mpr ⟨fun lo st σ h => ?_, fun _ h => absurd h List.not_mem_nil⟩⟩
    · dsimp only at h
      split at h
      · exact w_Mo_stepFrom_21 X _ _ _ _ h
      · cases h
    · dsimp only at h
      split at h
      · exact w_Mo_stepFrom_35 X _ _ _ _ _ h
      · cases h
  · cases h
theorem a_Mo_stepFrom (as : List sv_V) (σ : sv_S) (x : Int32 × sv_S) (h : n_Mo_stepFrom as σ = some x) : sv_args 4 ev_Mo_stepFrom.2.2.2.1 as := by
  unfold n_Mo_stepFrom at h
  split at h
  · exact ⟨Nat.le_of_ble_eq_true rfl, fun _ v hv => by
      simp only [List.mem_cons, List.not_mem_nil, or_false] at hv
      rcases hv with rfl | rfl | rfl <;> trivial⟩
  · cases h
theorem g_Mo_stepFrom (as : List sv_V) (σ : sv_S) (x : Option sv_V × sv_S) (h : sv_gI n_Mo_stepFrom as σ = some x) : ∃ r i as', as = sv_R r i :: as' ∧ sv_kd r i = .inl 12 := by
  obtain ⟨_, _, h, -⟩ := sv_b_some h
  unfold n_Mo_stepFrom at h
  split at h
  · exact ⟨_, _, _, rfl, rfl⟩
  · cases h

set_option maxRecDepth 20000 in
theorem m_Mo_stepFrom (l : Launch) : sv_M l yX12_stepFrom cX12_stepFrom 4 (some .int) (sv_gI n_Mo_stepFrom) 1 := by
  refine sv_mI (E := ev_Mo_stepFrom) (by decide +kernel) (ln_gen fk_12 kk_12 (sv_ns _ (fun _ => rfl) _)) rfl ?_ a_Mo_stepFrom b_Mo_stepFrom
  intro p e R s m args below meth c cells slots Q base ad dC dI cA n0 S hkn hR hf pc n f hcs
  refine sv_lk_all (P := fun pc (x : Nat × sv_F) => sv_cok p l e R s m args below meth c cells slots Q base ad dC dI cA true 4 n0 pc x.1 x.2) ?_ pc (n, f) hcs
  exact List.forall_mem_cons.mpr ⟨(sv_cV S hkn (m_Mo_of l) ⟨Nat.le_trans (by decide) hR.1, Nat.le_trans (by decide) hR.2⟩ (by decide) hf rfl (g_Mo_of) (sv_w5 tw_1120 tw_1122 tw_10 tw_65 tw_1123) (by decide +kernel) (sv_dc3 d_Mo_stepFrom (pc := 3) rfl rfl)).I,
      fun _ h => absurd h List.not_mem_nil⟩
noncomputable def f_Mo_worth (a1 : Int32) (σ : sv_S) : Option (Int32 × sv_S) :=
  sv_b (f_Mo_of a1 (1 : Int32) σ) (fun v1 σ2 =>
    sv_b (f_Mo_of a1 (0 : Int32) σ2) (fun v3 σ4 =>
      sv_if (v3.toInt = 1)
        (some (v1 + (4 : Int32), σ4))
        (sv_if (v3.toInt = 2)
        (some ((20 : Int32) - v1, σ4))
        (sv_if (v3.toInt = 3)
        (some ((2 : Int32) * (v1 + (4 : Int32)), σ4))
        (sv_if (v3.toInt = 4)
        (some ((15 : Int32) - v1, σ4))
        (sv_if (v3.toInt = 5)
        (some ((6 : Int32), σ4))
        (some (v1, σ4))))))))
noncomputable def n_Mo_worth : List sv_V → sv_S → Option (Int32 × sv_S)
  | [.inr (.inr (some (30, 0))), .inl a1], σ => f_Mo_worth a1 σ
  | _, _ => none
def cd_Mo_worth : sv_C := [(0, (.aload_n 0, (sv_N, (1, (0, []))))), (1, (.iload_n 1, (sv_N, (2, (0, []))))), (2, (.iconst 1, (.inl (1 : Int32), (3, (0, []))))), (3, (.invokevirtual 90, (sv_N, (6, (0, []))))), (6, (.istore_n 2, (sv_N, (7, (0, []))))), (7, (.aload_n 0, (sv_N, (8, (0, []))))), (8, (.iload_n 1, (sv_N, (9, (0, []))))), (9, (.iconst 0, (.inl (0 : Int32), (10, (0, []))))), (10, (.invokevirtual 90, (sv_N, (13, (0, []))))), (13, (.tableswitch 58 1 5 #[35, 39, 44, 50, 55], (sv_N, (13, (71, [(1, 48), (2, 52), (3, 57), (4, 63), (5, 68)]))))), (48, (.iload_n 2, (sv_N, (49, (0, []))))), (49, (.iconst 4, (.inl (4 : Int32), (50, (0, []))))), (50, (.iadd, (sv_N, (51, (0, []))))), (51, (.ireturn, (sv_N, (52, (0, []))))), (52, (.bipush 20, (.inl (20 : Int32), (54, (0, []))))), (54, (.iload_n 2, (sv_N, (55, (0, []))))), (55, (.isub, (sv_N, (56, (0, []))))), (56, (.ireturn, (sv_N, (57, (0, []))))), (57, (.iconst 2, (.inl (2 : Int32), (58, (0, []))))), (58, (.iload_n 2, (sv_N, (59, (0, []))))), (59, (.iconst 4, (.inl (4 : Int32), (60, (0, []))))), (60, (.iadd, (sv_N, (61, (0, []))))), (61, (.imul, (sv_N, (62, (0, []))))), (62, (.ireturn, (sv_N, (63, (0, []))))), (63, (.bipush 15, (.inl (15 : Int32), (65, (0, []))))), (65, (.iload_n 2, (sv_N, (66, (0, []))))), (66, (.isub, (sv_N, (67, (0, []))))), (67, (.ireturn, (sv_N, (68, (0, []))))), (68, (.bipush 6, (.inl (6 : Int32), (70, (0, []))))), (70, (.ireturn, (sv_N, (71, (0, []))))), (71, (.iload_n 2, (sv_N, (72, (0, []))))), (72, (.ireturn, (sv_N, (73, (0, [])))))]
noncomputable def ev_Mo_worth : sv_E := (fun i => sv_lk i fl_12, (fun i => sv_lk i kc_12, (fun _ => 0, (true, (fun pc => sv_lk pc [(3, (3, .inl n_Mo_of)), (10, (3, .inl n_Mo_of))], none)))))
noncomputable def kk_Mo_worth : sv_K (Int32 × sv_S) := fun pc => sv_lk pc []
set_option maxRecDepth 20000 in
theorem e_Mo_worth (a1 : Int32) (σ : sv_S) : sv_ex ev_Mo_worth sv_rI kk_Mo_worth cd_Mo_worth 34 0 [some (.inr (.inr (some (30, 0)))), some (.inl a1), none] [] σ = f_Mo_worth a1 σ := by
  unfold f_Mo_worth
  delta ev_Mo_worth kk_Mo_worth n_Mo_of
  generalize f_Mo_of = c0
  rfl
theorem d_Mo_worth : cd_Mo_worth.all (sv_dk cX12_worth) = true := by decide +kernel
set_option maxRecDepth 20000 in
theorem b_Mo_worth (Γ : sv_Ga) (res : Int32 × sv_S) (X : sv_Ok Γ ev_Mo_worth cX12_worth sv_rI res) (as : List sv_V) (σ : sv_S) (h : n_Mo_worth as σ = some res) : sv_T Γ 0 (sv_e0 3 as) [] σ := by
  unfold n_Mo_worth at h
  split at h
  · refine sv_run X d_Mo_worth (K := kk_Mo_worth) (sv_lk_all (P := fun pc (k : sv_Lo → List sv_V → sv_S → Option (Int32 × sv_S)) => ∀ lo st σ, k lo st σ = some res → sv_T Γ pc lo st σ) ?_) _ _ _ _ _ ((e_Mo_worth _ _).trans h)
    clear h
    exact fun _ h => absurd h List.not_mem_nil
  · cases h
theorem a_Mo_worth (as : List sv_V) (σ : sv_S) (x : Int32 × sv_S) (h : n_Mo_worth as σ = some x) : sv_args 3 ev_Mo_worth.2.2.2.1 as := by
  unfold n_Mo_worth at h
  split at h
  · exact ⟨Nat.le_of_ble_eq_true rfl, fun _ v hv => by
      simp only [List.mem_cons, List.not_mem_nil, or_false] at hv
      rcases hv with rfl | rfl <;> trivial⟩
  · cases h
theorem g_Mo_worth (as : List sv_V) (σ : sv_S) (x : Option sv_V × sv_S) (h : sv_gI n_Mo_worth as σ = some x) : ∃ r i as', as = sv_R r i :: as' ∧ sv_kd r i = .inl 12 := by
  obtain ⟨_, _, h, -⟩ := sv_b_some h
  unfold n_Mo_worth at h
  split at h
  · exact ⟨_, _, _, rfl, rfl⟩
  · cases h

set_option maxRecDepth 20000 in
theorem m_Mo_worth (l : Launch) : sv_M l yX12_worth cX12_worth 3 (some .int) (sv_gI n_Mo_worth) 1 := by
  refine sv_mI (E := ev_Mo_worth) (by decide +kernel) (ln_gen fk_12 kk_12 (sv_ns _ (fun _ => rfl) _)) rfl ?_ a_Mo_worth b_Mo_worth
  intro p e R s m args below meth c cells slots Q base ad dC dI cA n0 S hkn hR hf pc n f hcs
  refine sv_lk_all (P := fun pc (x : Nat × sv_F) => sv_cok p l e R s m args below meth c cells slots Q base ad dC dI cA true 3 n0 pc x.1 x.2) ?_ pc (n, f) hcs
  exact List.forall_mem_cons.mpr ⟨(sv_cV S hkn (m_Mo_of l) ⟨Nat.le_trans (by decide) hR.1, Nat.le_trans (by decide) hR.2⟩ (by decide) hf rfl (g_Mo_of) (sv_w5 tw_1120 tw_1122 tw_10 tw_65 tw_1123) (by decide +kernel) (sv_dc3 d_Mo_worth (pc := 3) rfl rfl)).I,
      List.forall_mem_cons.mpr ⟨(sv_cV S hkn (m_Mo_of l) ⟨Nat.le_trans (by decide) hR.1, Nat.le_trans (by decide) hR.2⟩ (by decide) hf rfl (g_Mo_of) (sv_w5 tw_1120 tw_1122 tw_10 tw_65 tw_1123) (by decide +kernel) (sv_dc3 d_Mo_worth (pc := 10) rfl rfl)).I,
      fun _ h => absurd h List.not_mem_nil⟩⟩
noncomputable def f_Mo_told (a1 : Int32) (a2 : Int32) (σ : sv_S) : Option (Int32 × sv_S) :=
  sv_b (f_Mo_isDrummer a1 σ) (fun v1 σ2 =>
    sv_if (v1 = 0)
      (some ((-1000000001 : Int32), σ2))
      (sv_if (a2.toInt = 0)
        (sv_b (f_Mo_of a1 a2 σ2) (fun v3 σ4 =>
          some (v3, σ4)))
        (sv_if (a2.toInt = 1)
        (sv_b (f_Mo_of a1 a2 σ2) (fun v5 σ6 =>
          some (v5, σ6)))
        (sv_if (a2.toInt = 2)
        (sv_b (f_Mo_of a1 a2 σ2) (fun v7 σ8 =>
          some (v7, σ8)))
        (sv_if (a2.toInt = 3)
        (sv_b (f_Mo_of a1 a2 σ2) (fun v9 σ10 =>
          some (v9, σ10)))
        (sv_if (a2.toInt = 4)
        (sv_b (f_Mo_of a1 a2 σ2) (fun v11 σ12 =>
          some (v11, σ12)))
        (sv_if (a2.toInt = 5)
        (sv_b (f_Mo_of a1 a2 σ2) (fun v13 σ14 =>
          some (v13, σ14)))
        (sv_if (a2.toInt = 6)
        (sv_b (f_Mo_of a1 (6 : Int32) σ2) (fun v15 σ16 =>
          sv_if (v15 = 0)
            (some ((-1000000005 : Int32), σ16))
            (sv_b (f_Mo_of a1 (6 : Int32) σ16) (fun v17 σ18 =>
              some (v17, σ18)))))
        (sv_if (a2.toInt = 7)
        (sv_b (f_Mo_of a1 a2 σ2) (fun v19 σ20 =>
          some (v19, σ20)))
        (sv_if (a2.toInt = 8)
        (sv_b (f_Mo_hears a1 σ2) (fun v21 σ22 =>
          sv_if (v21 = 0)
            (some ((0 : Int32), σ22))
            (some ((1 : Int32), σ22))))
        (sv_if (a2.toInt = 9)
        (sv_b (f_Mo_wakes a1 σ2) (fun v23 σ24 =>
          some (v23, σ24)))
        (sv_if (a2.toInt = 10)
        (sv_b (f_Mo_of a1 (2 : Int32) σ2) (fun v25 σ26 =>
          sv_b (f_Mo_stepFrom a1 v25 σ26) (fun v27 σ28 =>
            some (v27, σ28))))
        (sv_if (a2.toInt = 11)
        (sv_b (f_Mo_worth a1 σ2) (fun v29 σ30 =>
          some (v29, σ30)))
        (some ((-1000000001 : Int32), σ2)))))))))))))))
noncomputable def n_Mo_told : List sv_V → sv_S → Option (Int32 × sv_S)
  | [.inr (.inr (some (30, 0))), .inl a1, .inl a2], σ => f_Mo_told a1 a2 σ
  | _, _ => none
def cd_Mo_told : sv_C := [(0, (.aload_n 0, (sv_N, (1, (0, []))))), (1, (.iload_n 1, (sv_N, (2, (0, []))))), (2, (.invokevirtual 113, (sv_N, (5, (0, []))))), (5, (.ifCond .ne 6, (sv_N, (8, (11, []))))), (8, (.ldc 84, (sv_N, (10, (0, []))))), (10, (.ireturn, (sv_N, (11, (0, []))))), (11, (.iload_n 2, (sv_N, (12, (0, []))))), (12, (.tableswitch 132 0 11 #[64, 64, 64, 64, 64, 64, 71, 64, 94, 108, 114, 126], (sv_N, (12, (144, [(0, 76), (1, 76), (2, 76), (3, 76), (4, 76), (5, 76), (6, 83), (7, 76), (8, 106), (9, 120), (10, 126), (11, 138)]))))), (76, (.aload_n 0, (sv_N, (77, (0, []))))), (77, (.iload_n 1, (sv_N, (78, (0, []))))), (78, (.iload_n 2, (sv_N, (79, (0, []))))), (79, (.invokevirtual 90, (sv_N, (82, (0, []))))), (82, (.ireturn, (sv_N, (83, (0, []))))), (83, (.aload_n 0, (sv_N, (84, (0, []))))), (84, (.iload_n 1, (sv_N, (85, (0, []))))), (85, (.bipush 6, (.inl (6 : Int32), (87, (0, []))))), (87, (.invokevirtual 90, (sv_N, (90, (0, []))))), (90, (.ifCond .ne 8, (sv_N, (93, (98, []))))), (93, (.ldc 70, (sv_N, (95, (0, []))))), (95, (.goto 10, (sv_N, (98, (105, []))))), (98, (.aload_n 0, (sv_N, (99, (0, []))))), (99, (.iload_n 1, (sv_N, (100, (0, []))))), (100, (.bipush 6, (.inl (6 : Int32), (102, (0, []))))), (102, (.invokevirtual 90, (sv_N, (105, (0, []))))), (105, (.ireturn, (sv_N, (106, (0, []))))), (106, (.aload_n 0, (sv_N, (107, (0, []))))), (107, (.iload_n 1, (sv_N, (108, (0, []))))), (108, (.invokevirtual 117, (sv_N, (111, (0, []))))), (111, (.ifCond .eq 7, (sv_N, (114, (118, []))))), (114, (.iconst 1, (.inl (1 : Int32), (115, (0, []))))), (115, (.goto 4, (sv_N, (118, (119, []))))), (118, (.iconst 0, (.inl (0 : Int32), (119, (0, []))))), (119, (.ireturn, (sv_N, (120, (0, []))))), (120, (.aload_n 0, (sv_N, (121, (0, []))))), (121, (.iload_n 1, (sv_N, (122, (0, []))))), (122, (.invokevirtual 120, (sv_N, (125, (0, []))))), (125, (.ireturn, (sv_N, (126, (0, []))))), (126, (.aload_n 0, (sv_N, (127, (0, []))))), (127, (.iload_n 1, (sv_N, (128, (0, []))))), (128, (.aload_n 0, (sv_N, (129, (0, []))))), (129, (.iload_n 1, (sv_N, (130, (0, []))))), (130, (.iconst 2, (.inl (2 : Int32), (131, (0, []))))), (131, (.invokevirtual 90, (sv_N, (134, (0, []))))), (134, (.invokevirtual 123, (sv_N, (137, (0, []))))), (137, (.ireturn, (sv_N, (138, (0, []))))), (138, (.aload_n 0, (sv_N, (139, (0, []))))), (139, (.iload_n 1, (sv_N, (140, (0, []))))), (140, (.invokevirtual 126, (sv_N, (143, (0, []))))), (143, (.ireturn, (sv_N, (144, (0, []))))), (144, (.ldc 84, (sv_N, (146, (0, []))))), (146, (.ireturn, (sv_N, (147, (0, [])))))]
noncomputable def ev_Mo_told : sv_E := (fun i => sv_lk i fl_12, (fun i => sv_lk i kc_12, (fun _ => 0, (true, (fun pc => sv_lk pc [(2, (2, .inl n_Mo_isDrummer)), (79, (3, .inl n_Mo_of)), (87, (3, .inl n_Mo_of)), (102, (3, .inl n_Mo_of)), (108, (2, .inl n_Mo_hears)), (122, (2, .inl n_Mo_wakes)), (131, (3, .inl n_Mo_of)), (134, (3, .inl n_Mo_stepFrom)), (140, (2, .inl n_Mo_worth))], none)))))
noncomputable def kk_Mo_told : sv_K (Int32 × sv_S) := fun pc => sv_lk pc []
set_option maxRecDepth 20000 in
theorem e_Mo_told (a1 : Int32) (a2 : Int32) (σ : sv_S) : sv_ex ev_Mo_told sv_rI kk_Mo_told cd_Mo_told 53 0 [some (.inr (.inr (some (30, 0)))), some (.inl a1), some (.inl a2)] [] σ = f_Mo_told a1 a2 σ := by
  unfold f_Mo_told
  delta ev_Mo_told kk_Mo_told n_Mo_isDrummer n_Mo_of n_Mo_hears n_Mo_wakes n_Mo_stepFrom n_Mo_worth
  generalize f_Mo_isDrummer = c0
  generalize f_Mo_of = c1
  generalize f_Mo_hears = c2
  generalize f_Mo_wakes = c3
  generalize f_Mo_stepFrom = c4
  generalize f_Mo_worth = c5
  rfl
theorem d_Mo_told : cd_Mo_told.all (sv_dk cX12_told) = true := by decide +kernel
set_option maxRecDepth 20000 in
theorem b_Mo_told (Γ : sv_Ga) (res : Int32 × sv_S) (X : sv_Ok Γ ev_Mo_told cX12_told sv_rI res) (as : List sv_V) (σ : sv_S) (h : n_Mo_told as σ = some res) : sv_T Γ 0 (sv_e0 3 as) [] σ := by
  unfold n_Mo_told at h
  split at h
  · refine sv_run X d_Mo_told (K := kk_Mo_told) (sv_lk_all (P := fun pc (k : sv_Lo → List sv_V → sv_S → Option (Int32 × sv_S)) => ∀ lo st σ, k lo st σ = some res → sv_T Γ pc lo st σ) ?_) _ _ _ _ _ ((e_Mo_told _ _ _).trans h)
    clear h
    exact fun _ h => absurd h List.not_mem_nil
  · cases h
theorem a_Mo_told (as : List sv_V) (σ : sv_S) (x : Int32 × sv_S) (h : n_Mo_told as σ = some x) : sv_args 3 ev_Mo_told.2.2.2.1 as := by
  unfold n_Mo_told at h
  split at h
  · exact ⟨Nat.le_of_ble_eq_true rfl, fun _ v hv => by
      simp only [List.mem_cons, List.not_mem_nil, or_false] at hv
      rcases hv with rfl | rfl | rfl <;> trivial⟩
  · cases h
theorem g_Mo_told (as : List sv_V) (σ : sv_S) (x : Option sv_V × sv_S) (h : sv_gI n_Mo_told as σ = some x) : ∃ r i as', as = sv_R r i :: as' ∧ sv_kd r i = .inl 12 := by
  obtain ⟨_, _, h, -⟩ := sv_b_some h
  unfold n_Mo_told at h
  split at h
  · exact ⟨_, _, _, rfl, rfl⟩
  · cases h
theorem tw_9 : Cond.selects RX12 yX12_isDrummer yX12_isDrummer ∈ gw_tbl := gw_at 9 (by decide +kernel) rfl
theorem tw_11 : Cond.selects RX12 yX12_hears yX12_hears ∈ gw_tbl := gw_at 11 (by decide +kernel) rfl
theorem tw_18 : Cond.selects RX12 yX12_wakes yX12_wakes ∈ gw_tbl := gw_at 18 (by decide +kernel) rfl
theorem tw_19 : Cond.selects RX12 yX12_stepFrom yX12_stepFrom ∈ gw_tbl := gw_at 19 (by decide +kernel) rfl
theorem tw_20 : Cond.selects RX12 yX12_worth yX12_worth ∈ gw_tbl := gw_at 20 (by decide +kernel) rfl
theorem tw_1116 : Cond.methodLink RX12 113 yX12_isDrummer ∈ gw_tbl := gw_at 1116 (by decide +kernel) rfl
theorem tw_1118 : Cond.instanceMethod yX12_isDrummer ∈ gw_tbl := gw_at 1118 (by decide +kernel) rfl
theorem tw_1119 : Cond.code yX12_isDrummer cX12_isDrummer 2 (some .boolean) ∈ gw_tbl := gw_at 1119 (by decide +kernel) rfl
theorem tw_1125 : Cond.methodLink RX12 117 yX12_hears ∈ gw_tbl := gw_at 1125 (by decide +kernel) rfl
theorem tw_1127 : Cond.instanceMethod yX12_hears ∈ gw_tbl := gw_at 1127 (by decide +kernel) rfl
theorem tw_1128 : Cond.code yX12_hears cX12_hears 3 (some .boolean) ∈ gw_tbl := gw_at 1128 (by decide +kernel) rfl
theorem tw_1156 : Cond.methodLink RX12 120 yX12_wakes ∈ gw_tbl := gw_at 1156 (by decide +kernel) rfl
theorem tw_1158 : Cond.instanceMethod yX12_wakes ∈ gw_tbl := gw_at 1158 (by decide +kernel) rfl
theorem tw_1159 : Cond.code yX12_wakes cX12_wakes 4 (some .int) ∈ gw_tbl := gw_at 1159 (by decide +kernel) rfl
theorem tw_1163 : Cond.methodLink RX12 123 yX12_stepFrom ∈ gw_tbl := gw_at 1163 (by decide +kernel) rfl
theorem tw_1165 : Cond.instanceMethod yX12_stepFrom ∈ gw_tbl := gw_at 1165 (by decide +kernel) rfl
theorem tw_1166 : Cond.code yX12_stepFrom cX12_stepFrom 4 (some .int) ∈ gw_tbl := gw_at 1166 (by decide +kernel) rfl
theorem tw_1167 : Cond.methodLink RX12 126 yX12_worth ∈ gw_tbl := gw_at 1167 (by decide +kernel) rfl
theorem tw_1169 : Cond.instanceMethod yX12_worth ∈ gw_tbl := gw_at 1169 (by decide +kernel) rfl
theorem tw_1170 : Cond.code yX12_worth cX12_worth 3 (some .int) ∈ gw_tbl := gw_at 1170 (by decide +kernel) rfl
set_option maxRecDepth 20000 in
theorem m_Mo_told (l : Launch) : sv_M l yX12_told cX12_told 3 (some .int) (sv_gI n_Mo_told) 4 := by
  refine sv_mI (E := ev_Mo_told) (by decide +kernel) (ln_gen fk_12 kk_12 (sv_ns _ (fun _ => rfl) _)) rfl ?_ a_Mo_told b_Mo_told
  intro p e R s m args below meth c cells slots Q base ad dC dI cA n0 S hkn hR hf pc n f hcs
  refine sv_lk_all (P := fun pc (x : Nat × sv_F) => sv_cok p l e R s m args below meth c cells slots Q base ad dC dI cA true 3 n0 pc x.1 x.2) ?_ pc (n, f) hcs
  exact List.forall_mem_cons.mpr ⟨(sv_cV S hkn (m_Mo_isDrummer l) ⟨Nat.le_trans (by decide) hR.1, Nat.le_trans (by decide) hR.2⟩ (by decide) hf rfl (g_Mo_isDrummer) (sv_w5 tw_1116 tw_1118 tw_9 tw_65 tw_1119) (by decide +kernel) (sv_dc3 d_Mo_told (pc := 2) rfl rfl)).I,
      List.forall_mem_cons.mpr ⟨(sv_cV S hkn (m_Mo_of l) ⟨Nat.le_trans (by decide) hR.1, Nat.le_trans (by decide) hR.2⟩ (by decide) hf rfl (g_Mo_of) (sv_w5 tw_1120 tw_1122 tw_10 tw_65 tw_1123) (by decide +kernel) (sv_dc3 d_Mo_told (pc := 79) rfl rfl)).I,
      List.forall_mem_cons.mpr ⟨(sv_cV S hkn (m_Mo_of l) ⟨Nat.le_trans (by decide) hR.1, Nat.le_trans (by decide) hR.2⟩ (by decide) hf rfl (g_Mo_of) (sv_w5 tw_1120 tw_1122 tw_10 tw_65 tw_1123) (by decide +kernel) (sv_dc3 d_Mo_told (pc := 87) rfl rfl)).I,
      List.forall_mem_cons.mpr ⟨(sv_cV S hkn (m_Mo_of l) ⟨Nat.le_trans (by decide) hR.1, Nat.le_trans (by decide) hR.2⟩ (by decide) hf rfl (g_Mo_of) (sv_w5 tw_1120 tw_1122 tw_10 tw_65 tw_1123) (by decide +kernel) (sv_dc3 d_Mo_told (pc := 102) rfl rfl)).I,
      List.forall_mem_cons.mpr ⟨(sv_cV S hkn (m_Mo_hears l) ⟨Nat.le_trans (by decide) hR.1, Nat.le_trans (by decide) hR.2⟩ (by decide) hf rfl (g_Mo_hears) (sv_w5 tw_1125 tw_1127 tw_11 tw_65 tw_1128) (by decide +kernel) (sv_dc3 d_Mo_told (pc := 108) rfl rfl)).I,
      List.forall_mem_cons.mpr ⟨(sv_cV S hkn (m_Mo_wakes l) ⟨Nat.le_trans (by decide) hR.1, Nat.le_trans (by decide) hR.2⟩ (by decide) hf rfl (g_Mo_wakes) (sv_w5 tw_1156 tw_1158 tw_18 tw_65 tw_1159) (by decide +kernel) (sv_dc3 d_Mo_told (pc := 122) rfl rfl)).I,
      List.forall_mem_cons.mpr ⟨(sv_cV S hkn (m_Mo_of l) ⟨Nat.le_trans (by decide) hR.1, Nat.le_trans (by decide) hR.2⟩ (by decide) hf rfl (g_Mo_of) (sv_w5 tw_1120 tw_1122 tw_10 tw_65 tw_1123) (by decide +kernel) (sv_dc3 d_Mo_told (pc := 131) rfl rfl)).I,
      List.forall_mem_cons.mpr ⟨(sv_cV S hkn (m_Mo_stepFrom l) ⟨Nat.le_trans (by decide) hR.1, Nat.le_trans (by decide) hR.2⟩ (by decide) hf rfl (g_Mo_stepFrom) (sv_w5 tw_1163 tw_1165 tw_19 tw_65 tw_1166) (by decide +kernel) (sv_dc3 d_Mo_told (pc := 134) rfl rfl)).I,
      List.forall_mem_cons.mpr ⟨(sv_cV S hkn (m_Mo_worth l) ⟨Nat.le_trans (by decide) hR.1, Nat.le_trans (by decide) hR.2⟩ (by decide) hf rfl (g_Mo_worth) (sv_w5 tw_1167 tw_1169 tw_20 tw_65 tw_1170) (by decide +kernel) (sv_dc3 d_Mo_told (pc := 140) rfl rfl)).I,
      fun _ h => absurd h List.not_mem_nil⟩⟩⟩⟩⟩⟩⟩⟩⟩
noncomputable def f_Mo_isOf_19 (x0 : Int32) (x1 : Int32) (σ : sv_S) : Option (Int32 × sv_S) :=
    sv_if (x1 = (2 : Int32))
      (sv_if (x0 = (4 : Int32))
        (sv_g ((1 : Int32) = 0 ∨ (1 : Int32) = 1) (some ((1 : Int32), σ)))
        (sv_g ((0 : Int32) = 0 ∨ (0 : Int32) = 1) (some ((0 : Int32), σ))))
      (sv_g ((0 : Int32) = 0 ∨ (0 : Int32) = 1) (some ((0 : Int32), σ)))
noncomputable def f_Mo_isOf (a0 : Int32) (a1 : Int32) (σ : sv_S) : Option (Int32 × sv_S) :=
  sv_if (a0 = a1)
    (sv_g ((1 : Int32) = 0 ∨ (1 : Int32) = 1) (some ((1 : Int32), σ)))
    (sv_if (a1 = 0)
      (sv_g ((1 : Int32) = 0 ∨ (1 : Int32) = 1) (some ((1 : Int32), σ)))
      (sv_if (a1 = (1 : Int32))
        (sv_if (a0 = (3 : Int32))
          (sv_g ((1 : Int32) = 0 ∨ (1 : Int32) = 1) (some ((1 : Int32), σ)))
          (f_Mo_isOf_19 a0 a1 σ))
        (f_Mo_isOf_19 a0 a1 σ)))
noncomputable def n_Mo_isOf : List sv_V → sv_S → Option (Int32 × sv_S)
  | [.inl a0, .inl a1], σ => f_Mo_isOf a0 a1 σ
  | _, _ => none
def cd_Mo_isOf : sv_C := [(0, (.iload_n 0, (sv_N, (1, (0, []))))), (1, (.iload_n 1, (sv_N, (2, (0, []))))), (2, (.if_icmp .eq 27, (sv_N, (5, (29, []))))), (5, (.iload_n 1, (sv_N, (6, (0, []))))), (6, (.ifCond .eq 23, (sv_N, (9, (29, []))))), (9, (.iload_n 1, (sv_N, (10, (0, []))))), (10, (.iconst 1, (.inl (1 : Int32), (11, (0, []))))), (11, (.if_icmp .ne 8, (sv_N, (14, (19, []))))), (14, (.iload_n 0, (sv_N, (15, (0, []))))), (15, (.iconst 3, (.inl (3 : Int32), (16, (0, []))))), (16, (.if_icmp .eq 13, (sv_N, (19, (29, []))))), (19, (.iload_n 1, (sv_N, (20, (0, []))))), (20, (.iconst 2, (.inl (2 : Int32), (21, (0, []))))), (21, (.if_icmp .ne 12, (sv_N, (24, (33, []))))), (24, (.iload_n 0, (sv_N, (25, (0, []))))), (25, (.iconst 4, (.inl (4 : Int32), (26, (0, []))))), (26, (.if_icmp .ne 7, (sv_N, (29, (33, []))))), (29, (.iconst 1, (.inl (1 : Int32), (30, (0, []))))), (30, (.goto 4, (sv_N, (33, (34, []))))), (33, (.iconst 0, (.inl (0 : Int32), (34, (0, []))))), (34, (.ireturn, (sv_N, (35, (0, [])))))]
noncomputable def ev_Mo_isOf : sv_E := (fun i => sv_lk i fl_12, (fun i => sv_lk i kc_12, (fun _ => 0, (true, (fun pc => sv_lk pc [], none)))))
noncomputable def kk_Mo_isOf_19 : sv_K (Int32 × sv_S) := fun pc => sv_lk pc []
set_option maxRecDepth 20000 in
theorem e_Mo_isOf_19 (x0 : Int32) (x1 : Int32) (σ : sv_S) : sv_ex ev_Mo_isOf sv_rZ (kk_Mo_isOf_19) cd_Mo_isOf 23 19 [some (.inl x0), some (.inl x1)] [] σ = f_Mo_isOf_19 x0 x1 σ := by
  unfold f_Mo_isOf_19
  delta ev_Mo_isOf kk_Mo_isOf_19
  rfl
noncomputable def kk_Mo_isOf : sv_K (Int32 × sv_S) := fun pc => sv_lk pc [(19, fun lo st σ => match lo, st with
    | [some (.inl x0), some (.inl x1)], [] => f_Mo_isOf_19 x0 x1 σ
    | _, _ => none)]
set_option maxRecDepth 20000 in
theorem e_Mo_isOf (a0 : Int32) (a1 : Int32) (σ : sv_S) : sv_ex ev_Mo_isOf sv_rZ kk_Mo_isOf cd_Mo_isOf 23 0 [some (.inl a0), some (.inl a1)] [] σ = f_Mo_isOf a0 a1 σ := by
  unfold f_Mo_isOf
  delta ev_Mo_isOf kk_Mo_isOf
  generalize f_Mo_isOf_19 = c0
  rfl
theorem d_Mo_isOf : cd_Mo_isOf.all (sv_dk cX12_isOf) = true := by decide +kernel
set_option maxRecDepth 20000 in
theorem w_Mo_isOf_19 {Γ : sv_Ga} {res : Int32 × sv_S} (X : sv_Ok Γ ev_Mo_isOf cX12_isOf sv_rZ res) : ∀ (x0 : Int32) (x1 : Int32) (σ : sv_S), f_Mo_isOf_19 x0 x1 σ = some res → sv_T Γ 19 [some (.inl x0), some (.inl x1)] [] σ := by
  intro x0 x1 σ h
  refine sv_run X d_Mo_isOf (K := kk_Mo_isOf_19) (sv_lk_all (P := fun pc (k : sv_Lo → List sv_V → sv_S → Option (Int32 × sv_S)) => ∀ lo st σ, k lo st σ = some res → sv_T Γ pc lo st σ) ?_) _ _ _ _ _ ((e_Mo_isOf_19 x0 x1 σ).trans h)
  clear h
  exact fun _ h => absurd h List.not_mem_nil

set_option maxRecDepth 20000 in
theorem b_Mo_isOf (Γ : sv_Ga) (res : Int32 × sv_S) (X : sv_Ok Γ ev_Mo_isOf cX12_isOf sv_rZ res) (as : List sv_V) (σ : sv_S) (h : n_Mo_isOf as σ = some res) : sv_T Γ 0 (sv_e0 2 as) [] σ := by
  unfold n_Mo_isOf at h
  split at h
  · refine sv_run X d_Mo_isOf (K := kk_Mo_isOf) (sv_lk_all (P := fun pc (k : sv_Lo → List sv_V → sv_S → Option (Int32 × sv_S)) => ∀ lo st σ, k lo st σ = some res → sv_T Γ pc lo st σ) ?_) _ _ _ _ _ ((e_Mo_isOf _ _ _).trans h)
    clear h
    refine List.forall_mem_cons.mpr ⟨fun lo st σ h => ?_, fun _ h => absurd h List.not_mem_nil⟩
    · dsimp only at h
      split at h
      · exact w_Mo_isOf_19 X _ _ _ h
      · cases h
  · cases h
theorem a_Mo_isOf (as : List sv_V) (σ : sv_S) (x : Int32 × sv_S) (h : n_Mo_isOf as σ = some x) : sv_args 2 ev_Mo_isOf.2.2.2.1 as := by
  unfold n_Mo_isOf at h
  split at h
  · exact ⟨Nat.le_of_ble_eq_true rfl, fun _ v hv => by
      simp only [List.mem_cons, List.not_mem_nil, or_false] at hv
      rcases hv with rfl | rfl <;> trivial⟩
  · cases h

set_option maxRecDepth 20000 in
theorem m_Mo_isOf (l : Launch) : sv_M l yX12_isOf cX12_isOf 2 (some .boolean) (sv_gI n_Mo_isOf) 0 := by
  refine sv_mZ (E := ev_Mo_isOf) (by decide +kernel) (ln_gen fk_12 kk_12 (sv_ns _ (fun _ => rfl) _)) rfl ?_ a_Mo_isOf b_Mo_isOf
  intro p e R s m args below meth c cells slots Q base ad dC dI cA n0 S hkn hR hf pc n f hcs
  refine sv_lk_all (P := fun pc (x : Nat × sv_F) => sv_cok p l e R s m args below meth c cells slots Q base ad dC dI cA true 2 n0 pc x.1 x.2) ?_ pc (n, f) hcs
  exact fun _ h => absurd h List.not_mem_nil
noncomputable def f_Mo_as (a1 : Int32) (a2 : Int32) (σ : sv_S) : Option (Int32 × sv_S) :=
  sv_b (f_Mo_isDrummer a1 σ) (fun v1 σ2 =>
    sv_if (v1 = 0)
      (some ((-1000000001 : Int32), σ2))
      (sv_b (f_Mo_isIn (a2.toInt64) (0 : Int64) (5 : Int64) σ2) (fun v3 σ4 =>
        sv_if (v3 = 0)
          (some ((-1000000001 : Int32), σ4))
          (sv_b (f_Mo_of a1 (0 : Int32) σ4) (fun v5 σ6 =>
            sv_b (f_Mo_isOf v5 a2 σ6) (fun v7 σ8 =>
              sv_if (v7 = 0)
                (some ((-1000000012 : Int32), σ8))
                (sv_b (f_Mo_of a1 (1 : Int32) σ8) (fun v9 σ10 =>
                  some (v9, σ10)))))))))
noncomputable def n_Mo_as : List sv_V → sv_S → Option (Int32 × sv_S)
  | [.inr (.inr (some (30, 0))), .inl a1, .inl a2], σ => f_Mo_as a1 a2 σ
  | _, _ => none
def cd_Mo_as : sv_C := [(0, (.aload_n 0, (sv_N, (1, (0, []))))), (1, (.iload_n 1, (sv_N, (2, (0, []))))), (2, (.invokevirtual 113, (sv_N, (5, (0, []))))), (5, (.ifCond .eq 15, (sv_N, (8, (20, []))))), (8, (.iload_n 2, (sv_N, (9, (0, []))))), (9, (.i2l, (sv_N, (10, (0, []))))), (10, (.lconst 0, (.inr (.inl (0 : Int64)), (11, (0, []))))), (11, (.ldc2_w 80, (sv_N, (14, (0, []))))), (14, (.invokestatic 71, (sv_N, (17, (0, []))))), (17, (.ifCond .ne 6, (sv_N, (20, (23, []))))), (20, (.ldc 84, (sv_N, (22, (0, []))))), (22, (.ireturn, (sv_N, (23, (0, []))))), (23, (.aload_n 0, (sv_N, (24, (0, []))))), (24, (.iload_n 1, (sv_N, (25, (0, []))))), (25, (.iconst 0, (.inl (0 : Int32), (26, (0, []))))), (26, (.invokevirtual 90, (sv_N, (29, (0, []))))), (29, (.iload_n 2, (sv_N, (30, (0, []))))), (30, (.invokestatic 129, (sv_N, (33, (0, []))))), (33, (.ifCond .eq 12, (sv_N, (36, (45, []))))), (36, (.aload_n 0, (sv_N, (37, (0, []))))), (37, (.iload_n 1, (sv_N, (38, (0, []))))), (38, (.iconst 1, (.inl (1 : Int32), (39, (0, []))))), (39, (.invokevirtual 90, (sv_N, (42, (0, []))))), (42, (.goto 5, (sv_N, (45, (47, []))))), (45, (.ldc 133, (sv_N, (47, (0, []))))), (47, (.ireturn, (sv_N, (48, (0, [])))))]
noncomputable def ev_Mo_as : sv_E := (fun i => sv_lk i fl_12, (fun i => sv_lk i kc_12, (fun _ => 0, (true, (fun pc => sv_lk pc [(2, (2, .inl n_Mo_isDrummer)), (14, (3, .inl n_Mo_isIn)), (26, (3, .inl n_Mo_of)), (30, (2, .inl n_Mo_isOf)), (39, (3, .inl n_Mo_of))], none)))))
noncomputable def kk_Mo_as : sv_K (Int32 × sv_S) := fun pc => sv_lk pc []
set_option maxRecDepth 20000 in
theorem e_Mo_as (a1 : Int32) (a2 : Int32) (σ : sv_S) : sv_ex ev_Mo_as sv_rI kk_Mo_as cd_Mo_as 28 0 [some (.inr (.inr (some (30, 0)))), some (.inl a1), some (.inl a2)] [] σ = f_Mo_as a1 a2 σ := by
  unfold f_Mo_as
  delta ev_Mo_as kk_Mo_as n_Mo_isDrummer n_Mo_isIn n_Mo_of n_Mo_isOf
  generalize f_Mo_isDrummer = c0
  generalize f_Mo_isIn = c1
  generalize f_Mo_of = c2
  generalize f_Mo_isOf = c3
  rfl
theorem d_Mo_as : cd_Mo_as.all (sv_dk cX12_as) = true := by decide +kernel
set_option maxRecDepth 20000 in
theorem b_Mo_as (Γ : sv_Ga) (res : Int32 × sv_S) (X : sv_Ok Γ ev_Mo_as cX12_as sv_rI res) (as : List sv_V) (σ : sv_S) (h : n_Mo_as as σ = some res) : sv_T Γ 0 (sv_e0 3 as) [] σ := by
  unfold n_Mo_as at h
  split at h
  · refine sv_run X d_Mo_as (K := kk_Mo_as) (sv_lk_all (P := fun pc (k : sv_Lo → List sv_V → sv_S → Option (Int32 × sv_S)) => ∀ lo st σ, k lo st σ = some res → sv_T Γ pc lo st σ) ?_) _ _ _ _ _ ((e_Mo_as _ _ _).trans h)
    clear h
    exact fun _ h => absurd h List.not_mem_nil
  · cases h
theorem a_Mo_as (as : List sv_V) (σ : sv_S) (x : Int32 × sv_S) (h : n_Mo_as as σ = some x) : sv_args 3 ev_Mo_as.2.2.2.1 as := by
  unfold n_Mo_as at h
  split at h
  · exact ⟨Nat.le_of_ble_eq_true rfl, fun _ v hv => by
      simp only [List.mem_cons, List.not_mem_nil, or_false] at hv
      rcases hv with rfl | rfl | rfl <;> trivial⟩
  · cases h
theorem g_Mo_as (as : List sv_V) (σ : sv_S) (x : Option sv_V × sv_S) (h : sv_gI n_Mo_as as σ = some x) : ∃ r i as', as = sv_R r i :: as' ∧ sv_kd r i = .inl 12 := by
  obtain ⟨_, _, h, -⟩ := sv_b_some h
  unfold n_Mo_as at h
  split at h
  · exact ⟨_, _, _, rfl, rfl⟩
  · cases h
theorem tw_1175 : Cond.methodLink RX12 129 yX12_isOf ∈ gw_tbl := gw_at 1175 (by decide +kernel) rfl
theorem tw_1176 : Cond.static yX12_isOf ∈ gw_tbl := gw_at 1176 (by decide +kernel) rfl
theorem tw_1177 : Cond.code yX12_isOf cX12_isOf 2 (some .boolean) ∈ gw_tbl := gw_at 1177 (by decide +kernel) rfl
set_option maxRecDepth 20000 in
theorem m_Mo_as (l : Launch) : sv_M l yX12_as cX12_as 3 (some .int) (sv_gI n_Mo_as) 2 := by
  refine sv_mI (E := ev_Mo_as) (by decide +kernel) (ln_gen fk_12 kk_12 (sv_ns _ (fun _ => rfl) _)) rfl ?_ a_Mo_as b_Mo_as
  intro p e R s m args below meth c cells slots Q base ad dC dI cA n0 S hkn hR hf pc n f hcs
  refine sv_lk_all (P := fun pc (x : Nat × sv_F) => sv_cok p l e R s m args below meth c cells slots Q base ad dC dI cA true 3 n0 pc x.1 x.2) ?_ pc (n, f) hcs
  exact List.forall_mem_cons.mpr ⟨(sv_cV S hkn (m_Mo_isDrummer l) ⟨Nat.le_trans (by decide) hR.1, Nat.le_trans (by decide) hR.2⟩ (by decide) hf rfl (g_Mo_isDrummer) (sv_w5 tw_1116 tw_1118 tw_9 tw_65 tw_1119) (by decide +kernel) (sv_dc3 d_Mo_as (pc := 2) rfl rfl)).I,
      List.forall_mem_cons.mpr ⟨(sv_cS S hkn (m_Mo_isIn l) ⟨Nat.le_trans (by decide) hR.1, Nat.le_trans (by decide) hR.2⟩ (by decide) hf (sv_w4 tw_1098 tw_1099 tw_65 tw_1100) (by decide +kernel) (sv_dc3 d_Mo_as (pc := 14) rfl rfl)).I,
      List.forall_mem_cons.mpr ⟨(sv_cV S hkn (m_Mo_of l) ⟨Nat.le_trans (by decide) hR.1, Nat.le_trans (by decide) hR.2⟩ (by decide) hf rfl (g_Mo_of) (sv_w5 tw_1120 tw_1122 tw_10 tw_65 tw_1123) (by decide +kernel) (sv_dc3 d_Mo_as (pc := 26) rfl rfl)).I,
      List.forall_mem_cons.mpr ⟨(sv_cS S hkn (m_Mo_isOf l) ⟨Nat.le_trans (by decide) hR.1, Nat.le_trans (by decide) hR.2⟩ (by decide) hf (sv_w4 tw_1175 tw_1176 tw_65 tw_1177) (by decide +kernel) (sv_dc3 d_Mo_as (pc := 30) rfl rfl)).I,
      List.forall_mem_cons.mpr ⟨(sv_cV S hkn (m_Mo_of l) ⟨Nat.le_trans (by decide) hR.1, Nat.le_trans (by decide) hR.2⟩ (by decide) hf rfl (g_Mo_of) (sv_w5 tw_1120 tw_1122 tw_10 tw_65 tw_1123) (by decide +kernel) (sv_dc3 d_Mo_as (pc := 39) rfl rfl)).I,
      fun _ h => absurd h List.not_mem_nil⟩⟩⟩⟩⟩
noncomputable def f_Mo_turns (a1 : Int32) (a2 : Int32) (σ : sv_S) : Option (Int32 × sv_S) :=
  sv_b (f_Mo_isDrummer a1 σ) (fun v1 σ2 =>
    sv_if (v1 = 0)
      (some ((-1000000001 : Int32), σ2))
      (sv_b (f_Mo_isIn (a2.toInt64) (0 : Int64) (5 : Int64) σ2) (fun v3 σ4 =>
        sv_if (v3 = 0)
          (some ((-1000000001 : Int32), σ4))
          (sv_b (f_Mo_becomes ((6 : Int32) + ((8 : Int32) * a1)) a2 σ4) (fun v5 σ6 =>
            some (v5, σ6))))))
noncomputable def n_Mo_turns : List sv_V → sv_S → Option (Int32 × sv_S)
  | [.inr (.inr (some (30, 0))), .inl a1, .inl a2], σ => f_Mo_turns a1 a2 σ
  | _, _ => none
def cd_Mo_turns : sv_C := [(0, (.aload_n 0, (sv_N, (1, (0, []))))), (1, (.iload_n 1, (sv_N, (2, (0, []))))), (2, (.invokevirtual 113, (sv_N, (5, (0, []))))), (5, (.ifCond .eq 30, (sv_N, (8, (35, []))))), (8, (.iload_n 2, (sv_N, (9, (0, []))))), (9, (.i2l, (sv_N, (10, (0, []))))), (10, (.lconst 0, (.inr (.inl (0 : Int64)), (11, (0, []))))), (11, (.ldc2_w 80, (sv_N, (14, (0, []))))), (14, (.invokestatic 71, (sv_N, (17, (0, []))))), (17, (.ifCond .eq 18, (sv_N, (20, (35, []))))), (20, (.aload_n 0, (sv_N, (21, (0, []))))), (21, (.bipush 6, (.inl (6 : Int32), (23, (0, []))))), (23, (.bipush 8, (.inl (8 : Int32), (25, (0, []))))), (25, (.iload_n 1, (sv_N, (26, (0, []))))), (26, (.imul, (sv_N, (27, (0, []))))), (27, (.iadd, (sv_N, (28, (0, []))))), (28, (.iload_n 2, (sv_N, (29, (0, []))))), (29, (.invokevirtual 134, (sv_N, (32, (0, []))))), (32, (.goto 5, (sv_N, (35, (37, []))))), (35, (.ldc 84, (sv_N, (37, (0, []))))), (37, (.ireturn, (sv_N, (38, (0, [])))))]
noncomputable def ev_Mo_turns : sv_E := (fun i => sv_lk i fl_12, (fun i => sv_lk i kc_12, (fun _ => 0, (true, (fun pc => sv_lk pc [(2, (2, .inl n_Mo_isDrummer)), (14, (3, .inl n_Mo_isIn)), (29, (3, .inl n_Mo_becomes))], none)))))
noncomputable def kk_Mo_turns : sv_K (Int32 × sv_S) := fun pc => sv_lk pc []
set_option maxRecDepth 20000 in
theorem e_Mo_turns (a1 : Int32) (a2 : Int32) (σ : sv_S) : sv_ex ev_Mo_turns sv_rI kk_Mo_turns cd_Mo_turns 23 0 [some (.inr (.inr (some (30, 0)))), some (.inl a1), some (.inl a2)] [] σ = f_Mo_turns a1 a2 σ := by
  unfold f_Mo_turns
  delta ev_Mo_turns kk_Mo_turns n_Mo_isDrummer n_Mo_isIn n_Mo_becomes
  generalize f_Mo_isDrummer = c0
  generalize f_Mo_isIn = c1
  generalize f_Mo_becomes = c2
  rfl
theorem d_Mo_turns : cd_Mo_turns.all (sv_dk cX12_turns) = true := by decide +kernel
set_option maxRecDepth 20000 in
theorem b_Mo_turns (Γ : sv_Ga) (res : Int32 × sv_S) (X : sv_Ok Γ ev_Mo_turns cX12_turns sv_rI res) (as : List sv_V) (σ : sv_S) (h : n_Mo_turns as σ = some res) : sv_T Γ 0 (sv_e0 3 as) [] σ := by
  unfold n_Mo_turns at h
  split at h
  · refine sv_run X d_Mo_turns (K := kk_Mo_turns) (sv_lk_all (P := fun pc (k : sv_Lo → List sv_V → sv_S → Option (Int32 × sv_S)) => ∀ lo st σ, k lo st σ = some res → sv_T Γ pc lo st σ) ?_) _ _ _ _ _ ((e_Mo_turns _ _ _).trans h)
    clear h
    exact fun _ h => absurd h List.not_mem_nil
  · cases h
theorem a_Mo_turns (as : List sv_V) (σ : sv_S) (x : Int32 × sv_S) (h : n_Mo_turns as σ = some x) : sv_args 3 ev_Mo_turns.2.2.2.1 as := by
  unfold n_Mo_turns at h
  split at h
  · exact ⟨Nat.le_of_ble_eq_true rfl, fun _ v hv => by
      simp only [List.mem_cons, List.not_mem_nil, or_false] at hv
      rcases hv with rfl | rfl | rfl <;> trivial⟩
  · cases h
theorem g_Mo_turns (as : List sv_V) (σ : sv_S) (x : Option sv_V × sv_S) (h : sv_gI n_Mo_turns as σ = some x) : ∃ r i as', as = sv_R r i :: as' ∧ sv_kd r i = .inl 12 := by
  obtain ⟨_, _, h, -⟩ := sv_b_some h
  unfold n_Mo_turns at h
  split at h
  · exact ⟨_, _, _, rfl, rfl⟩
  · cases h
theorem tw_21 : Cond.selects RX12 yX12_becomes yX12_becomes ∈ gw_tbl := gw_at 21 (by decide +kernel) rfl
theorem tw_1183 : Cond.methodLink RX12 134 yX12_becomes ∈ gw_tbl := gw_at 1183 (by decide +kernel) rfl
theorem tw_1185 : Cond.instanceMethod yX12_becomes ∈ gw_tbl := gw_at 1185 (by decide +kernel) rfl
theorem tw_1186 : Cond.code yX12_becomes cX12_becomes 4 (some .int) ∈ gw_tbl := gw_at 1186 (by decide +kernel) rfl
set_option maxRecDepth 20000 in
theorem m_Mo_turns (l : Launch) : sv_M l yX12_turns cX12_turns 3 (some .int) (sv_gI n_Mo_turns) 2 := by
  refine sv_mI (E := ev_Mo_turns) (by decide +kernel) (ln_gen fk_12 kk_12 (sv_ns _ (fun _ => rfl) _)) rfl ?_ a_Mo_turns b_Mo_turns
  intro p e R s m args below meth c cells slots Q base ad dC dI cA n0 S hkn hR hf pc n f hcs
  refine sv_lk_all (P := fun pc (x : Nat × sv_F) => sv_cok p l e R s m args below meth c cells slots Q base ad dC dI cA true 3 n0 pc x.1 x.2) ?_ pc (n, f) hcs
  exact List.forall_mem_cons.mpr ⟨(sv_cV S hkn (m_Mo_isDrummer l) ⟨Nat.le_trans (by decide) hR.1, Nat.le_trans (by decide) hR.2⟩ (by decide) hf rfl (g_Mo_isDrummer) (sv_w5 tw_1116 tw_1118 tw_9 tw_65 tw_1119) (by decide +kernel) (sv_dc3 d_Mo_turns (pc := 2) rfl rfl)).I,
      List.forall_mem_cons.mpr ⟨(sv_cS S hkn (m_Mo_isIn l) ⟨Nat.le_trans (by decide) hR.1, Nat.le_trans (by decide) hR.2⟩ (by decide) hf (sv_w4 tw_1098 tw_1099 tw_65 tw_1100) (by decide +kernel) (sv_dc3 d_Mo_turns (pc := 14) rfl rfl)).I,
      List.forall_mem_cons.mpr ⟨(sv_cV S hkn (m_Mo_becomes l) ⟨Nat.le_trans (by decide) hR.1, Nat.le_trans (by decide) hR.2⟩ (by decide) hf rfl (g_Mo_becomes) (sv_w5 tw_1183 tw_1185 tw_21 tw_65 tw_1186) (by decide +kernel) (sv_dc3 d_Mo_turns (pc := 29) rfl rfl)).I,
      fun _ h => absurd h List.not_mem_nil⟩⟩⟩
noncomputable def f_Mo_set (a1 : Int32) (a2 : Int32) (a3 : Int32) (σ : sv_S) : Option (Int32 × sv_S) :=
  sv_b (f_Mo_isDrummer a1 σ) (fun v1 σ2 =>
    sv_if (v1 = 0)
      (some ((-1000000001 : Int32), σ2))
      (sv_if (a2.toInt = 1)
        (sv_b (f_Mo_isIn (a3.toInt64) (1 : Int64) (9 : Int64) σ2) (fun v3 σ4 =>
          sv_if (v3 = 0)
            (some ((-1000000001 : Int32), σ4))
            (sv_b (f_Mo_becomes (((6 : Int32) + ((8 : Int32) * a1)) + (1 : Int32)) a3 σ4) (fun v5 σ6 =>
              some (v5, σ6)))))
        (sv_if (a2.toInt = 2)
        (sv_b (f_Mo_isIn (a3.toInt64) (0 : Int64) (9 : Int64) σ2) (fun v7 σ8 =>
          sv_if (v7 = 0)
            (some ((-1000000001 : Int32), σ8))
            (sv_b (f_Mo_becomes (((6 : Int32) + ((8 : Int32) * a1)) + (2 : Int32)) a3 σ8) (fun v9 σ10 =>
              some (v9, σ10)))))
        (sv_if (a2.toInt = 3)
        (sv_b (f_Mo_isIn (a3.toInt64) (1 : Int64) (3 : Int64) σ2) (fun v11 σ12 =>
          sv_if (v11 = 0)
            (some ((-1000000001 : Int32), σ12))
            (sv_b (f_Mo_becomes (((6 : Int32) + ((8 : Int32) * a1)) + (7 : Int32)) a3 σ12) (fun v13 σ14 =>
              some (v13, σ14)))))
        (some ((-1000000001 : Int32), σ2))))))
noncomputable def n_Mo_set : List sv_V → sv_S → Option (Int32 × sv_S)
  | [.inr (.inr (some (30, 0))), .inl a1, .inl a2, .inl a3], σ => f_Mo_set a1 a2 a3 σ
  | _, _ => none
def cd_Mo_set : sv_C := [(0, (.aload_n 0, (sv_N, (1, (0, []))))), (1, (.iload_n 1, (sv_N, (2, (0, []))))), (2, (.invokevirtual 113, (sv_N, (5, (0, []))))), (5, (.ifCond .ne 6, (sv_N, (8, (11, []))))), (8, (.ldc 84, (sv_N, (10, (0, []))))), (10, (.ireturn, (sv_N, (11, (0, []))))), (11, (.iload_n 2, (sv_N, (12, (0, []))))), (12, (.tableswitch 125 1 3 #[28, 60, 92], (sv_N, (12, (137, [(1, 40), (2, 72), (3, 104)]))))), (40, (.iload_n 3, (sv_N, (41, (0, []))))), (41, (.i2l, (sv_N, (42, (0, []))))), (42, (.lconst 1, (.inr (.inl (1 : Int64)), (43, (0, []))))), (43, (.ldc2_w 82, (sv_N, (46, (0, []))))), (46, (.invokestatic 71, (sv_N, (49, (0, []))))), (49, (.ifCond .eq 20, (sv_N, (52, (69, []))))), (52, (.aload_n 0, (sv_N, (53, (0, []))))), (53, (.bipush 6, (.inl (6 : Int32), (55, (0, []))))), (55, (.bipush 8, (.inl (8 : Int32), (57, (0, []))))), (57, (.iload_n 1, (sv_N, (58, (0, []))))), (58, (.imul, (sv_N, (59, (0, []))))), (59, (.iadd, (sv_N, (60, (0, []))))), (60, (.iconst 1, (.inl (1 : Int32), (61, (0, []))))), (61, (.iadd, (sv_N, (62, (0, []))))), (62, (.iload_n 3, (sv_N, (63, (0, []))))), (63, (.invokevirtual 134, (sv_N, (66, (0, []))))), (66, (.goto 5, (sv_N, (69, (71, []))))), (69, (.ldc 84, (sv_N, (71, (0, []))))), (71, (.ireturn, (sv_N, (72, (0, []))))), (72, (.iload_n 3, (sv_N, (73, (0, []))))), (73, (.i2l, (sv_N, (74, (0, []))))), (74, (.lconst 0, (.inr (.inl (0 : Int64)), (75, (0, []))))), (75, (.ldc2_w 82, (sv_N, (78, (0, []))))), (78, (.invokestatic 71, (sv_N, (81, (0, []))))), (81, (.ifCond .eq 20, (sv_N, (84, (101, []))))), (84, (.aload_n 0, (sv_N, (85, (0, []))))), (85, (.bipush 6, (.inl (6 : Int32), (87, (0, []))))), (87, (.bipush 8, (.inl (8 : Int32), (89, (0, []))))), (89, (.iload_n 1, (sv_N, (90, (0, []))))), (90, (.imul, (sv_N, (91, (0, []))))), (91, (.iadd, (sv_N, (92, (0, []))))), (92, (.iconst 2, (.inl (2 : Int32), (93, (0, []))))), (93, (.iadd, (sv_N, (94, (0, []))))), (94, (.iload_n 3, (sv_N, (95, (0, []))))), (95, (.invokevirtual 134, (sv_N, (98, (0, []))))), (98, (.goto 5, (sv_N, (101, (103, []))))), (101, (.ldc 84, (sv_N, (103, (0, []))))), (103, (.ireturn, (sv_N, (104, (0, []))))), (104, (.iload_n 3, (sv_N, (105, (0, []))))), (105, (.i2l, (sv_N, (106, (0, []))))), (106, (.lconst 1, (.inr (.inl (1 : Int64)), (107, (0, []))))), (107, (.ldc2_w 137, (sv_N, (110, (0, []))))), (110, (.invokestatic 71, (sv_N, (113, (0, []))))), (113, (.ifCond .eq 21, (sv_N, (116, (134, []))))), (116, (.aload_n 0, (sv_N, (117, (0, []))))), (117, (.bipush 6, (.inl (6 : Int32), (119, (0, []))))), (119, (.bipush 8, (.inl (8 : Int32), (121, (0, []))))), (121, (.iload_n 1, (sv_N, (122, (0, []))))), (122, (.imul, (sv_N, (123, (0, []))))), (123, (.iadd, (sv_N, (124, (0, []))))), (124, (.bipush 7, (.inl (7 : Int32), (126, (0, []))))), (126, (.iadd, (sv_N, (127, (0, []))))), (127, (.iload_n 3, (sv_N, (128, (0, []))))), (128, (.invokevirtual 134, (sv_N, (131, (0, []))))), (131, (.goto 5, (sv_N, (134, (136, []))))), (134, (.ldc 84, (sv_N, (136, (0, []))))), (136, (.ireturn, (sv_N, (137, (0, []))))), (137, (.ldc 84, (sv_N, (139, (0, []))))), (139, (.ireturn, (sv_N, (140, (0, [])))))]
noncomputable def ev_Mo_set : sv_E := (fun i => sv_lk i fl_12, (fun i => sv_lk i kc_12, (fun _ => 0, (true, (fun pc => sv_lk pc [(2, (2, .inl n_Mo_isDrummer)), (46, (3, .inl n_Mo_isIn)), (63, (3, .inl n_Mo_becomes)), (78, (3, .inl n_Mo_isIn)), (95, (3, .inl n_Mo_becomes)), (110, (3, .inl n_Mo_isIn)), (128, (3, .inl n_Mo_becomes))], none)))))
noncomputable def kk_Mo_set : sv_K (Int32 × sv_S) := fun pc => sv_lk pc []
set_option maxRecDepth 20000 in
theorem e_Mo_set (a1 : Int32) (a2 : Int32) (a3 : Int32) (σ : sv_S) : sv_ex ev_Mo_set sv_rI kk_Mo_set cd_Mo_set 69 0 [some (.inr (.inr (some (30, 0)))), some (.inl a1), some (.inl a2), some (.inl a3)] [] σ = f_Mo_set a1 a2 a3 σ := by
  unfold f_Mo_set
  delta ev_Mo_set kk_Mo_set n_Mo_isDrummer n_Mo_isIn n_Mo_becomes
  generalize f_Mo_isDrummer = c0
  generalize f_Mo_isIn = c1
  generalize f_Mo_becomes = c2
  rfl
theorem d_Mo_set : cd_Mo_set.all (sv_dk cX12_set) = true := by decide +kernel
set_option maxRecDepth 20000 in
theorem b_Mo_set (Γ : sv_Ga) (res : Int32 × sv_S) (X : sv_Ok Γ ev_Mo_set cX12_set sv_rI res) (as : List sv_V) (σ : sv_S) (h : n_Mo_set as σ = some res) : sv_T Γ 0 (sv_e0 4 as) [] σ := by
  unfold n_Mo_set at h
  split at h
  · refine sv_run X d_Mo_set (K := kk_Mo_set) (sv_lk_all (P := fun pc (k : sv_Lo → List sv_V → sv_S → Option (Int32 × sv_S)) => ∀ lo st σ, k lo st σ = some res → sv_T Γ pc lo st σ) ?_) _ _ _ _ _ ((e_Mo_set _ _ _ _).trans h)
    clear h
    exact fun _ h => absurd h List.not_mem_nil
  · cases h
theorem a_Mo_set (as : List sv_V) (σ : sv_S) (x : Int32 × sv_S) (h : n_Mo_set as σ = some x) : sv_args 4 ev_Mo_set.2.2.2.1 as := by
  unfold n_Mo_set at h
  split at h
  · exact ⟨Nat.le_of_ble_eq_true rfl, fun _ v hv => by
      simp only [List.mem_cons, List.not_mem_nil, or_false] at hv
      rcases hv with rfl | rfl | rfl | rfl <;> trivial⟩
  · cases h
theorem g_Mo_set (as : List sv_V) (σ : sv_S) (x : Option sv_V × sv_S) (h : sv_gI n_Mo_set as σ = some x) : ∃ r i as', as = sv_R r i :: as' ∧ sv_kd r i = .inl 12 := by
  obtain ⟨_, _, h, -⟩ := sv_b_some h
  unfold n_Mo_set at h
  split at h
  · exact ⟨_, _, _, rfl, rfl⟩
  · cases h

set_option maxRecDepth 20000 in
theorem m_Mo_set (l : Launch) : sv_M l yX12_set cX12_set 4 (some .int) (sv_gI n_Mo_set) 2 := by
  refine sv_mI (E := ev_Mo_set) (by decide +kernel) (ln_gen fk_12 kk_12 (sv_ns _ (fun _ => rfl) _)) rfl ?_ a_Mo_set b_Mo_set
  intro p e R s m args below meth c cells slots Q base ad dC dI cA n0 S hkn hR hf pc n f hcs
  refine sv_lk_all (P := fun pc (x : Nat × sv_F) => sv_cok p l e R s m args below meth c cells slots Q base ad dC dI cA true 4 n0 pc x.1 x.2) ?_ pc (n, f) hcs
  exact List.forall_mem_cons.mpr ⟨(sv_cV S hkn (m_Mo_isDrummer l) ⟨Nat.le_trans (by decide) hR.1, Nat.le_trans (by decide) hR.2⟩ (by decide) hf rfl (g_Mo_isDrummer) (sv_w5 tw_1116 tw_1118 tw_9 tw_65 tw_1119) (by decide +kernel) (sv_dc3 d_Mo_set (pc := 2) rfl rfl)).I,
      List.forall_mem_cons.mpr ⟨(sv_cS S hkn (m_Mo_isIn l) ⟨Nat.le_trans (by decide) hR.1, Nat.le_trans (by decide) hR.2⟩ (by decide) hf (sv_w4 tw_1098 tw_1099 tw_65 tw_1100) (by decide +kernel) (sv_dc3 d_Mo_set (pc := 46) rfl rfl)).I,
      List.forall_mem_cons.mpr ⟨(sv_cV S hkn (m_Mo_becomes l) ⟨Nat.le_trans (by decide) hR.1, Nat.le_trans (by decide) hR.2⟩ (by decide) hf rfl (g_Mo_becomes) (sv_w5 tw_1183 tw_1185 tw_21 tw_65 tw_1186) (by decide +kernel) (sv_dc3 d_Mo_set (pc := 63) rfl rfl)).I,
      List.forall_mem_cons.mpr ⟨(sv_cS S hkn (m_Mo_isIn l) ⟨Nat.le_trans (by decide) hR.1, Nat.le_trans (by decide) hR.2⟩ (by decide) hf (sv_w4 tw_1098 tw_1099 tw_65 tw_1100) (by decide +kernel) (sv_dc3 d_Mo_set (pc := 78) rfl rfl)).I,
      List.forall_mem_cons.mpr ⟨(sv_cV S hkn (m_Mo_becomes l) ⟨Nat.le_trans (by decide) hR.1, Nat.le_trans (by decide) hR.2⟩ (by decide) hf rfl (g_Mo_becomes) (sv_w5 tw_1183 tw_1185 tw_21 tw_65 tw_1186) (by decide +kernel) (sv_dc3 d_Mo_set (pc := 95) rfl rfl)).I,
      List.forall_mem_cons.mpr ⟨(sv_cS S hkn (m_Mo_isIn l) ⟨Nat.le_trans (by decide) hR.1, Nat.le_trans (by decide) hR.2⟩ (by decide) hf (sv_w4 tw_1098 tw_1099 tw_65 tw_1100) (by decide +kernel) (sv_dc3 d_Mo_set (pc := 110) rfl rfl)).I,
      List.forall_mem_cons.mpr ⟨(sv_cV S hkn (m_Mo_becomes l) ⟨Nat.le_trans (by decide) hR.1, Nat.le_trans (by decide) hR.2⟩ (by decide) hf rfl (g_Mo_becomes) (sv_w5 tw_1183 tw_1185 tw_21 tw_65 tw_1186) (by decide +kernel) (sv_dc3 d_Mo_set (pc := 128) rfl rfl)).I,
      fun _ h => absurd h List.not_mem_nil⟩⟩⟩⟩⟩⟩⟩
noncomputable def f_Mo_miss (a1 : Int32) (σ : sv_S) : Option (Int32 × sv_S) :=
  sv_b (f_Mo_isIn (a1.toInt64) (0 : Int64) (100 : Int64) σ) (fun v1 σ2 =>
    sv_if (v1 = 0)
      (some ((-1000000001 : Int32), σ2))
      (sv_b (f_Mo_becomes (2 : Int32) a1 σ2) (fun v3 σ4 =>
        some (v3, σ4))))
noncomputable def n_Mo_miss : List sv_V → sv_S → Option (Int32 × sv_S)
  | [.inr (.inr (some (30, 0))), .inl a1], σ => f_Mo_miss a1 σ
  | _, _ => none
def cd_Mo_miss : sv_C := [(0, (.iload_n 1, (sv_N, (1, (0, []))))), (1, (.i2l, (sv_N, (2, (0, []))))), (2, (.lconst 0, (.inr (.inl (0 : Int64)), (3, (0, []))))), (3, (.ldc2_w 139, (sv_N, (6, (0, []))))), (6, (.invokestatic 71, (sv_N, (9, (0, []))))), (9, (.ifCond .eq 12, (sv_N, (12, (21, []))))), (12, (.aload_n 0, (sv_N, (13, (0, []))))), (13, (.iconst 2, (.inl (2 : Int32), (14, (0, []))))), (14, (.iload_n 1, (sv_N, (15, (0, []))))), (15, (.invokevirtual 134, (sv_N, (18, (0, []))))), (18, (.goto 5, (sv_N, (21, (23, []))))), (21, (.ldc 84, (sv_N, (23, (0, []))))), (23, (.ireturn, (sv_N, (24, (0, [])))))]
noncomputable def ev_Mo_miss : sv_E := (fun i => sv_lk i fl_12, (fun i => sv_lk i kc_12, (fun _ => 0, (true, (fun pc => sv_lk pc [(6, (3, .inl n_Mo_isIn)), (15, (3, .inl n_Mo_becomes))], none)))))
noncomputable def kk_Mo_miss : sv_K (Int32 × sv_S) := fun pc => sv_lk pc []
set_option maxRecDepth 20000 in
theorem e_Mo_miss (a1 : Int32) (σ : sv_S) : sv_ex ev_Mo_miss sv_rI kk_Mo_miss cd_Mo_miss 15 0 [some (.inr (.inr (some (30, 0)))), some (.inl a1)] [] σ = f_Mo_miss a1 σ := by
  unfold f_Mo_miss
  delta ev_Mo_miss kk_Mo_miss n_Mo_isIn n_Mo_becomes
  generalize f_Mo_isIn = c0
  generalize f_Mo_becomes = c1
  rfl
theorem d_Mo_miss : cd_Mo_miss.all (sv_dk cX12_miss) = true := by decide +kernel
set_option maxRecDepth 20000 in
theorem b_Mo_miss (Γ : sv_Ga) (res : Int32 × sv_S) (X : sv_Ok Γ ev_Mo_miss cX12_miss sv_rI res) (as : List sv_V) (σ : sv_S) (h : n_Mo_miss as σ = some res) : sv_T Γ 0 (sv_e0 2 as) [] σ := by
  unfold n_Mo_miss at h
  split at h
  · refine sv_run X d_Mo_miss (K := kk_Mo_miss) (sv_lk_all (P := fun pc (k : sv_Lo → List sv_V → sv_S → Option (Int32 × sv_S)) => ∀ lo st σ, k lo st σ = some res → sv_T Γ pc lo st σ) ?_) _ _ _ _ _ ((e_Mo_miss _ _).trans h)
    clear h
    exact fun _ h => absurd h List.not_mem_nil
  · cases h
theorem a_Mo_miss (as : List sv_V) (σ : sv_S) (x : Int32 × sv_S) (h : n_Mo_miss as σ = some x) : sv_args 2 ev_Mo_miss.2.2.2.1 as := by
  unfold n_Mo_miss at h
  split at h
  · exact ⟨Nat.le_of_ble_eq_true rfl, fun _ v hv => by
      simp only [List.mem_cons, List.not_mem_nil, or_false] at hv
      rcases hv with rfl | rfl <;> trivial⟩
  · cases h
theorem g_Mo_miss (as : List sv_V) (σ : sv_S) (x : Option sv_V × sv_S) (h : sv_gI n_Mo_miss as σ = some x) : ∃ r i as', as = sv_R r i :: as' ∧ sv_kd r i = .inl 12 := by
  obtain ⟨_, _, h, -⟩ := sv_b_some h
  unfold n_Mo_miss at h
  split at h
  · exact ⟨_, _, _, rfl, rfl⟩
  · cases h

set_option maxRecDepth 20000 in
theorem m_Mo_miss (l : Launch) : sv_M l yX12_miss cX12_miss 2 (some .int) (sv_gI n_Mo_miss) 1 := by
  refine sv_mI (E := ev_Mo_miss) (by decide +kernel) (ln_gen fk_12 kk_12 (sv_ns _ (fun _ => rfl) _)) rfl ?_ a_Mo_miss b_Mo_miss
  intro p e R s m args below meth c cells slots Q base ad dC dI cA n0 S hkn hR hf pc n f hcs
  refine sv_lk_all (P := fun pc (x : Nat × sv_F) => sv_cok p l e R s m args below meth c cells slots Q base ad dC dI cA true 2 n0 pc x.1 x.2) ?_ pc (n, f) hcs
  exact List.forall_mem_cons.mpr ⟨(sv_cS S hkn (m_Mo_isIn l) ⟨Nat.le_trans (by decide) hR.1, Nat.le_trans (by decide) hR.2⟩ (by decide) hf (sv_w4 tw_1098 tw_1099 tw_65 tw_1100) (by decide +kernel) (sv_dc3 d_Mo_miss (pc := 6) rfl rfl)).I,
      List.forall_mem_cons.mpr ⟨(sv_cV S hkn (m_Mo_becomes l) ⟨Nat.le_trans (by decide) hR.1, Nat.le_trans (by decide) hR.2⟩ (by decide) hf rfl (g_Mo_becomes) (sv_w5 tw_1183 tw_1185 tw_21 tw_65 tw_1186) (by decide +kernel) (sv_dc3 d_Mo_miss (pc := 15) rfl rfl)).I,
      fun _ h => absurd h List.not_mem_nil⟩⟩
noncomputable def f_Mo_deal_17 : Nat → Int32 → Int32 → sv_S → Option (Int32 × sv_S)
  | 0, _, _, _ => none
  | n + 1, x1, x2, σ =>
    sv_if (x1 ≤ x2)
      (some (x2, σ))
      (sv_g (sv_in (0 : Int32) 3086) (sv_if ((10 : Int32) ≤ (σ 31 0 ((0 : Int32).toNatClampNeg)))
        (some (x2, σ))
        (sv_b (f_Mo_drawn σ) (fun v1 σ2 =>
          sv_g (¬ (6 : Int32) = 0) (sv_b (f_Mo_drawn σ2) (fun v3 σ4 =>
            sv_g (¬ (9 : Int32) = 0) (sv_b0 (f_Mo_comes (v1 - v1 / (6 : Int32) * (6 : Int32)) ((1 : Int32) + (v3 - v3 / (9 : Int32) * (9 : Int32))) σ4) (fun σ5 =>
              f_Mo_deal_17 n x1 (x2 + (1 : Int32)) σ5))))))))
noncomputable def f_Mo_deal (a1 : Int32) (σ : sv_S) : Option (Int32 × sv_S) :=
  sv_b (f_Mo_isIn (a1.toInt64) (1 : Int64) (10 : Int64) σ) (fun v1 σ2 =>
    sv_if (v1 = 0)
      (some ((-1000000001 : Int32), σ2))
      (f_Mo_deal_17 sv_fu a1 (0 : Int32) σ2))
noncomputable def n_Mo_deal : List sv_V → sv_S → Option (Int32 × sv_S)
  | [.inr (.inr (some (30, 0))), .inl a1], σ => f_Mo_deal a1 σ
  | _, _ => none
def cd_Mo_deal : sv_C := [(0, (.iload_n 1, (sv_N, (1, (0, []))))), (1, (.i2l, (sv_N, (2, (0, []))))), (2, (.lconst 1, (.inr (.inl (1 : Int64)), (3, (0, []))))), (3, (.ldc2_w 141, (sv_N, (6, (0, []))))), (6, (.invokestatic 71, (sv_N, (9, (0, []))))), (9, (.ifCond .ne 6, (sv_N, (12, (15, []))))), (12, (.ldc 84, (sv_N, (14, (0, []))))), (14, (.ireturn, (sv_N, (15, (0, []))))), (15, (.iconst 0, (.inl (0 : Int32), (16, (0, []))))), (16, (.istore_n 2, (sv_N, (17, (0, []))))), (17, (.iload_n 2, (sv_N, (18, (0, []))))), (18, (.iload_n 1, (sv_N, (19, (0, []))))), (19, (.if_icmp .ge 42, (sv_N, (22, (61, []))))), (22, (.aload_n 0, (sv_N, (23, (0, []))))), (23, (.getfield 7, (sv_N, (26, (0, []))))), (26, (.iconst 0, (.inl (0 : Int32), (27, (0, []))))), (27, (.iaload, (sv_N, (28, (0, []))))), (28, (.bipush 10, (.inl (10 : Int32), (30, (0, []))))), (30, (.if_icmp .ge 31, (sv_N, (33, (61, []))))), (33, (.aload_n 0, (sv_N, (34, (0, []))))), (34, (.invokevirtual 143, (sv_N, (37, (0, []))))), (37, (.bipush 6, (.inl (6 : Int32), (39, (0, []))))), (39, (.irem, (sv_N, (40, (0, []))))), (40, (.istore_n 3, (sv_N, (41, (0, []))))), (41, (.aload_n 0, (sv_N, (42, (0, []))))), (42, (.iload_n 3, (sv_N, (43, (0, []))))), (43, (.iconst 1, (.inl (1 : Int32), (44, (0, []))))), (44, (.aload_n 0, (sv_N, (45, (0, []))))), (45, (.invokevirtual 143, (sv_N, (48, (0, []))))), (48, (.bipush 9, (.inl (9 : Int32), (50, (0, []))))), (50, (.irem, (sv_N, (51, (0, []))))), (51, (.iadd, (sv_N, (52, (0, []))))), (52, (.invokevirtual 86, (sv_N, (55, (0, []))))), (55, (.iinc 2 1, (.inl (1 : Int32), (58, (0, []))))), (58, (.goto (-41), (sv_N, (61, (17, []))))), (61, (.iload_n 2, (sv_N, (62, (0, []))))), (62, (.ireturn, (sv_N, (63, (0, [])))))]
noncomputable def ev_Mo_deal : sv_E := (fun i => sv_lk i fl_12, (fun i => sv_lk i kc_12, (fun _ => 0, (true, (fun pc => sv_lk pc [(6, (3, .inl n_Mo_isIn)), (34, (1, .inl n_Mo_drawn)), (45, (1, .inl n_Mo_drawn)), (52, (3, .inr (.inl n_Mo_comes)))], none)))))
noncomputable def kk_Mo_deal_17 (n : Nat) : sv_K (Int32 × sv_S) := fun pc => sv_lk pc [(17, fun lo st σ => match lo, st with
    | [some (.inr (.inr (some (30, 0)))), some (.inl x1), some (.inl x2), _], [] => f_Mo_deal_17 n x1 x2 σ
    | _, _ => none)]
set_option maxRecDepth 20000 in
theorem e_Mo_deal_17 (n : Nat) (x1 : Int32) (x2 : Int32) (z3 : Option sv_V) (σ : sv_S) : sv_ex ev_Mo_deal sv_rI (kk_Mo_deal_17 n) cd_Mo_deal 39 17 [some (.inr (.inr (some (30, 0)))), some (.inl x1), some (.inl x2), z3] [] σ = f_Mo_deal_17 (n + 1) x1 x2 σ := by
  rw [f_Mo_deal_17.eq_2]
  delta ev_Mo_deal kk_Mo_deal_17 n_Mo_isIn n_Mo_drawn n_Mo_comes
  generalize f_Mo_isIn = c0
  generalize f_Mo_drawn = c1
  generalize f_Mo_comes = c2
  generalize f_Mo_deal_17 = c3
  rfl
noncomputable def kk_Mo_deal : sv_K (Int32 × sv_S) := fun pc => sv_lk pc [(17, fun lo st σ => match lo, st with
    | [some (.inr (.inr (some (30, 0)))), some (.inl x1), some (.inl x2), _], [] => f_Mo_deal_17 sv_fu x1 x2 σ
    | _, _ => none)]
set_option maxRecDepth 20000 in
theorem e_Mo_deal (a1 : Int32) (σ : sv_S) : sv_ex ev_Mo_deal sv_rI kk_Mo_deal cd_Mo_deal 39 0 [some (.inr (.inr (some (30, 0)))), some (.inl a1), none, none] [] σ = f_Mo_deal a1 σ := by
  unfold f_Mo_deal
  delta ev_Mo_deal kk_Mo_deal n_Mo_isIn n_Mo_drawn n_Mo_comes
  generalize f_Mo_isIn = c0
  generalize f_Mo_drawn = c1
  generalize f_Mo_comes = c2
  generalize f_Mo_deal_17 = c3
  rfl
theorem d_Mo_deal : cd_Mo_deal.all (sv_dk cX12_deal) = true := by decide +kernel
set_option maxRecDepth 20000 in
theorem w_Mo_deal_17 {Γ : sv_Ga} {res : Int32 × sv_S} (X : sv_Ok Γ ev_Mo_deal cX12_deal sv_rI res) : ∀ (n : Nat) (x1 : Int32) (x2 : Int32) (z3 : Option sv_V) (σ : sv_S), f_Mo_deal_17 n x1 x2 σ = some res → sv_T Γ 17 [some (.inr (.inr (some (30, 0)))), some (.inl x1), some (.inl x2), z3] [] σ := by
  intro n
  induction n with
  | zero =>
    intro x1 x2 z3 σ h
    rw [f_Mo_deal_17.eq_1] at h
    cases h
  | succ n ih =>
    intro x1 x2 z3 σ h
    refine sv_run X d_Mo_deal (K := kk_Mo_deal_17 n) (sv_lk_all (P := fun pc (k : sv_Lo → List sv_V → sv_S → Option (Int32 × sv_S)) => ∀ lo st σ, k lo st σ = some res → sv_T Γ pc lo st σ) ?_) _ _ _ _ _ ((e_Mo_deal_17 n x1 x2 z3 σ).trans h)
    clear h
    refine List.forall_mem_cons.mpr ⟨fun lo st σ h => ?_, fun _ h => absurd h List.not_mem_nil⟩
    · dsimp only at h
      split at h
      · exact ih _ _ _ _ h
      · cases h

set_option maxRecDepth 20000 in
theorem b_Mo_deal (Γ : sv_Ga) (res : Int32 × sv_S) (X : sv_Ok Γ ev_Mo_deal cX12_deal sv_rI res) (as : List sv_V) (σ : sv_S) (h : n_Mo_deal as σ = some res) : sv_T Γ 0 (sv_e0 4 as) [] σ := by
  unfold n_Mo_deal at h
  split at h
  · refine sv_run X d_Mo_deal (K := kk_Mo_deal) (sv_lk_all (P := fun pc (k : sv_Lo → List sv_V → sv_S → Option (Int32 × sv_S)) => ∀ lo st σ, k lo st σ = some res → sv_T Γ pc lo st σ) ?_) _ _ _ _ _ ((e_Mo_deal _ _).trans h)
    clear h
    refine List.forall_mem_cons.mpr ⟨fun lo st σ h => ?_, fun _ h => absurd h List.not_mem_nil⟩
    · dsimp only at h
      split at h
      · exact w_Mo_deal_17 X _ _ _ _ _ h
      · cases h
  · cases h
theorem a_Mo_deal (as : List sv_V) (σ : sv_S) (x : Int32 × sv_S) (h : n_Mo_deal as σ = some x) : sv_args 4 ev_Mo_deal.2.2.2.1 as := by
  unfold n_Mo_deal at h
  split at h
  · exact ⟨Nat.le_of_ble_eq_true rfl, fun _ v hv => by
      simp only [List.mem_cons, List.not_mem_nil, or_false] at hv
      rcases hv with rfl | rfl <;> trivial⟩
  · cases h
theorem g_Mo_deal (as : List sv_V) (σ : sv_S) (x : Option sv_V × sv_S) (h : sv_gI n_Mo_deal as σ = some x) : ∃ r i as', as = sv_R r i :: as' ∧ sv_kd r i = .inl 12 := by
  obtain ⟨_, _, h, -⟩ := sv_b_some h
  unfold n_Mo_deal at h
  split at h
  · exact ⟨_, _, _, rfl, rfl⟩
  · cases h
theorem tw_22 : Cond.selects RX12 yX12_drawn yX12_drawn ∈ gw_tbl := gw_at 22 (by decide +kernel) rfl
theorem tw_1202 : Cond.methodLink RX12 143 yX12_drawn ∈ gw_tbl := gw_at 1202 (by decide +kernel) rfl
theorem tw_1204 : Cond.instanceMethod yX12_drawn ∈ gw_tbl := gw_at 1204 (by decide +kernel) rfl
theorem tw_1205 : Cond.code yX12_drawn cX12_drawn 1 (some .int) ∈ gw_tbl := gw_at 1205 (by decide +kernel) rfl
set_option maxRecDepth 20000 in
theorem m_Mo_deal (l : Launch) : sv_M l yX12_deal cX12_deal 4 (some .int) (sv_gI n_Mo_deal) 2 := by
  refine sv_mI (E := ev_Mo_deal) (by decide +kernel) (ln_gen fk_12 kk_12 (sv_ns _ (fun _ => rfl) _)) rfl ?_ a_Mo_deal b_Mo_deal
  intro p e R s m args below meth c cells slots Q base ad dC dI cA n0 S hkn hR hf pc n f hcs
  refine sv_lk_all (P := fun pc (x : Nat × sv_F) => sv_cok p l e R s m args below meth c cells slots Q base ad dC dI cA true 4 n0 pc x.1 x.2) ?_ pc (n, f) hcs
  exact List.forall_mem_cons.mpr ⟨(sv_cS S hkn (m_Mo_isIn l) ⟨Nat.le_trans (by decide) hR.1, Nat.le_trans (by decide) hR.2⟩ (by decide) hf (sv_w4 tw_1098 tw_1099 tw_65 tw_1100) (by decide +kernel) (sv_dc3 d_Mo_deal (pc := 6) rfl rfl)).I,
      List.forall_mem_cons.mpr ⟨(sv_cV S hkn (m_Mo_drawn l) ⟨Nat.le_trans (by decide) hR.1, Nat.le_trans (by decide) hR.2⟩ (by decide) hf rfl (g_Mo_drawn) (sv_w5 tw_1202 tw_1204 tw_22 tw_65 tw_1205) (by decide +kernel) (sv_dc3 d_Mo_deal (pc := 34) rfl rfl)).I,
      List.forall_mem_cons.mpr ⟨(sv_cV S hkn (m_Mo_drawn l) ⟨Nat.le_trans (by decide) hR.1, Nat.le_trans (by decide) hR.2⟩ (by decide) hf rfl (g_Mo_drawn) (sv_w5 tw_1202 tw_1204 tw_22 tw_65 tw_1205) (by decide +kernel) (sv_dc3 d_Mo_deal (pc := 45) rfl rfl)).I,
      List.forall_mem_cons.mpr ⟨(sv_cV S hkn (m_Mo_comes l) ⟨Nat.le_trans (by decide) hR.1, Nat.le_trans (by decide) hR.2⟩ (by decide) hf rfl (g_Mo_comes) (sv_w5 tw_1104 tw_1106 tw_7 tw_65 tw_1107) (by decide +kernel) (sv_dc3 d_Mo_deal (pc := 52) rfl rfl)).V,
      fun _ h => absurd h List.not_mem_nil⟩⟩⟩⟩
noncomputable def f_Mo_seed (a1 : Int32) (σ : sv_S) : Option (Int32 × sv_S) :=
  sv_b (f_Mo_becomes (4 : Int32) a1 σ) (fun v1 σ2 =>
    some (v1, σ2))
noncomputable def n_Mo_seed : List sv_V → sv_S → Option (Int32 × sv_S)
  | [.inr (.inr (some (30, 0))), .inl a1], σ => f_Mo_seed a1 σ
  | _, _ => none
def cd_Mo_seed : sv_C := [(0, (.aload_n 0, (sv_N, (1, (0, []))))), (1, (.iconst 4, (.inl (4 : Int32), (2, (0, []))))), (2, (.iload_n 1, (sv_N, (3, (0, []))))), (3, (.invokevirtual 134, (sv_N, (6, (0, []))))), (6, (.ireturn, (sv_N, (7, (0, [])))))]
noncomputable def ev_Mo_seed : sv_E := (fun i => sv_lk i fl_12, (fun i => sv_lk i kc_12, (fun _ => 0, (true, (fun pc => sv_lk pc [(3, (3, .inl n_Mo_becomes))], none)))))
noncomputable def kk_Mo_seed : sv_K (Int32 × sv_S) := fun pc => sv_lk pc []
set_option maxRecDepth 20000 in
theorem e_Mo_seed (a1 : Int32) (σ : sv_S) : sv_ex ev_Mo_seed sv_rI kk_Mo_seed cd_Mo_seed 7 0 [some (.inr (.inr (some (30, 0)))), some (.inl a1)] [] σ = f_Mo_seed a1 σ := by
  unfold f_Mo_seed
  delta ev_Mo_seed kk_Mo_seed n_Mo_becomes
  generalize f_Mo_becomes = c0
  rfl
theorem d_Mo_seed : cd_Mo_seed.all (sv_dk cX12_seed) = true := by decide +kernel
set_option maxRecDepth 20000 in
theorem b_Mo_seed (Γ : sv_Ga) (res : Int32 × sv_S) (X : sv_Ok Γ ev_Mo_seed cX12_seed sv_rI res) (as : List sv_V) (σ : sv_S) (h : n_Mo_seed as σ = some res) : sv_T Γ 0 (sv_e0 2 as) [] σ := by
  unfold n_Mo_seed at h
  split at h
  · refine sv_run X d_Mo_seed (K := kk_Mo_seed) (sv_lk_all (P := fun pc (k : sv_Lo → List sv_V → sv_S → Option (Int32 × sv_S)) => ∀ lo st σ, k lo st σ = some res → sv_T Γ pc lo st σ) ?_) _ _ _ _ _ ((e_Mo_seed _ _).trans h)
    clear h
    exact fun _ h => absurd h List.not_mem_nil
  · cases h
theorem a_Mo_seed (as : List sv_V) (σ : sv_S) (x : Int32 × sv_S) (h : n_Mo_seed as σ = some x) : sv_args 2 ev_Mo_seed.2.2.2.1 as := by
  unfold n_Mo_seed at h
  split at h
  · exact ⟨Nat.le_of_ble_eq_true rfl, fun _ v hv => by
      simp only [List.mem_cons, List.not_mem_nil, or_false] at hv
      rcases hv with rfl | rfl <;> trivial⟩
  · cases h
theorem g_Mo_seed (as : List sv_V) (σ : sv_S) (x : Option sv_V × sv_S) (h : sv_gI n_Mo_seed as σ = some x) : ∃ r i as', as = sv_R r i :: as' ∧ sv_kd r i = .inl 12 := by
  obtain ⟨_, _, h, -⟩ := sv_b_some h
  unfold n_Mo_seed at h
  split at h
  · exact ⟨_, _, _, rfl, rfl⟩
  · cases h

set_option maxRecDepth 20000 in
theorem m_Mo_seed (l : Launch) : sv_M l yX12_seed cX12_seed 2 (some .int) (sv_gI n_Mo_seed) 1 := by
  refine sv_mI (E := ev_Mo_seed) (by decide +kernel) (ln_gen fk_12 kk_12 (sv_ns _ (fun _ => rfl) _)) rfl ?_ a_Mo_seed b_Mo_seed
  intro p e R s m args below meth c cells slots Q base ad dC dI cA n0 S hkn hR hf pc n f hcs
  refine sv_lk_all (P := fun pc (x : Nat × sv_F) => sv_cok p l e R s m args below meth c cells slots Q base ad dC dI cA true 2 n0 pc x.1 x.2) ?_ pc (n, f) hcs
  exact List.forall_mem_cons.mpr ⟨(sv_cV S hkn (m_Mo_becomes l) ⟨Nat.le_trans (by decide) hR.1, Nat.le_trans (by decide) hR.2⟩ (by decide) hf rfl (g_Mo_becomes) (sv_w5 tw_1183 tw_1185 tw_21 tw_65 tw_1186) (by decide +kernel) (sv_dc3 d_Mo_seed (pc := 3) rfl rfl)).I,
      fun _ h => absurd h List.not_mem_nil⟩
noncomputable def f_Mo_mayOrder (a1 : Int32) (σ : sv_S) : Option (Int32 × sv_S) :=
  sv_b (f_Mo_of a1 (2 : Int32) σ) (fun v1 σ2 =>
    sv_if (v1 = 0)
      (sv_g ((1 : Int32) = 0 ∨ (1 : Int32) = 1) (some ((1 : Int32), σ2)))
      (sv_g ((0 : Int32) = 0 ∨ (0 : Int32) = 1) (some ((0 : Int32), σ2))))
noncomputable def n_Mo_mayOrder : List sv_V → sv_S → Option (Int32 × sv_S)
  | [.inr (.inr (some (30, 0))), .inl a1], σ => f_Mo_mayOrder a1 σ
  | _, _ => none
def cd_Mo_mayOrder : sv_C := [(0, (.aload_n 0, (sv_N, (1, (0, []))))), (1, (.iload_n 1, (sv_N, (2, (0, []))))), (2, (.iconst 2, (.inl (2 : Int32), (3, (0, []))))), (3, (.invokevirtual 90, (sv_N, (6, (0, []))))), (6, (.ifCond .ne 7, (sv_N, (9, (13, []))))), (9, (.iconst 1, (.inl (1 : Int32), (10, (0, []))))), (10, (.goto 4, (sv_N, (13, (14, []))))), (13, (.iconst 0, (.inl (0 : Int32), (14, (0, []))))), (14, (.ireturn, (sv_N, (15, (0, [])))))]
noncomputable def ev_Mo_mayOrder : sv_E := (fun i => sv_lk i fl_12, (fun i => sv_lk i kc_12, (fun _ => 0, (true, (fun pc => sv_lk pc [(3, (3, .inl n_Mo_of))], none)))))
noncomputable def kk_Mo_mayOrder : sv_K (Int32 × sv_S) := fun pc => sv_lk pc []
set_option maxRecDepth 20000 in
theorem e_Mo_mayOrder (a1 : Int32) (σ : sv_S) : sv_ex ev_Mo_mayOrder sv_rZ kk_Mo_mayOrder cd_Mo_mayOrder 11 0 [some (.inr (.inr (some (30, 0)))), some (.inl a1)] [] σ = f_Mo_mayOrder a1 σ := by
  unfold f_Mo_mayOrder
  delta ev_Mo_mayOrder kk_Mo_mayOrder n_Mo_of
  generalize f_Mo_of = c0
  rfl
theorem d_Mo_mayOrder : cd_Mo_mayOrder.all (sv_dk cX12_mayOrder) = true := by decide +kernel
set_option maxRecDepth 20000 in
theorem b_Mo_mayOrder (Γ : sv_Ga) (res : Int32 × sv_S) (X : sv_Ok Γ ev_Mo_mayOrder cX12_mayOrder sv_rZ res) (as : List sv_V) (σ : sv_S) (h : n_Mo_mayOrder as σ = some res) : sv_T Γ 0 (sv_e0 2 as) [] σ := by
  unfold n_Mo_mayOrder at h
  split at h
  · refine sv_run X d_Mo_mayOrder (K := kk_Mo_mayOrder) (sv_lk_all (P := fun pc (k : sv_Lo → List sv_V → sv_S → Option (Int32 × sv_S)) => ∀ lo st σ, k lo st σ = some res → sv_T Γ pc lo st σ) ?_) _ _ _ _ _ ((e_Mo_mayOrder _ _).trans h)
    clear h
    exact fun _ h => absurd h List.not_mem_nil
  · cases h
theorem a_Mo_mayOrder (as : List sv_V) (σ : sv_S) (x : Int32 × sv_S) (h : n_Mo_mayOrder as σ = some x) : sv_args 2 ev_Mo_mayOrder.2.2.2.1 as := by
  unfold n_Mo_mayOrder at h
  split at h
  · exact ⟨Nat.le_of_ble_eq_true rfl, fun _ v hv => by
      simp only [List.mem_cons, List.not_mem_nil, or_false] at hv
      rcases hv with rfl | rfl <;> trivial⟩
  · cases h
theorem g_Mo_mayOrder (as : List sv_V) (σ : sv_S) (x : Option sv_V × sv_S) (h : sv_gI n_Mo_mayOrder as σ = some x) : ∃ r i as', as = sv_R r i :: as' ∧ sv_kd r i = .inl 12 := by
  obtain ⟨_, _, h, -⟩ := sv_b_some h
  unfold n_Mo_mayOrder at h
  split at h
  · exact ⟨_, _, _, rfl, rfl⟩
  · cases h

set_option maxRecDepth 20000 in
theorem m_Mo_mayOrder (l : Launch) : sv_M l yX12_mayOrder cX12_mayOrder 2 (some .boolean) (sv_gI n_Mo_mayOrder) 1 := by
  refine sv_mZ (E := ev_Mo_mayOrder) (by decide +kernel) (ln_gen fk_12 kk_12 (sv_ns _ (fun _ => rfl) _)) rfl ?_ a_Mo_mayOrder b_Mo_mayOrder
  intro p e R s m args below meth c cells slots Q base ad dC dI cA n0 S hkn hR hf pc n f hcs
  refine sv_lk_all (P := fun pc (x : Nat × sv_F) => sv_cok p l e R s m args below meth c cells slots Q base ad dC dI cA true 2 n0 pc x.1 x.2) ?_ pc (n, f) hcs
  exact List.forall_mem_cons.mpr ⟨(sv_cV S hkn (m_Mo_of l) ⟨Nat.le_trans (by decide) hR.1, Nat.le_trans (by decide) hR.2⟩ (by decide) hf rfl (g_Mo_of) (sv_w5 tw_1120 tw_1122 tw_10 tw_65 tw_1123) (by decide +kernel) (sv_dc3 d_Mo_mayOrder (pc := 3) rfl rfl)).I,
      fun _ h => absurd h List.not_mem_nil⟩
noncomputable def f_Mo_orders (a1 : Int32) (σ : sv_S) : Option (Int32 × sv_S) :=
  sv_b (f_Mo_wakes a1 σ) (fun v1 σ2 =>
    sv_b0 (f_Mo_sets a1 (2 : Int32) v1 σ2) (fun σ3 =>
      sv_b (f_Mo_of a1 (2 : Int32) σ3) (fun v4 σ5 =>
        some (v4, σ5))))
noncomputable def n_Mo_orders : List sv_V → sv_S → Option (Int32 × sv_S)
  | [.inr (.inr (some (30, 0))), .inl a1], σ => f_Mo_orders a1 σ
  | _, _ => none
def cd_Mo_orders : sv_C := [(0, (.aload_n 0, (sv_N, (1, (0, []))))), (1, (.iload_n 1, (sv_N, (2, (0, []))))), (2, (.iconst 2, (.inl (2 : Int32), (3, (0, []))))), (3, (.aload_n 0, (sv_N, (4, (0, []))))), (4, (.iload_n 1, (sv_N, (5, (0, []))))), (5, (.invokevirtual 120, (sv_N, (8, (0, []))))), (8, (.invokevirtual 76, (sv_N, (11, (0, []))))), (11, (.aload_n 0, (sv_N, (12, (0, []))))), (12, (.iload_n 1, (sv_N, (13, (0, []))))), (13, (.iconst 2, (.inl (2 : Int32), (14, (0, []))))), (14, (.invokevirtual 90, (sv_N, (17, (0, []))))), (17, (.ireturn, (sv_N, (18, (0, [])))))]
noncomputable def ev_Mo_orders : sv_E := (fun i => sv_lk i fl_12, (fun i => sv_lk i kc_12, (fun _ => 0, (true, (fun pc => sv_lk pc [(5, (2, .inl n_Mo_wakes)), (8, (4, .inr (.inl n_Mo_sets))), (14, (3, .inl n_Mo_of))], none)))))
noncomputable def kk_Mo_orders : sv_K (Int32 × sv_S) := fun pc => sv_lk pc []
set_option maxRecDepth 20000 in
theorem e_Mo_orders (a1 : Int32) (σ : sv_S) : sv_ex ev_Mo_orders sv_rI kk_Mo_orders cd_Mo_orders 14 0 [some (.inr (.inr (some (30, 0)))), some (.inl a1)] [] σ = f_Mo_orders a1 σ := by
  unfold f_Mo_orders
  delta ev_Mo_orders kk_Mo_orders n_Mo_wakes n_Mo_sets n_Mo_of
  generalize f_Mo_wakes = c0
  generalize f_Mo_sets = c1
  generalize f_Mo_of = c2
  rfl
theorem d_Mo_orders : cd_Mo_orders.all (sv_dk cX12_orders) = true := by decide +kernel
set_option maxRecDepth 20000 in
theorem b_Mo_orders (Γ : sv_Ga) (res : Int32 × sv_S) (X : sv_Ok Γ ev_Mo_orders cX12_orders sv_rI res) (as : List sv_V) (σ : sv_S) (h : n_Mo_orders as σ = some res) : sv_T Γ 0 (sv_e0 2 as) [] σ := by
  unfold n_Mo_orders at h
  split at h
  · refine sv_run X d_Mo_orders (K := kk_Mo_orders) (sv_lk_all (P := fun pc (k : sv_Lo → List sv_V → sv_S → Option (Int32 × sv_S)) => ∀ lo st σ, k lo st σ = some res → sv_T Γ pc lo st σ) ?_) _ _ _ _ _ ((e_Mo_orders _ _).trans h)
    clear h
    exact fun _ h => absurd h List.not_mem_nil
  · cases h
theorem a_Mo_orders (as : List sv_V) (σ : sv_S) (x : Int32 × sv_S) (h : n_Mo_orders as σ = some x) : sv_args 2 ev_Mo_orders.2.2.2.1 as := by
  unfold n_Mo_orders at h
  split at h
  · exact ⟨Nat.le_of_ble_eq_true rfl, fun _ v hv => by
      simp only [List.mem_cons, List.not_mem_nil, or_false] at hv
      rcases hv with rfl | rfl <;> trivial⟩
  · cases h
theorem g_Mo_orders (as : List sv_V) (σ : sv_S) (x : Option sv_V × sv_S) (h : sv_gI n_Mo_orders as σ = some x) : ∃ r i as', as = sv_R r i :: as' ∧ sv_kd r i = .inl 12 := by
  obtain ⟨_, _, h, -⟩ := sv_b_some h
  unfold n_Mo_orders at h
  split at h
  · exact ⟨_, _, _, rfl, rfl⟩
  · cases h

set_option maxRecDepth 20000 in
theorem m_Mo_orders (l : Launch) : sv_M l yX12_orders cX12_orders 2 (some .int) (sv_gI n_Mo_orders) 3 := by
  refine sv_mI (E := ev_Mo_orders) (by decide +kernel) (ln_gen fk_12 kk_12 (sv_ns _ (fun _ => rfl) _)) rfl ?_ a_Mo_orders b_Mo_orders
  intro p e R s m args below meth c cells slots Q base ad dC dI cA n0 S hkn hR hf pc n f hcs
  refine sv_lk_all (P := fun pc (x : Nat × sv_F) => sv_cok p l e R s m args below meth c cells slots Q base ad dC dI cA true 2 n0 pc x.1 x.2) ?_ pc (n, f) hcs
  exact List.forall_mem_cons.mpr ⟨(sv_cV S hkn (m_Mo_wakes l) ⟨Nat.le_trans (by decide) hR.1, Nat.le_trans (by decide) hR.2⟩ (by decide) hf rfl (g_Mo_wakes) (sv_w5 tw_1156 tw_1158 tw_18 tw_65 tw_1159) (by decide +kernel) (sv_dc3 d_Mo_orders (pc := 5) rfl rfl)).I,
      List.forall_mem_cons.mpr ⟨(sv_cV S hkn (m_Mo_sets l) ⟨Nat.le_trans (by decide) hR.1, Nat.le_trans (by decide) hR.2⟩ (by decide) hf rfl (g_Mo_sets) (sv_w5 tw_1108 tw_1110 tw_8 tw_65 tw_1111) (by decide +kernel) (sv_dc3 d_Mo_orders (pc := 8) rfl rfl)).V,
      List.forall_mem_cons.mpr ⟨(sv_cV S hkn (m_Mo_of l) ⟨Nat.le_trans (by decide) hR.1, Nat.le_trans (by decide) hR.2⟩ (by decide) hf rfl (g_Mo_of) (sv_w5 tw_1120 tw_1122 tw_10 tw_65 tw_1123) (by decide +kernel) (sv_dc3 d_Mo_orders (pc := 14) rfl rfl)).I,
      fun _ h => absurd h List.not_mem_nil⟩⟩⟩
noncomputable def f_Mo_order (a1 : Int32) (σ : sv_S) : Option (Int32 × sv_S) :=
  sv_b (f_Mo_isDrummer a1 σ) (fun v1 σ2 =>
    sv_if (v1 = 0)
      (some ((-1000000001 : Int32), σ2))
      (sv_b (f_Mo_mayOrder a1 σ2) (fun v3 σ4 =>
        sv_if (v3 = 0)
          (some ((-1000000002 : Int32), σ4))
          (sv_b (f_Mo_orders a1 σ4) (fun v5 σ6 =>
            some (v5, σ6))))))
noncomputable def n_Mo_order : List sv_V → sv_S → Option (Int32 × sv_S)
  | [.inr (.inr (some (30, 0))), .inl a1], σ => f_Mo_order a1 σ
  | _, _ => none
def cd_Mo_order : sv_C := [(0, (.aload_n 0, (sv_N, (1, (0, []))))), (1, (.iload_n 1, (sv_N, (2, (0, []))))), (2, (.invokevirtual 113, (sv_N, (5, (0, []))))), (5, (.ifCond .ne 6, (sv_N, (8, (11, []))))), (8, (.ldc 84, (sv_N, (10, (0, []))))), (10, (.ireturn, (sv_N, (11, (0, []))))), (11, (.aload_n 0, (sv_N, (12, (0, []))))), (12, (.iload_n 1, (sv_N, (13, (0, []))))), (13, (.invokevirtual 147, (sv_N, (16, (0, []))))), (16, (.ifCond .eq 11, (sv_N, (19, (27, []))))), (19, (.aload_n 0, (sv_N, (20, (0, []))))), (20, (.iload_n 1, (sv_N, (21, (0, []))))), (21, (.invokevirtual 150, (sv_N, (24, (0, []))))), (24, (.goto 5, (sv_N, (27, (29, []))))), (27, (.ldc 153, (sv_N, (29, (0, []))))), (29, (.ireturn, (sv_N, (30, (0, [])))))]
noncomputable def ev_Mo_order : sv_E := (fun i => sv_lk i fl_12, (fun i => sv_lk i kc_12, (fun _ => 0, (true, (fun pc => sv_lk pc [(2, (2, .inl n_Mo_isDrummer)), (13, (2, .inl n_Mo_mayOrder)), (21, (2, .inl n_Mo_orders))], none)))))
noncomputable def kk_Mo_order : sv_K (Int32 × sv_S) := fun pc => sv_lk pc []
set_option maxRecDepth 20000 in
theorem e_Mo_order (a1 : Int32) (σ : sv_S) : sv_ex ev_Mo_order sv_rI kk_Mo_order cd_Mo_order 18 0 [some (.inr (.inr (some (30, 0)))), some (.inl a1)] [] σ = f_Mo_order a1 σ := by
  unfold f_Mo_order
  delta ev_Mo_order kk_Mo_order n_Mo_isDrummer n_Mo_mayOrder n_Mo_orders
  generalize f_Mo_isDrummer = c0
  generalize f_Mo_mayOrder = c1
  generalize f_Mo_orders = c2
  rfl
theorem d_Mo_order : cd_Mo_order.all (sv_dk cX12_order) = true := by decide +kernel
set_option maxRecDepth 20000 in
theorem b_Mo_order (Γ : sv_Ga) (res : Int32 × sv_S) (X : sv_Ok Γ ev_Mo_order cX12_order sv_rI res) (as : List sv_V) (σ : sv_S) (h : n_Mo_order as σ = some res) : sv_T Γ 0 (sv_e0 2 as) [] σ := by
  unfold n_Mo_order at h
  split at h
  · refine sv_run X d_Mo_order (K := kk_Mo_order) (sv_lk_all (P := fun pc (k : sv_Lo → List sv_V → sv_S → Option (Int32 × sv_S)) => ∀ lo st σ, k lo st σ = some res → sv_T Γ pc lo st σ) ?_) _ _ _ _ _ ((e_Mo_order _ _).trans h)
    clear h
    exact fun _ h => absurd h List.not_mem_nil
  · cases h
theorem a_Mo_order (as : List sv_V) (σ : sv_S) (x : Int32 × sv_S) (h : n_Mo_order as σ = some x) : sv_args 2 ev_Mo_order.2.2.2.1 as := by
  unfold n_Mo_order at h
  split at h
  · exact ⟨Nat.le_of_ble_eq_true rfl, fun _ v hv => by
      simp only [List.mem_cons, List.not_mem_nil, or_false] at hv
      rcases hv with rfl | rfl <;> trivial⟩
  · cases h
theorem g_Mo_order (as : List sv_V) (σ : sv_S) (x : Option sv_V × sv_S) (h : sv_gI n_Mo_order as σ = some x) : ∃ r i as', as = sv_R r i :: as' ∧ sv_kd r i = .inl 12 := by
  obtain ⟨_, _, h, -⟩ := sv_b_some h
  unfold n_Mo_order at h
  split at h
  · exact ⟨_, _, _, rfl, rfl⟩
  · cases h
theorem tw_23 : Cond.selects RX12 yX12_mayOrder yX12_mayOrder ∈ gw_tbl := gw_at 23 (by decide +kernel) rfl
theorem tw_24 : Cond.selects RX12 yX12_orders yX12_orders ∈ gw_tbl := gw_at 24 (by decide +kernel) rfl
theorem tw_1215 : Cond.methodLink RX12 147 yX12_mayOrder ∈ gw_tbl := gw_at 1215 (by decide +kernel) rfl
theorem tw_1217 : Cond.instanceMethod yX12_mayOrder ∈ gw_tbl := gw_at 1217 (by decide +kernel) rfl
theorem tw_1218 : Cond.code yX12_mayOrder cX12_mayOrder 2 (some .boolean) ∈ gw_tbl := gw_at 1218 (by decide +kernel) rfl
theorem tw_1219 : Cond.methodLink RX12 150 yX12_orders ∈ gw_tbl := gw_at 1219 (by decide +kernel) rfl
theorem tw_1221 : Cond.instanceMethod yX12_orders ∈ gw_tbl := gw_at 1221 (by decide +kernel) rfl
theorem tw_1222 : Cond.code yX12_orders cX12_orders 2 (some .int) ∈ gw_tbl := gw_at 1222 (by decide +kernel) rfl
set_option maxRecDepth 20000 in
theorem m_Mo_order (l : Launch) : sv_M l yX12_order cX12_order 2 (some .int) (sv_gI n_Mo_order) 4 := by
  refine sv_mI (E := ev_Mo_order) (by decide +kernel) (ln_gen fk_12 kk_12 (sv_ns _ (fun _ => rfl) _)) rfl ?_ a_Mo_order b_Mo_order
  intro p e R s m args below meth c cells slots Q base ad dC dI cA n0 S hkn hR hf pc n f hcs
  refine sv_lk_all (P := fun pc (x : Nat × sv_F) => sv_cok p l e R s m args below meth c cells slots Q base ad dC dI cA true 2 n0 pc x.1 x.2) ?_ pc (n, f) hcs
  exact List.forall_mem_cons.mpr ⟨(sv_cV S hkn (m_Mo_isDrummer l) ⟨Nat.le_trans (by decide) hR.1, Nat.le_trans (by decide) hR.2⟩ (by decide) hf rfl (g_Mo_isDrummer) (sv_w5 tw_1116 tw_1118 tw_9 tw_65 tw_1119) (by decide +kernel) (sv_dc3 d_Mo_order (pc := 2) rfl rfl)).I,
      List.forall_mem_cons.mpr ⟨(sv_cV S hkn (m_Mo_mayOrder l) ⟨Nat.le_trans (by decide) hR.1, Nat.le_trans (by decide) hR.2⟩ (by decide) hf rfl (g_Mo_mayOrder) (sv_w5 tw_1215 tw_1217 tw_23 tw_65 tw_1218) (by decide +kernel) (sv_dc3 d_Mo_order (pc := 13) rfl rfl)).I,
      List.forall_mem_cons.mpr ⟨(sv_cV S hkn (m_Mo_orders l) ⟨Nat.le_trans (by decide) hR.1, Nat.le_trans (by decide) hR.2⟩ (by decide) hf rfl (g_Mo_orders) (sv_w5 tw_1219 tw_1221 tw_24 tw_65 tw_1222) (by decide +kernel) (sv_dc3 d_Mo_order (pc := 21) rfl rfl)).I,
      fun _ h => absurd h List.not_mem_nil⟩⟩⟩
noncomputable def f_Mo_hush_29 (k4 : Int32 → Int32 → sv_S → Option (Int32 × sv_S)) (x2 : Int32) (y0 : Int32) (y1 : Int32) (σ : sv_S) : Option (Int32 × sv_S) :=
    sv_b0 (f_Mo_sets x2 (2 : Int32) (0 : Int32) σ) (fun σ1 =>
      sv_b0 (f_Mo_sets x2 (3 : Int32) (0 : Int32) σ1) (fun σ2 =>
        sv_b0 (f_Mo_sets x2 (4 : Int32) (0 : Int32) σ2) (fun σ3 =>
          k4 (y1 + y0) (x2 + (1 : Int32)) σ3)))
noncomputable def f_Mo_hush_4 : Nat → Int32 → Int32 → sv_S → Option (Int32 × sv_S)
  | 0, _, _, _ => none
  | n + 1, x1, x2, σ =>
    sv_g (sv_in (0 : Int32) 3086) (sv_if ((σ 31 0 ((0 : Int32).toNatClampNeg)) ≤ x2)
      (some (x1, σ))
      (sv_b (f_Mo_of x2 (2 : Int32) σ) (fun v1 σ2 =>
        sv_if (v1 ≤ 0)
          (f_Mo_hush_29 (f_Mo_hush_4 n) x2 (0 : Int32) x1 σ2)
          (f_Mo_hush_29 (f_Mo_hush_4 n) x2 (1 : Int32) x1 σ2))))
noncomputable def f_Mo_hush (σ : sv_S) : Option (Int32 × sv_S) :=
  f_Mo_hush_4 sv_fu (0 : Int32) (0 : Int32) σ
noncomputable def n_Mo_hush : List sv_V → sv_S → Option (Int32 × sv_S)
  | [.inr (.inr (some (30, 0)))], σ => f_Mo_hush σ
  | _, _ => none
def cd_Mo_hush : sv_C := [(0, (.iconst 0, (.inl (0 : Int32), (1, (0, []))))), (1, (.istore_n 1, (sv_N, (2, (0, []))))), (2, (.iconst 0, (.inl (0 : Int32), (3, (0, []))))), (3, (.istore_n 2, (sv_N, (4, (0, []))))), (4, (.iload_n 2, (sv_N, (5, (0, []))))), (5, (.aload_n 0, (sv_N, (6, (0, []))))), (6, (.getfield 7, (sv_N, (9, (0, []))))), (9, (.iconst 0, (.inl (0 : Int32), (10, (0, []))))), (10, (.iaload, (sv_N, (11, (0, []))))), (11, (.if_icmp .ge 47, (sv_N, (14, (58, []))))), (14, (.iload_n 1, (sv_N, (15, (0, []))))), (15, (.aload_n 0, (sv_N, (16, (0, []))))), (16, (.iload_n 2, (sv_N, (17, (0, []))))), (17, (.iconst 2, (.inl (2 : Int32), (18, (0, []))))), (18, (.invokevirtual 90, (sv_N, (21, (0, []))))), (21, (.ifCond .le 7, (sv_N, (24, (28, []))))), (24, (.iconst 1, (.inl (1 : Int32), (25, (0, []))))), (25, (.goto 4, (sv_N, (28, (29, []))))), (28, (.iconst 0, (.inl (0 : Int32), (29, (0, []))))), (29, (.iadd, (sv_N, (30, (0, []))))), (30, (.istore_n 1, (sv_N, (31, (0, []))))), (31, (.aload_n 0, (sv_N, (32, (0, []))))), (32, (.iload_n 2, (sv_N, (33, (0, []))))), (33, (.iconst 2, (.inl (2 : Int32), (34, (0, []))))), (34, (.iconst 0, (.inl (0 : Int32), (35, (0, []))))), (35, (.invokevirtual 76, (sv_N, (38, (0, []))))), (38, (.aload_n 0, (sv_N, (39, (0, []))))), (39, (.iload_n 2, (sv_N, (40, (0, []))))), (40, (.iconst 3, (.inl (3 : Int32), (41, (0, []))))), (41, (.iconst 0, (.inl (0 : Int32), (42, (0, []))))), (42, (.invokevirtual 76, (sv_N, (45, (0, []))))), (45, (.aload_n 0, (sv_N, (46, (0, []))))), (46, (.iload_n 2, (sv_N, (47, (0, []))))), (47, (.iconst 4, (.inl (4 : Int32), (48, (0, []))))), (48, (.iconst 0, (.inl (0 : Int32), (49, (0, []))))), (49, (.invokevirtual 76, (sv_N, (52, (0, []))))), (52, (.iinc 2 1, (.inl (1 : Int32), (55, (0, []))))), (55, (.goto (-51), (sv_N, (58, (4, []))))), (58, (.iload_n 1, (sv_N, (59, (0, []))))), (59, (.ireturn, (sv_N, (60, (0, [])))))]
noncomputable def ev_Mo_hush : sv_E := (fun i => sv_lk i fl_12, (fun i => sv_lk i kc_12, (fun _ => 0, (true, (fun pc => sv_lk pc [(18, (3, .inl n_Mo_of)), (35, (4, .inr (.inl n_Mo_sets))), (42, (4, .inr (.inl n_Mo_sets))), (49, (4, .inr (.inl n_Mo_sets)))], none)))))
noncomputable def kk_Mo_hush_29 (k4 : Int32 → Int32 → sv_S → Option (Int32 × sv_S)) : sv_K (Int32 × sv_S) := fun pc => sv_lk pc [(4, fun lo st σ => match lo, st with
    | [some (.inr (.inr (some (30, 0)))), some (.inl x1), some (.inl x2)], [] => k4 x1 x2 σ
    | _, _ => none)]
set_option maxRecDepth 20000 in
theorem e_Mo_hush_29 (k4 : Int32 → Int32 → sv_S → Option (Int32 × sv_S)) (x2 : Int32) (y0 : Int32) (y1 : Int32) (z1 : Option sv_V) (σ : sv_S) : sv_ex ev_Mo_hush sv_rI (kk_Mo_hush_29 k4) cd_Mo_hush 42 29 [some (.inr (.inr (some (30, 0)))), z1, some (.inl x2)] [.inl y0, .inl y1] σ = f_Mo_hush_29 k4 x2 y0 y1 σ := by
  unfold f_Mo_hush_29
  delta ev_Mo_hush kk_Mo_hush_29 n_Mo_of n_Mo_sets
  generalize f_Mo_of = c0
  generalize f_Mo_sets = c1
  generalize f_Mo_hush_4 = c2
  rfl
noncomputable def kk_Mo_hush_4 (n : Nat) : sv_K (Int32 × sv_S) := fun pc => sv_lk pc [(29, fun lo st σ => match lo, st with
    | [some (.inr (.inr (some (30, 0)))), _, some (.inl x2)], [.inl y0, .inl y1] => f_Mo_hush_29 (f_Mo_hush_4 n) x2 y0 y1 σ
    | _, _ => none)]
set_option maxRecDepth 20000 in
theorem e_Mo_hush_4 (n : Nat) (x1 : Int32) (x2 : Int32) (σ : sv_S) : sv_ex ev_Mo_hush sv_rI (kk_Mo_hush_4 n) cd_Mo_hush 42 4 [some (.inr (.inr (some (30, 0)))), some (.inl x1), some (.inl x2)] [] σ = f_Mo_hush_4 (n + 1) x1 x2 σ := by
  rw [f_Mo_hush_4.eq_2]
  delta ev_Mo_hush kk_Mo_hush_4 n_Mo_of n_Mo_sets
  generalize f_Mo_of = c0
  generalize f_Mo_sets = c1
  generalize f_Mo_hush_29 = c2
  generalize f_Mo_hush_4 = c3
  rfl
noncomputable def kk_Mo_hush : sv_K (Int32 × sv_S) := fun pc => sv_lk pc [(4, fun lo st σ => match lo, st with
    | [some (.inr (.inr (some (30, 0)))), some (.inl x1), some (.inl x2)], [] => f_Mo_hush_4 sv_fu x1 x2 σ
    | _, _ => none)]
set_option maxRecDepth 20000 in
theorem e_Mo_hush (σ : sv_S) : sv_ex ev_Mo_hush sv_rI kk_Mo_hush cd_Mo_hush 42 0 [some (.inr (.inr (some (30, 0)))), none, none] [] σ = f_Mo_hush σ := by
  unfold f_Mo_hush
  delta ev_Mo_hush kk_Mo_hush n_Mo_of n_Mo_sets
  generalize f_Mo_of = c0
  generalize f_Mo_sets = c1
  generalize f_Mo_hush_4 = c2
  rfl
theorem d_Mo_hush : cd_Mo_hush.all (sv_dk cX12_hush) = true := by decide +kernel
set_option maxRecDepth 20000 in
theorem w_Mo_hush_29 {Γ : sv_Ga} {res : Int32 × sv_S} (X : sv_Ok Γ ev_Mo_hush cX12_hush sv_rI res) (k4 : Int32 → Int32 → sv_S → Option (Int32 × sv_S)) (h4 : ∀ (x1 : Int32) (x2 : Int32) (σ : sv_S), k4 x1 x2 σ = some res → sv_T Γ 4 [some (.inr (.inr (some (30, 0)))), some (.inl x1), some (.inl x2)] [] σ) : ∀ (x2 : Int32) (y0 : Int32) (y1 : Int32) (z1 : Option sv_V) (σ : sv_S), f_Mo_hush_29 k4 x2 y0 y1 σ = some res → sv_T Γ 29 [some (.inr (.inr (some (30, 0)))), z1, some (.inl x2)] [.inl y0, .inl y1] σ := by
  intro x2 y0 y1 z1 σ h
  refine sv_run X d_Mo_hush (K := kk_Mo_hush_29 k4) (sv_lk_all (P := fun pc (k : sv_Lo → List sv_V → sv_S → Option (Int32 × sv_S)) => ∀ lo st σ, k lo st σ = some res → sv_T Γ pc lo st σ) ?_) _ _ _ _ _ ((e_Mo_hush_29 k4 x2 y0 y1 z1 σ).trans h)
  clear h
  refine List.forall_mem_cons.mpr ⟨fun lo st σ h => ?_, fun _ h => absurd h List.not_mem_nil⟩
  · dsimp only at h
    split at h
    · exact h4 _ _ _ h
    · cases h

set_option maxRecDepth 20000 in
theorem w_Mo_hush_4 {Γ : sv_Ga} {res : Int32 × sv_S} (X : sv_Ok Γ ev_Mo_hush cX12_hush sv_rI res) : ∀ (n : Nat) (x1 : Int32) (x2 : Int32) (σ : sv_S), f_Mo_hush_4 n x1 x2 σ = some res → sv_T Γ 4 [some (.inr (.inr (some (30, 0)))), some (.inl x1), some (.inl x2)] [] σ := by
  intro n
  induction n with
  | zero =>
    intro x1 x2 σ h
    rw [f_Mo_hush_4.eq_1] at h
    cases h
  | succ n ih =>
    intro x1 x2 σ h
    refine sv_run X d_Mo_hush (K := kk_Mo_hush_4 n) (sv_lk_all (P := fun pc (k : sv_Lo → List sv_V → sv_S → Option (Int32 × sv_S)) => ∀ lo st σ, k lo st σ = some res → sv_T Γ pc lo st σ) ?_) _ _ _ _ _ ((e_Mo_hush_4 n x1 x2 σ).trans h)
    clear h
    refine List.forall_mem_cons.mpr ⟨fun lo st σ h => ?_, fun _ h => absurd h List.not_mem_nil⟩
    · dsimp only at h
      split at h
      · exact w_Mo_hush_29 X _ ih _ _ _ _ _ h
      · cases h

set_option maxRecDepth 20000 in
theorem b_Mo_hush (Γ : sv_Ga) (res : Int32 × sv_S) (X : sv_Ok Γ ev_Mo_hush cX12_hush sv_rI res) (as : List sv_V) (σ : sv_S) (h : n_Mo_hush as σ = some res) : sv_T Γ 0 (sv_e0 3 as) [] σ := by
  unfold n_Mo_hush at h
  split at h
  · refine sv_run X d_Mo_hush (K := kk_Mo_hush) (sv_lk_all (P := fun pc (k : sv_Lo → List sv_V → sv_S → Option (Int32 × sv_S)) => ∀ lo st σ, k lo st σ = some res → sv_T Γ pc lo st σ) ?_) _ _ _ _ _ ((e_Mo_hush _).trans h)
    clear h
    refine List.forall_mem_cons.mpr ⟨fun lo st σ h => ?_, fun _ h => absurd h List.not_mem_nil⟩
    · dsimp only at h
      split at h
      · exact w_Mo_hush_4 X _ _ _ _ h
      · cases h
  · cases h
theorem a_Mo_hush (as : List sv_V) (σ : sv_S) (x : Int32 × sv_S) (h : n_Mo_hush as σ = some x) : sv_args 3 ev_Mo_hush.2.2.2.1 as := by
  unfold n_Mo_hush at h
  split at h
  · exact ⟨Nat.le_of_ble_eq_true rfl, fun _ v hv => by
      simp only [List.mem_cons, List.not_mem_nil, or_false] at hv
      rcases hv with rfl <;> trivial⟩
  · cases h
theorem g_Mo_hush (as : List sv_V) (σ : sv_S) (x : Option sv_V × sv_S) (h : sv_gI n_Mo_hush as σ = some x) : ∃ r i as', as = sv_R r i :: as' ∧ sv_kd r i = .inl 12 := by
  obtain ⟨_, _, h, -⟩ := sv_b_some h
  unfold n_Mo_hush at h
  split at h
  · exact ⟨_, _, _, rfl, rfl⟩
  · cases h

set_option maxRecDepth 20000 in
theorem m_Mo_hush (l : Launch) : sv_M l yX12_hush cX12_hush 3 (some .int) (sv_gI n_Mo_hush) 1 := by
  refine sv_mI (E := ev_Mo_hush) (by decide +kernel) (ln_gen fk_12 kk_12 (sv_ns _ (fun _ => rfl) _)) rfl ?_ a_Mo_hush b_Mo_hush
  intro p e R s m args below meth c cells slots Q base ad dC dI cA n0 S hkn hR hf pc n f hcs
  refine sv_lk_all (P := fun pc (x : Nat × sv_F) => sv_cok p l e R s m args below meth c cells slots Q base ad dC dI cA true 3 n0 pc x.1 x.2) ?_ pc (n, f) hcs
  exact List.forall_mem_cons.mpr ⟨(sv_cV S hkn (m_Mo_of l) ⟨Nat.le_trans (by decide) hR.1, Nat.le_trans (by decide) hR.2⟩ (by decide) hf rfl (g_Mo_of) (sv_w5 tw_1120 tw_1122 tw_10 tw_65 tw_1123) (by decide +kernel) (sv_dc3 d_Mo_hush (pc := 18) rfl rfl)).I,
      List.forall_mem_cons.mpr ⟨(sv_cV S hkn (m_Mo_sets l) ⟨Nat.le_trans (by decide) hR.1, Nat.le_trans (by decide) hR.2⟩ (by decide) hf rfl (g_Mo_sets) (sv_w5 tw_1108 tw_1110 tw_8 tw_65 tw_1111) (by decide +kernel) (sv_dc3 d_Mo_hush (pc := 35) rfl rfl)).V,
      List.forall_mem_cons.mpr ⟨(sv_cV S hkn (m_Mo_sets l) ⟨Nat.le_trans (by decide) hR.1, Nat.le_trans (by decide) hR.2⟩ (by decide) hf rfl (g_Mo_sets) (sv_w5 tw_1108 tw_1110 tw_8 tw_65 tw_1111) (by decide +kernel) (sv_dc3 d_Mo_hush (pc := 42) rfl rfl)).V,
      List.forall_mem_cons.mpr ⟨(sv_cV S hkn (m_Mo_sets l) ⟨Nat.le_trans (by decide) hR.1, Nat.le_trans (by decide) hR.2⟩ (by decide) hf rfl (g_Mo_sets) (sv_w5 tw_1108 tw_1110 tw_8 tw_65 tw_1111) (by decide +kernel) (sv_dc3 d_Mo_hush (pc := 49) rfl rfl)).V,
      fun _ h => absurd h List.not_mem_nil⟩⟩⟩⟩
noncomputable def f_Mo_goesOn_159 : Nat → Int32 → Int32 → sv_S → Option (Int32 × sv_S)
  | 0, _, _, _ => none
  | n + 1, x2, x3, σ =>
    sv_g (sv_in (0 : Int32) 3086) (sv_if ((σ 31 0 ((0 : Int32).toNatClampNeg)) ≤ x3)
      (some (x2, σ))
      (sv_b (f_Mo_of x3 (3 : Int32) σ) (fun v1 σ2 =>
        sv_b0 (f_Mo_sets x3 (4 : Int32) v1 σ2) (fun σ3 =>
          sv_g (sv_in x3 10) (sv_b0 (f_Mo_sets x3 (3 : Int32) (σ3 31 12 (x3.toNatClampNeg)) σ3) (fun σ4 =>
            sv_b (f_Mo_of x3 (2 : Int32) σ4) (fun v5 σ6 =>
              sv_if (v5 = (9 : Int32))
                (sv_g (sv_in x3 10) (sv_if ((σ6 31 12 (x3.toNatClampNeg)) = (9 : Int32))
                  (f_Mo_goesOn_159 n x2 (x3 + (1 : Int32)) σ6)
                  (sv_b (f_Mo_of x3 (5 : Int32) σ6) (fun v7 σ8 =>
                    sv_b0 (f_Mo_sets x3 (5 : Int32) (v7 + (1 : Int32)) σ8) (fun σ9 =>
                      sv_b (f_Mo_of x3 (6 : Int32) σ9) (fun v10 σ11 =>
                        sv_if (v10 = 0)
                          (sv_g (sv_in (3 : Int32) 3086) (sv_b0 (f_Mo_sets x3 (6 : Int32) (σ11 31 0 ((3 : Int32).toNatClampNeg)) σ11) (fun σ12 =>
                            f_Mo_goesOn_159 n (x2 ||| ((1 : Int32) <<< (x3 &&& 31))) (x3 + (1 : Int32)) σ12)))
                          (sv_b (f_Mo_of x3 (6 : Int32) σ11) (fun v13 σ14 =>
                            sv_b0 (f_Mo_sets x3 (6 : Int32) v13 σ14) (fun σ15 =>
                              f_Mo_goesOn_159 n (x2 ||| ((1 : Int32) <<< (x3 &&& 31))) (x3 + (1 : Int32)) σ15)))))))))
                (f_Mo_goesOn_159 n x2 (x3 + (1 : Int32)) σ6))))))))
noncomputable def f_Mo_goesOn_116 (k40 : Int32 → Int32 → sv_S → Option (Int32 × sv_S)) (x1 : Int32) (x2 : Int32) (x3 : Int32) (y0 : Int32) (σ : sv_S) : Option (Int32 × sv_S) :=
    sv_if (y0 = 0)
      (sv_b (f_Mo_stepFrom x2 x3 σ) (fun v1 σ2 =>
        sv_b0 (f_Mo_sets x2 (2 : Int32) v1 σ2) (fun σ3 =>
          k40 x1 (x2 + (1 : Int32)) σ3)))
      (sv_b0 (f_Mo_sets x2 (2 : Int32) x3 σ) (fun σ4 =>
        k40 x1 (x2 + (1 : Int32)) σ4))
noncomputable def f_Mo_goesOn_40 : Nat → Int32 → Int32 → sv_S → Option (Int32 × sv_S)
  | 0, _, _, _ => none
  | n + 1, x1, x2, σ =>
    sv_g (sv_in (0 : Int32) 3086) (sv_if ((σ 31 0 ((0 : Int32).toNatClampNeg)) ≤ x2)
      (sv_g (sv_in (3 : Int32) 3086) (sv_g (sv_in (3 : Int32) 3086) (f_Mo_goesOn_159 sv_fu (0 : Int32) (0 : Int32) (sv_up σ 31 0 ((3 : Int32).toNatClampNeg) ((σ 31 0 ((3 : Int32).toNatClampNeg)) + (1 : Int32))))))
      (sv_b (f_Mo_of x2 (2 : Int32) σ) (fun v1 σ2 =>
        sv_g (sv_in x2 10) (sv_if (v1 = 0)
          (sv_if (((x1 >>> (x2 &&& 31)) &&& (1 : Int32)) = (1 : Int32))
            (sv_b (f_Mo_wakes x2 (sv_up σ2 31 12 (x2.toNatClampNeg) v1)) (fun v3 σ4 =>
              sv_b0 (f_Mo_sets x2 (2 : Int32) v3 σ4) (fun σ5 =>
                f_Mo_goesOn_40 n x1 (x2 + (1 : Int32)) σ5)))
            (sv_b0 (f_Mo_sets x2 (2 : Int32) (0 : Int32) (sv_up σ2 31 12 (x2.toNatClampNeg) v1)) (fun σ6 =>
              f_Mo_goesOn_40 n x1 (x2 + (1 : Int32)) σ6)))
          (sv_b (f_Mo_drawn (sv_up σ2 31 12 (x2.toNatClampNeg) v1)) (fun v7 σ8 =>
            sv_g (¬ (100 : Int32) = 0) (sv_g (sv_in (2 : Int32) 3086) (sv_if ((σ8 31 0 ((2 : Int32).toNatClampNeg)) ≤ (v7 - v7 / (100 : Int32) * (100 : Int32)))
              (f_Mo_goesOn_116 (f_Mo_goesOn_40 n) x1 x2 v1 (0 : Int32) σ8)
              (f_Mo_goesOn_116 (f_Mo_goesOn_40 n) x1 x2 v1 (1 : Int32) σ8)))))))))
noncomputable def f_Mo_goesOn_4 : Nat → Int32 → Int32 → sv_S → Option (Int32 × sv_S)
  | 0, _, _, _ => none
  | n + 1, x1, x2, σ =>
    sv_g (sv_in (0 : Int32) 3086) (sv_if ((σ 31 0 ((0 : Int32).toNatClampNeg)) ≤ x2)
      (f_Mo_goesOn_40 sv_fu x1 (0 : Int32) σ)
      (sv_b (f_Mo_hears x2 σ) (fun v1 σ2 =>
        sv_if (v1 = 0)
          (f_Mo_goesOn_4 n (x1 ||| (0 : Int32)) (x2 + (1 : Int32)) σ2)
          (f_Mo_goesOn_4 n (x1 ||| ((1 : Int32) <<< (x2 &&& 31))) (x2 + (1 : Int32)) σ2))))
noncomputable def f_Mo_goesOn (σ : sv_S) : Option (Int32 × sv_S) :=
  f_Mo_goesOn_4 sv_fu (0 : Int32) (0 : Int32) σ
noncomputable def n_Mo_goesOn : List sv_V → sv_S → Option (Int32 × sv_S)
  | [.inr (.inr (some (30, 0)))], σ => f_Mo_goesOn σ
  | _, _ => none
def cd_Mo_goesOn : sv_C := [(0, (.iconst 0, (.inl (0 : Int32), (1, (0, []))))), (1, (.istore_n 1, (sv_N, (2, (0, []))))), (2, (.iconst 0, (.inl (0 : Int32), (3, (0, []))))), (3, (.istore_n 2, (sv_N, (4, (0, []))))), (4, (.iload_n 2, (sv_N, (5, (0, []))))), (5, (.aload_n 0, (sv_N, (6, (0, []))))), (6, (.getfield 7, (sv_N, (9, (0, []))))), (9, (.iconst 0, (.inl (0 : Int32), (10, (0, []))))), (10, (.iaload, (sv_N, (11, (0, []))))), (11, (.if_icmp .ge 27, (sv_N, (14, (38, []))))), (14, (.iload_n 1, (sv_N, (15, (0, []))))), (15, (.aload_n 0, (sv_N, (16, (0, []))))), (16, (.iload_n 2, (sv_N, (17, (0, []))))), (17, (.invokevirtual 117, (sv_N, (20, (0, []))))), (20, (.ifCond .eq 9, (sv_N, (23, (29, []))))), (23, (.iconst 1, (.inl (1 : Int32), (24, (0, []))))), (24, (.iload_n 2, (sv_N, (25, (0, []))))), (25, (.ishl, (sv_N, (26, (0, []))))), (26, (.goto 4, (sv_N, (29, (30, []))))), (29, (.iconst 0, (.inl (0 : Int32), (30, (0, []))))), (30, (.ior, (sv_N, (31, (0, []))))), (31, (.istore_n 1, (sv_N, (32, (0, []))))), (32, (.iinc 2 1, (.inl (1 : Int32), (35, (0, []))))), (35, (.goto (-31), (sv_N, (38, (4, []))))), (38, (.iconst 0, (.inl (0 : Int32), (39, (0, []))))), (39, (.istore_n 2, (sv_N, (40, (0, []))))), (40, (.iload_n 2, (sv_N, (41, (0, []))))), (41, (.aload_n 0, (sv_N, (42, (0, []))))), (42, (.getfield 7, (sv_N, (45, (0, []))))), (45, (.iconst 0, (.inl (0 : Int32), (46, (0, []))))), (46, (.iaload, (sv_N, (47, (0, []))))), (47, (.if_icmp .ge 98, (sv_N, (50, (145, []))))), (50, (.aload_n 0, (sv_N, (51, (0, []))))), (51, (.iload_n 2, (sv_N, (52, (0, []))))), (52, (.iconst 2, (.inl (2 : Int32), (53, (0, []))))), (53, (.invokevirtual 90, (sv_N, (56, (0, []))))), (56, (.istore_n 3, (sv_N, (57, (0, []))))), (57, (.aload_n 0, (sv_N, (58, (0, []))))), (58, (.getfield 43, (sv_N, (61, (0, []))))), (61, (.iload_n 2, (sv_N, (62, (0, []))))), (62, (.iload_n 3, (sv_N, (63, (0, []))))), (63, (.iastore, (sv_N, (64, (0, []))))), (64, (.iload_n 3, (sv_N, (65, (0, []))))), (65, (.ifCond .ne 30, (sv_N, (68, (95, []))))), (68, (.aload_n 0, (sv_N, (69, (0, []))))), (69, (.iload_n 2, (sv_N, (70, (0, []))))), (70, (.iconst 2, (.inl (2 : Int32), (71, (0, []))))), (71, (.iload_n 1, (sv_N, (72, (0, []))))), (72, (.iload_n 2, (sv_N, (73, (0, []))))), (73, (.ishr, (sv_N, (74, (0, []))))), (74, (.iconst 1, (.inl (1 : Int32), (75, (0, []))))), (75, (.iand, (sv_N, (76, (0, []))))), (76, (.iconst 1, (.inl (1 : Int32), (77, (0, []))))), (77, (.if_icmp .ne 11, (sv_N, (80, (88, []))))), (80, (.aload_n 0, (sv_N, (81, (0, []))))), (81, (.iload_n 2, (sv_N, (82, (0, []))))), (82, (.invokevirtual 120, (sv_N, (85, (0, []))))), (85, (.goto 4, (sv_N, (88, (89, []))))), (88, (.iconst 0, (.inl (0 : Int32), (89, (0, []))))), (89, (.invokevirtual 76, (sv_N, (92, (0, []))))), (92, (.goto 47, (sv_N, (95, (139, []))))), (95, (.aload_n 0, (sv_N, (96, (0, []))))), (96, (.invokevirtual 143, (sv_N, (99, (0, []))))), (99, (.bipush 100, (.inl (100 : Int32), (101, (0, []))))), (101, (.irem, (sv_N, (102, (0, []))))), (102, (.aload_n 0, (sv_N, (103, (0, []))))), (103, (.getfield 7, (sv_N, (106, (0, []))))), (106, (.iconst 2, (.inl (2 : Int32), (107, (0, []))))), (107, (.iaload, (sv_N, (108, (0, []))))), (108, (.if_icmp .ge 7, (sv_N, (111, (115, []))))), (111, (.iconst 1, (.inl (1 : Int32), (112, (0, []))))), (112, (.goto 4, (sv_N, (115, (116, []))))), (115, (.iconst 0, (.inl (0 : Int32), (116, (0, []))))), (116, (.istore 4, (sv_N, (118, (0, []))))), (118, (.aload_n 0, (sv_N, (119, (0, []))))), (119, (.iload_n 2, (sv_N, (120, (0, []))))), (120, (.iconst 2, (.inl (2 : Int32), (121, (0, []))))), (121, (.iload 4, (sv_N, (123, (0, []))))), (123, (.ifCond .eq 7, (sv_N, (126, (130, []))))), (126, (.iload_n 3, (sv_N, (127, (0, []))))), (127, (.goto 9, (sv_N, (130, (136, []))))), (130, (.aload_n 0, (sv_N, (131, (0, []))))), (131, (.iload_n 2, (sv_N, (132, (0, []))))), (132, (.iload_n 3, (sv_N, (133, (0, []))))), (133, (.invokevirtual 123, (sv_N, (136, (0, []))))), (136, (.invokevirtual 76, (sv_N, (139, (0, []))))), (139, (.iinc 2 1, (.inl (1 : Int32), (142, (0, []))))), (142, (.goto (-102), (sv_N, (145, (40, []))))), (145, (.aload_n 0, (sv_N, (146, (0, []))))), (146, (.getfield 7, (sv_N, (149, (0, []))))), (149, (.iconst 3, (.inl (3 : Int32), (150, (0, []))))), (150, (.dup2, (sv_N, (151, (0, []))))), (151, (.iaload, (sv_N, (152, (0, []))))), (152, (.iconst 1, (.inl (1 : Int32), (153, (0, []))))), (153, (.iadd, (sv_N, (154, (0, []))))), (154, (.iastore, (sv_N, (155, (0, []))))), (155, (.iconst 0, (.inl (0 : Int32), (156, (0, []))))), (156, (.istore_n 2, (sv_N, (157, (0, []))))), (157, (.iconst 0, (.inl (0 : Int32), (158, (0, []))))), (158, (.istore_n 3, (sv_N, (159, (0, []))))), (159, (.iload_n 3, (sv_N, (160, (0, []))))), (160, (.aload_n 0, (sv_N, (161, (0, []))))), (161, (.getfield 7, (sv_N, (164, (0, []))))), (164, (.iconst 0, (.inl (0 : Int32), (165, (0, []))))), (165, (.iaload, (sv_N, (166, (0, []))))), (166, (.if_icmp .ge 108, (sv_N, (169, (274, []))))), (169, (.aload_n 0, (sv_N, (170, (0, []))))), (170, (.iload_n 3, (sv_N, (171, (0, []))))), (171, (.iconst 4, (.inl (4 : Int32), (172, (0, []))))), (172, (.aload_n 0, (sv_N, (173, (0, []))))), (173, (.iload_n 3, (sv_N, (174, (0, []))))), (174, (.iconst 3, (.inl (3 : Int32), (175, (0, []))))), (175, (.invokevirtual 90, (sv_N, (178, (0, []))))), (178, (.invokevirtual 76, (sv_N, (181, (0, []))))), (181, (.aload_n 0, (sv_N, (182, (0, []))))), (182, (.iload_n 3, (sv_N, (183, (0, []))))), (183, (.iconst 3, (.inl (3 : Int32), (184, (0, []))))), (184, (.aload_n 0, (sv_N, (185, (0, []))))), (185, (.getfield 43, (sv_N, (188, (0, []))))), (188, (.iload_n 3, (sv_N, (189, (0, []))))), (189, (.iaload, (sv_N, (190, (0, []))))), (190, (.invokevirtual 76, (sv_N, (193, (0, []))))), (193, (.aload_n 0, (sv_N, (194, (0, []))))), (194, (.iload_n 3, (sv_N, (195, (0, []))))), (195, (.iconst 2, (.inl (2 : Int32), (196, (0, []))))), (196, (.invokevirtual 90, (sv_N, (199, (0, []))))), (199, (.bipush 9, (.inl (9 : Int32), (201, (0, []))))), (201, (.if_icmp .ne 67, (sv_N, (204, (268, []))))), (204, (.aload_n 0, (sv_N, (205, (0, []))))), (205, (.getfield 43, (sv_N, (208, (0, []))))), (208, (.iload_n 3, (sv_N, (209, (0, []))))), (209, (.iaload, (sv_N, (210, (0, []))))), (210, (.bipush 9, (.inl (9 : Int32), (212, (0, []))))), (212, (.if_icmp .eq 56, (sv_N, (215, (268, []))))), (215, (.iload_n 2, (sv_N, (216, (0, []))))), (216, (.iconst 1, (.inl (1 : Int32), (217, (0, []))))), (217, (.iload_n 3, (sv_N, (218, (0, []))))), (218, (.ishl, (sv_N, (219, (0, []))))), (219, (.ior, (sv_N, (220, (0, []))))), (220, (.istore_n 2, (sv_N, (221, (0, []))))), (221, (.aload_n 0, (sv_N, (222, (0, []))))), (222, (.iload_n 3, (sv_N, (223, (0, []))))), (223, (.iconst 5, (.inl (5 : Int32), (224, (0, []))))), (224, (.aload_n 0, (sv_N, (225, (0, []))))), (225, (.iload_n 3, (sv_N, (226, (0, []))))), (226, (.iconst 5, (.inl (5 : Int32), (227, (0, []))))), (227, (.invokevirtual 90, (sv_N, (230, (0, []))))), (230, (.iconst 1, (.inl (1 : Int32), (231, (0, []))))), (231, (.iadd, (sv_N, (232, (0, []))))), (232, (.invokevirtual 76, (sv_N, (235, (0, []))))), (235, (.aload_n 0, (sv_N, (236, (0, []))))), (236, (.iload_n 3, (sv_N, (237, (0, []))))), (237, (.bipush 6, (.inl (6 : Int32), (239, (0, []))))), (239, (.aload_n 0, (sv_N, (240, (0, []))))), (240, (.iload_n 3, (sv_N, (241, (0, []))))), (241, (.bipush 6, (.inl (6 : Int32), (243, (0, []))))), (243, (.invokevirtual 90, (sv_N, (246, (0, []))))), (246, (.ifCond .ne 12, (sv_N, (249, (258, []))))), (249, (.aload_n 0, (sv_N, (250, (0, []))))), (250, (.getfield 7, (sv_N, (253, (0, []))))), (253, (.iconst 3, (.inl (3 : Int32), (254, (0, []))))), (254, (.iaload, (sv_N, (255, (0, []))))), (255, (.goto 10, (sv_N, (258, (265, []))))), (258, (.aload_n 0, (sv_N, (259, (0, []))))), (259, (.iload_n 3, (sv_N, (260, (0, []))))), (260, (.bipush 6, (.inl (6 : Int32), (262, (0, []))))), (262, (.invokevirtual 90, (sv_N, (265, (0, []))))), (265, (.invokevirtual 76, (sv_N, (268, (0, []))))), (268, (.iinc 3 1, (.inl (1 : Int32), (271, (0, []))))), (271, (.goto (-112), (sv_N, (274, (159, []))))), (274, (.iload_n 2, (sv_N, (275, (0, []))))), (275, (.ireturn, (sv_N, (276, (0, [])))))]
noncomputable def ev_Mo_goesOn : sv_E := (fun i => sv_lk i fl_12, (fun i => sv_lk i kc_12, (fun _ => 0, (true, (fun pc => sv_lk pc [(17, (2, .inl n_Mo_hears)), (53, (3, .inl n_Mo_of)), (82, (2, .inl n_Mo_wakes)), (89, (4, .inr (.inl n_Mo_sets))), (96, (1, .inl n_Mo_drawn)), (133, (3, .inl n_Mo_stepFrom)), (136, (4, .inr (.inl n_Mo_sets))), (175, (3, .inl n_Mo_of)), (178, (4, .inr (.inl n_Mo_sets))), (190, (4, .inr (.inl n_Mo_sets))), (196, (3, .inl n_Mo_of)), (227, (3, .inl n_Mo_of)), (232, (4, .inr (.inl n_Mo_sets))), (243, (3, .inl n_Mo_of)), (262, (3, .inl n_Mo_of)), (265, (4, .inr (.inl n_Mo_sets)))], none)))))
noncomputable def kk_Mo_goesOn_159 (n : Nat) : sv_K (Int32 × sv_S) := fun pc => sv_lk pc [(159, fun lo st σ => match lo, st with
    | [some (.inr (.inr (some (30, 0)))), _, some (.inl x2), some (.inl x3), _], [] => f_Mo_goesOn_159 n x2 x3 σ
    | _, _ => none)]
set_option maxRecDepth 20000 in
theorem e_Mo_goesOn_159 (n : Nat) (x2 : Int32) (x3 : Int32) (z1 z4 : Option sv_V) (σ : sv_S) : sv_ex ev_Mo_goesOn sv_rI (kk_Mo_goesOn_159 n) cd_Mo_goesOn 174 159 [some (.inr (.inr (some (30, 0)))), z1, some (.inl x2), some (.inl x3), z4] [] σ = f_Mo_goesOn_159 (n + 1) x2 x3 σ := by
  rw [f_Mo_goesOn_159.eq_2]
  delta ev_Mo_goesOn kk_Mo_goesOn_159 n_Mo_hears n_Mo_of n_Mo_wakes n_Mo_sets n_Mo_drawn n_Mo_stepFrom
  generalize f_Mo_hears = c0
  generalize f_Mo_of = c1
  generalize f_Mo_wakes = c2
  generalize f_Mo_sets = c3
  generalize f_Mo_drawn = c4
  generalize f_Mo_stepFrom = c5
  generalize f_Mo_goesOn_159 = c6
  rfl
noncomputable def kk_Mo_goesOn_116 (k40 : Int32 → Int32 → sv_S → Option (Int32 × sv_S)) : sv_K (Int32 × sv_S) := fun pc => sv_lk pc [(40, fun lo st σ => match lo, st with
    | [some (.inr (.inr (some (30, 0)))), some (.inl x1), some (.inl x2), _, _], [] => k40 x1 x2 σ
    | _, _ => none)]
set_option maxRecDepth 20000 in
theorem e_Mo_goesOn_116 (k40 : Int32 → Int32 → sv_S → Option (Int32 × sv_S)) (x1 : Int32) (x2 : Int32) (x3 : Int32) (y0 : Int32) (z4 : Option sv_V) (σ : sv_S) : sv_ex ev_Mo_goesOn sv_rI (kk_Mo_goesOn_116 k40) cd_Mo_goesOn 174 116 [some (.inr (.inr (some (30, 0)))), some (.inl x1), some (.inl x2), some (.inl x3), z4] [.inl y0] σ = f_Mo_goesOn_116 k40 x1 x2 x3 y0 σ := by
  unfold f_Mo_goesOn_116
  delta ev_Mo_goesOn kk_Mo_goesOn_116 n_Mo_hears n_Mo_of n_Mo_wakes n_Mo_sets n_Mo_drawn n_Mo_stepFrom
  generalize f_Mo_hears = c0
  generalize f_Mo_of = c1
  generalize f_Mo_wakes = c2
  generalize f_Mo_sets = c3
  generalize f_Mo_drawn = c4
  generalize f_Mo_stepFrom = c5
  generalize f_Mo_goesOn_40 = c6
  rfl
noncomputable def kk_Mo_goesOn_40 (n : Nat) : sv_K (Int32 × sv_S) := fun pc => sv_lk pc [(40, fun lo st σ => match lo, st with
    | [some (.inr (.inr (some (30, 0)))), some (.inl x1), some (.inl x2), _, _], [] => f_Mo_goesOn_40 n x1 x2 σ
    | _, _ => none),
  (116, fun lo st σ => match lo, st with
    | [some (.inr (.inr (some (30, 0)))), some (.inl x1), some (.inl x2), some (.inl x3), _], [.inl y0] => f_Mo_goesOn_116 (f_Mo_goesOn_40 n) x1 x2 x3 y0 σ
    | _, _ => none),
  (159, fun lo st σ => match lo, st with
    | [some (.inr (.inr (some (30, 0)))), _, some (.inl x2), some (.inl x3), _], [] => f_Mo_goesOn_159 sv_fu x2 x3 σ
    | _, _ => none)]
set_option maxRecDepth 20000 in
theorem e_Mo_goesOn_40 (n : Nat) (x1 : Int32) (x2 : Int32) (z3 z4 : Option sv_V) (σ : sv_S) : sv_ex ev_Mo_goesOn sv_rI (kk_Mo_goesOn_40 n) cd_Mo_goesOn 174 40 [some (.inr (.inr (some (30, 0)))), some (.inl x1), some (.inl x2), z3, z4] [] σ = f_Mo_goesOn_40 (n + 1) x1 x2 σ := by
  rw [f_Mo_goesOn_40.eq_2]
  delta ev_Mo_goesOn kk_Mo_goesOn_40 n_Mo_hears n_Mo_of n_Mo_wakes n_Mo_sets n_Mo_drawn n_Mo_stepFrom
  generalize f_Mo_hears = c0
  generalize f_Mo_of = c1
  generalize f_Mo_wakes = c2
  generalize f_Mo_sets = c3
  generalize f_Mo_drawn = c4
  generalize f_Mo_stepFrom = c5
  generalize f_Mo_goesOn_40 = c6
  generalize f_Mo_goesOn_116 = c7
  generalize f_Mo_goesOn_159 = c8
  rfl
noncomputable def kk_Mo_goesOn_4 (n : Nat) : sv_K (Int32 × sv_S) := fun pc => sv_lk pc [(4, fun lo st σ => match lo, st with
    | [some (.inr (.inr (some (30, 0)))), some (.inl x1), some (.inl x2), _, _], [] => f_Mo_goesOn_4 n x1 x2 σ
    | _, _ => none),
  (40, fun lo st σ => match lo, st with
    | [some (.inr (.inr (some (30, 0)))), some (.inl x1), some (.inl x2), _, _], [] => f_Mo_goesOn_40 sv_fu x1 x2 σ
    | _, _ => none)]
set_option maxRecDepth 20000 in
theorem e_Mo_goesOn_4 (n : Nat) (x1 : Int32) (x2 : Int32) (z3 z4 : Option sv_V) (σ : sv_S) : sv_ex ev_Mo_goesOn sv_rI (kk_Mo_goesOn_4 n) cd_Mo_goesOn 174 4 [some (.inr (.inr (some (30, 0)))), some (.inl x1), some (.inl x2), z3, z4] [] σ = f_Mo_goesOn_4 (n + 1) x1 x2 σ := by
  rw [f_Mo_goesOn_4.eq_2]
  delta ev_Mo_goesOn kk_Mo_goesOn_4 n_Mo_hears n_Mo_of n_Mo_wakes n_Mo_sets n_Mo_drawn n_Mo_stepFrom
  generalize f_Mo_hears = c0
  generalize f_Mo_of = c1
  generalize f_Mo_wakes = c2
  generalize f_Mo_sets = c3
  generalize f_Mo_drawn = c4
  generalize f_Mo_stepFrom = c5
  generalize f_Mo_goesOn_4 = c6
  generalize f_Mo_goesOn_40 = c7
  rfl
noncomputable def kk_Mo_goesOn : sv_K (Int32 × sv_S) := fun pc => sv_lk pc [(4, fun lo st σ => match lo, st with
    | [some (.inr (.inr (some (30, 0)))), some (.inl x1), some (.inl x2), _, _], [] => f_Mo_goesOn_4 sv_fu x1 x2 σ
    | _, _ => none)]
set_option maxRecDepth 20000 in
theorem e_Mo_goesOn (σ : sv_S) : sv_ex ev_Mo_goesOn sv_rI kk_Mo_goesOn cd_Mo_goesOn 174 0 [some (.inr (.inr (some (30, 0)))), none, none, none, none] [] σ = f_Mo_goesOn σ := by
  unfold f_Mo_goesOn
  delta ev_Mo_goesOn kk_Mo_goesOn n_Mo_hears n_Mo_of n_Mo_wakes n_Mo_sets n_Mo_drawn n_Mo_stepFrom
  generalize f_Mo_hears = c0
  generalize f_Mo_of = c1
  generalize f_Mo_wakes = c2
  generalize f_Mo_sets = c3
  generalize f_Mo_drawn = c4
  generalize f_Mo_stepFrom = c5
  generalize f_Mo_goesOn_4 = c6
  rfl
theorem d_Mo_goesOn : cd_Mo_goesOn.all (sv_dk cX12_goesOn) = true := by decide +kernel
set_option maxRecDepth 20000 in
theorem w_Mo_goesOn_159 {Γ : sv_Ga} {res : Int32 × sv_S} (X : sv_Ok Γ ev_Mo_goesOn cX12_goesOn sv_rI res) : ∀ (n : Nat) (x2 : Int32) (x3 : Int32) (z1 z4 : Option sv_V) (σ : sv_S), f_Mo_goesOn_159 n x2 x3 σ = some res → sv_T Γ 159 [some (.inr (.inr (some (30, 0)))), z1, some (.inl x2), some (.inl x3), z4] [] σ := by
  intro n
  induction n with
  | zero =>
    intro x2 x3 z1 z4 σ h
    rw [f_Mo_goesOn_159.eq_1] at h
    cases h
  | succ n ih =>
    intro x2 x3 z1 z4 σ h
    refine sv_run X d_Mo_goesOn (K := kk_Mo_goesOn_159 n) (sv_lk_all (P := fun pc (k : sv_Lo → List sv_V → sv_S → Option (Int32 × sv_S)) => ∀ lo st σ, k lo st σ = some res → sv_T Γ pc lo st σ) ?_) _ _ _ _ _ ((e_Mo_goesOn_159 n x2 x3 z1 z4 σ).trans h)
    clear h
    refine List.forall_mem_cons.mpr ⟨fun lo st σ h => ?_, fun _ h => absurd h List.not_mem_nil⟩
    · dsimp only at h
      split at h
      · exact ih _ _ _ _ _ h
      · cases h

set_option maxRecDepth 20000 in
theorem w_Mo_goesOn_116 {Γ : sv_Ga} {res : Int32 × sv_S} (X : sv_Ok Γ ev_Mo_goesOn cX12_goesOn sv_rI res) (k40 : Int32 → Int32 → sv_S → Option (Int32 × sv_S)) (h40 : ∀ (x1 : Int32) (x2 : Int32) (z3 z4 : Option sv_V) (σ : sv_S), k40 x1 x2 σ = some res → sv_T Γ 40 [some (.inr (.inr (some (30, 0)))), some (.inl x1), some (.inl x2), z3, z4] [] σ) : ∀ (x1 : Int32) (x2 : Int32) (x3 : Int32) (y0 : Int32) (z4 : Option sv_V) (σ : sv_S), f_Mo_goesOn_116 k40 x1 x2 x3 y0 σ = some res → sv_T Γ 116 [some (.inr (.inr (some (30, 0)))), some (.inl x1), some (.inl x2), some (.inl x3), z4] [.inl y0] σ := by
  intro x1 x2 x3 y0 z4 σ h
  refine sv_run X d_Mo_goesOn (K := kk_Mo_goesOn_116 k40) (sv_lk_all (P := fun pc (k : sv_Lo → List sv_V → sv_S → Option (Int32 × sv_S)) => ∀ lo st σ, k lo st σ = some res → sv_T Γ pc lo st σ) ?_) _ _ _ _ _ ((e_Mo_goesOn_116 k40 x1 x2 x3 y0 z4 σ).trans h)
  clear h
  refine List.forall_mem_cons.mpr ⟨fun lo st σ h => ?_, fun _ h => absurd h List.not_mem_nil⟩
  · dsimp only at h
    split at h
    · exact h40 _ _ _ _ _ h
    · cases h

set_option maxRecDepth 20000 in
theorem w_Mo_goesOn_40 {Γ : sv_Ga} {res : Int32 × sv_S} (X : sv_Ok Γ ev_Mo_goesOn cX12_goesOn sv_rI res) : ∀ (n : Nat) (x1 : Int32) (x2 : Int32) (z3 z4 : Option sv_V) (σ : sv_S), f_Mo_goesOn_40 n x1 x2 σ = some res → sv_T Γ 40 [some (.inr (.inr (some (30, 0)))), some (.inl x1), some (.inl x2), z3, z4] [] σ := by
  intro n
  induction n with
  | zero =>
    intro x1 x2 z3 z4 σ h
    rw [f_Mo_goesOn_40.eq_1] at h
    cases h
  | succ n ih =>
    intro x1 x2 z3 z4 σ h
    refine sv_run X d_Mo_goesOn (K := kk_Mo_goesOn_40 n) (sv_lk_all (P := fun pc (k : sv_Lo → List sv_V → sv_S → Option (Int32 × sv_S)) => ∀ lo st σ, k lo st σ = some res → sv_T Γ pc lo st σ) ?_) _ _ _ _ _ ((e_Mo_goesOn_40 n x1 x2 z3 z4 σ).trans h)
    clear h
    refine List.forall_mem_cons.mpr ⟨fun lo st σ h => ?_, List.forall_mem_cons.mpr ⟨fun lo st σ h => ?_, List.forall_mem_cons.mpr ⟨fun lo st σ h => ?_, fun _ h => absurd h List.not_mem_nil⟩⟩⟩
    · dsimp only at h
      split at h
      · exact ih _ _ _ _ _ h
      · cases h
    · dsimp only at h
      split at h
      · exact w_Mo_goesOn_116 X _ ih _ _ _ _ _ _ h
      · cases h
    · dsimp only at h
      split at h
      · exact w_Mo_goesOn_159 X _ _ _ _ _ _ h
      · cases h

set_option maxRecDepth 20000 in
theorem w_Mo_goesOn_4 {Γ : sv_Ga} {res : Int32 × sv_S} (X : sv_Ok Γ ev_Mo_goesOn cX12_goesOn sv_rI res) : ∀ (n : Nat) (x1 : Int32) (x2 : Int32) (z3 z4 : Option sv_V) (σ : sv_S), f_Mo_goesOn_4 n x1 x2 σ = some res → sv_T Γ 4 [some (.inr (.inr (some (30, 0)))), some (.inl x1), some (.inl x2), z3, z4] [] σ := by
  intro n
  induction n with
  | zero =>
    intro x1 x2 z3 z4 σ h
    rw [f_Mo_goesOn_4.eq_1] at h
    cases h
  | succ n ih =>
    intro x1 x2 z3 z4 σ h
    refine sv_run X d_Mo_goesOn (K := kk_Mo_goesOn_4 n) (sv_lk_all (P := fun pc (k : sv_Lo → List sv_V → sv_S → Option (Int32 × sv_S)) => ∀ lo st σ, k lo st σ = some res → sv_T Γ pc lo st σ) ?_) _ _ _ _ _ ((e_Mo_goesOn_4 n x1 x2 z3 z4 σ).trans h)
    clear h
    refine List.forall_mem_cons.mpr ⟨fun lo st σ h => ?_, List.forall_mem_cons.mpr ⟨fun lo st σ h => ?_, fun _ h => absurd h List.not_mem_nil⟩⟩
    · dsimp only at h
      split at h
      · exact ih _ _ _ _ _ h
      · cases h
    · dsimp only at h
      split at h
      · exact w_Mo_goesOn_40 X _ _ _ _ _ _ h
      · cases h

set_option maxRecDepth 20000 in
theorem b_Mo_goesOn (Γ : sv_Ga) (res : Int32 × sv_S) (X : sv_Ok Γ ev_Mo_goesOn cX12_goesOn sv_rI res) (as : List sv_V) (σ : sv_S) (h : n_Mo_goesOn as σ = some res) : sv_T Γ 0 (sv_e0 5 as) [] σ := by
  unfold n_Mo_goesOn at h
  split at h
  · refine sv_run X d_Mo_goesOn (K := kk_Mo_goesOn) (sv_lk_all (P := fun pc (k : sv_Lo → List sv_V → sv_S → Option (Int32 × sv_S)) => ∀ lo st σ, k lo st σ = some res → sv_T Γ pc lo st σ) ?_) _ _ _ _ _ ((e_Mo_goesOn _).trans h)
    clear h
    refine List.forall_mem_cons.mpr ⟨fun lo st σ h => ?_, fun _ h => absurd h List.not_mem_nil⟩
    · dsimp only at h
      split at h
      · exact w_Mo_goesOn_4 X _ _ _ _ _ _ h
      · cases h
  · cases h
theorem a_Mo_goesOn (as : List sv_V) (σ : sv_S) (x : Int32 × sv_S) (h : n_Mo_goesOn as σ = some x) : sv_args 5 ev_Mo_goesOn.2.2.2.1 as := by
  unfold n_Mo_goesOn at h
  split at h
  · exact ⟨Nat.le_of_ble_eq_true rfl, fun _ v hv => by
      simp only [List.mem_cons, List.not_mem_nil, or_false] at hv
      rcases hv with rfl <;> trivial⟩
  · cases h
theorem g_Mo_goesOn (as : List sv_V) (σ : sv_S) (x : Option sv_V × sv_S) (h : sv_gI n_Mo_goesOn as σ = some x) : ∃ r i as', as = sv_R r i :: as' ∧ sv_kd r i = .inl 12 := by
  obtain ⟨_, _, h, -⟩ := sv_b_some h
  unfold n_Mo_goesOn at h
  split at h
  · exact ⟨_, _, _, rfl, rfl⟩
  · cases h

set_option maxRecDepth 20000 in
theorem m_Mo_goesOn (l : Launch) : sv_M l yX12_goesOn cX12_goesOn 5 (some .int) (sv_gI n_Mo_goesOn) 4 := by
  refine sv_mI (E := ev_Mo_goesOn) (by decide +kernel) (ln_gen fk_12 kk_12 (sv_ns _ (fun _ => rfl) _)) rfl ?_ a_Mo_goesOn b_Mo_goesOn
  intro p e R s m args below meth c cells slots Q base ad dC dI cA n0 S hkn hR hf pc n f hcs
  refine sv_lk_all (P := fun pc (x : Nat × sv_F) => sv_cok p l e R s m args below meth c cells slots Q base ad dC dI cA true 5 n0 pc x.1 x.2) ?_ pc (n, f) hcs
  exact List.forall_mem_cons.mpr ⟨(sv_cV S hkn (m_Mo_hears l) ⟨Nat.le_trans (by decide) hR.1, Nat.le_trans (by decide) hR.2⟩ (by decide) hf rfl (g_Mo_hears) (sv_w5 tw_1125 tw_1127 tw_11 tw_65 tw_1128) (by decide +kernel) (sv_dc3 d_Mo_goesOn (pc := 17) rfl rfl)).I,
      List.forall_mem_cons.mpr ⟨(sv_cV S hkn (m_Mo_of l) ⟨Nat.le_trans (by decide) hR.1, Nat.le_trans (by decide) hR.2⟩ (by decide) hf rfl (g_Mo_of) (sv_w5 tw_1120 tw_1122 tw_10 tw_65 tw_1123) (by decide +kernel) (sv_dc3 d_Mo_goesOn (pc := 53) rfl rfl)).I,
      List.forall_mem_cons.mpr ⟨(sv_cV S hkn (m_Mo_wakes l) ⟨Nat.le_trans (by decide) hR.1, Nat.le_trans (by decide) hR.2⟩ (by decide) hf rfl (g_Mo_wakes) (sv_w5 tw_1156 tw_1158 tw_18 tw_65 tw_1159) (by decide +kernel) (sv_dc3 d_Mo_goesOn (pc := 82) rfl rfl)).I,
      List.forall_mem_cons.mpr ⟨(sv_cV S hkn (m_Mo_sets l) ⟨Nat.le_trans (by decide) hR.1, Nat.le_trans (by decide) hR.2⟩ (by decide) hf rfl (g_Mo_sets) (sv_w5 tw_1108 tw_1110 tw_8 tw_65 tw_1111) (by decide +kernel) (sv_dc3 d_Mo_goesOn (pc := 89) rfl rfl)).V,
      List.forall_mem_cons.mpr ⟨(sv_cV S hkn (m_Mo_drawn l) ⟨Nat.le_trans (by decide) hR.1, Nat.le_trans (by decide) hR.2⟩ (by decide) hf rfl (g_Mo_drawn) (sv_w5 tw_1202 tw_1204 tw_22 tw_65 tw_1205) (by decide +kernel) (sv_dc3 d_Mo_goesOn (pc := 96) rfl rfl)).I,
      List.forall_mem_cons.mpr ⟨(sv_cV S hkn (m_Mo_stepFrom l) ⟨Nat.le_trans (by decide) hR.1, Nat.le_trans (by decide) hR.2⟩ (by decide) hf rfl (g_Mo_stepFrom) (sv_w5 tw_1163 tw_1165 tw_19 tw_65 tw_1166) (by decide +kernel) (sv_dc3 d_Mo_goesOn (pc := 133) rfl rfl)).I,
      List.forall_mem_cons.mpr ⟨(sv_cV S hkn (m_Mo_sets l) ⟨Nat.le_trans (by decide) hR.1, Nat.le_trans (by decide) hR.2⟩ (by decide) hf rfl (g_Mo_sets) (sv_w5 tw_1108 tw_1110 tw_8 tw_65 tw_1111) (by decide +kernel) (sv_dc3 d_Mo_goesOn (pc := 136) rfl rfl)).V,
      List.forall_mem_cons.mpr ⟨(sv_cV S hkn (m_Mo_of l) ⟨Nat.le_trans (by decide) hR.1, Nat.le_trans (by decide) hR.2⟩ (by decide) hf rfl (g_Mo_of) (sv_w5 tw_1120 tw_1122 tw_10 tw_65 tw_1123) (by decide +kernel) (sv_dc3 d_Mo_goesOn (pc := 175) rfl rfl)).I,
      List.forall_mem_cons.mpr ⟨(sv_cV S hkn (m_Mo_sets l) ⟨Nat.le_trans (by decide) hR.1, Nat.le_trans (by decide) hR.2⟩ (by decide) hf rfl (g_Mo_sets) (sv_w5 tw_1108 tw_1110 tw_8 tw_65 tw_1111) (by decide +kernel) (sv_dc3 d_Mo_goesOn (pc := 178) rfl rfl)).V,
      List.forall_mem_cons.mpr ⟨(sv_cV S hkn (m_Mo_sets l) ⟨Nat.le_trans (by decide) hR.1, Nat.le_trans (by decide) hR.2⟩ (by decide) hf rfl (g_Mo_sets) (sv_w5 tw_1108 tw_1110 tw_8 tw_65 tw_1111) (by decide +kernel) (sv_dc3 d_Mo_goesOn (pc := 190) rfl rfl)).V,
      List.forall_mem_cons.mpr ⟨(sv_cV S hkn (m_Mo_of l) ⟨Nat.le_trans (by decide) hR.1, Nat.le_trans (by decide) hR.2⟩ (by decide) hf rfl (g_Mo_of) (sv_w5 tw_1120 tw_1122 tw_10 tw_65 tw_1123) (by decide +kernel) (sv_dc3 d_Mo_goesOn (pc := 196) rfl rfl)).I,
      List.forall_mem_cons.mpr ⟨(sv_cV S hkn (m_Mo_of l) ⟨Nat.le_trans (by decide) hR.1, Nat.le_trans (by decide) hR.2⟩ (by decide) hf rfl (g_Mo_of) (sv_w5 tw_1120 tw_1122 tw_10 tw_65 tw_1123) (by decide +kernel) (sv_dc3 d_Mo_goesOn (pc := 227) rfl rfl)).I,
      List.forall_mem_cons.mpr ⟨(sv_cV S hkn (m_Mo_sets l) ⟨Nat.le_trans (by decide) hR.1, Nat.le_trans (by decide) hR.2⟩ (by decide) hf rfl (g_Mo_sets) (sv_w5 tw_1108 tw_1110 tw_8 tw_65 tw_1111) (by decide +kernel) (sv_dc3 d_Mo_goesOn (pc := 232) rfl rfl)).V,
      List.forall_mem_cons.mpr ⟨(sv_cV S hkn (m_Mo_of l) ⟨Nat.le_trans (by decide) hR.1, Nat.le_trans (by decide) hR.2⟩ (by decide) hf rfl (g_Mo_of) (sv_w5 tw_1120 tw_1122 tw_10 tw_65 tw_1123) (by decide +kernel) (sv_dc3 d_Mo_goesOn (pc := 243) rfl rfl)).I,
      List.forall_mem_cons.mpr ⟨(sv_cV S hkn (m_Mo_of l) ⟨Nat.le_trans (by decide) hR.1, Nat.le_trans (by decide) hR.2⟩ (by decide) hf rfl (g_Mo_of) (sv_w5 tw_1120 tw_1122 tw_10 tw_65 tw_1123) (by decide +kernel) (sv_dc3 d_Mo_goesOn (pc := 262) rfl rfl)).I,
      List.forall_mem_cons.mpr ⟨(sv_cV S hkn (m_Mo_sets l) ⟨Nat.le_trans (by decide) hR.1, Nat.le_trans (by decide) hR.2⟩ (by decide) hf rfl (g_Mo_sets) (sv_w5 tw_1108 tw_1110 tw_8 tw_65 tw_1111) (by decide +kernel) (sv_dc3 d_Mo_goesOn (pc := 265) rfl rfl)).V,
      fun _ h => absurd h List.not_mem_nil⟩⟩⟩⟩⟩⟩⟩⟩⟩⟩⟩⟩⟩⟩⟩⟩
