noncomputable def f_k_hears (a0 : Nat) (a1 : Nat) (a2 : Int32) (σ : sv_S) : Option (Int32 × sv_S) := match a0 with
  | 0 => f_Ki_hears 0 a1 a2 σ
  | 1 => f_Ki_hears 1 a1 a2 σ
  | 2 => f_Ki_hears 2 a1 a2 σ
  | 3 => f_Ki_hears 3 a1 a2 σ
  | 4 => f_Ki_hears 4 a1 a2 σ
  | 5 => f_De_hears 5 a1 a2 σ
  | _ => none
noncomputable def n_k_hears : List sv_V → sv_S → Option (Int32 × sv_S)
  | [.inr (.inr (some (7, a0))), .inr (.inr (some (1, a1))), .inl a2], σ => f_k_hears a0 a1 a2 σ
  | _, _ => none
theorem dp_hears (P : sv_D → Prop) (g0 : P (sv_a7 0 (sv_gI n_Ki_hears))) (g1 : P (sv_a7 1 (sv_gI n_Ki_hears))) (g2 : P (sv_a7 2 (sv_gI n_Ki_hears))) (g3 : P (sv_a7 3 (sv_gI n_Ki_hears))) (g4 : P (sv_a7 4 (sv_gI n_Ki_hears))) (g5 : P (sv_a7 5 (sv_gI n_De_hears))) : ∀ as σ x, sv_gI n_k_hears as σ = some x → ∃ G', G' as σ = some x ∧ P G' := by
  intro as σ x h
  obtain ⟨v, τ, h1, h2⟩ := sv_b_some h
  unfold n_k_hears at h1
  split at h1
  · unfold f_k_hears at h1
    split at h1
    · exact ⟨_, sv_a7_of (G := sv_gI n_Ki_hears) (sv_gI_of (F := n_Ki_hears) h1 h2), g0⟩
    · exact ⟨_, sv_a7_of (G := sv_gI n_Ki_hears) (sv_gI_of (F := n_Ki_hears) h1 h2), g1⟩
    · exact ⟨_, sv_a7_of (G := sv_gI n_Ki_hears) (sv_gI_of (F := n_Ki_hears) h1 h2), g2⟩
    · exact ⟨_, sv_a7_of (G := sv_gI n_Ki_hears) (sv_gI_of (F := n_Ki_hears) h1 h2), g3⟩
    · exact ⟨_, sv_a7_of (G := sv_gI n_Ki_hears) (sv_gI_of (F := n_Ki_hears) h1 h2), g4⟩
    · exact ⟨_, sv_a7_of (G := sv_gI n_De_hears) (sv_gI_of (F := n_De_hears) h1 h2), g5⟩
    · cases h1
  · cases h1
noncomputable def f_Li_passOne_82 (k58 : Nat → Int32 → Int32 → Int32 → sv_S → Option (Int32 × sv_S)) (x0 : Nat) (x1 : Int32) (x2 : Int32) (x3 : Int32) (y0 : Int32) (y1 : Int32) (y2 : Nat) (σ : sv_S) : Option (Int32 × sv_S) :=
    sv_b (f_Li_nextCount y2 y1 y0 σ) (fun v1 σ2 =>
      sv_g (sv_in x3 (sv_ln 3 x0 σ2)) (sv_b (f_Dr_moves (10 * x0 + (x3.toNatClampNeg)) v1 ((σ2 1 x0 5) + (1 : Int32)) σ2) (fun v3 σ4 =>
        sv_if (v3 = 0)
          (k58 x0 x1 x2 (x3 + (1 : Int32)) σ4)
          (k58 x0 x1 (x2 + (1 : Int32)) (x3 + (1 : Int32)) σ4))))
noncomputable def f_Li_passOne_58 : Nat → Nat → Int32 → Int32 → Int32 → sv_S → Option (Int32 × sv_S)
  | 0, _, _, _, _, _ => none
  | n + 1, x0, x1, x2, x3, σ =>
    sv_if ((σ 1 x0 4) ≤ x3)
      (let σ1 := sv_up σ 1 x0 5 ((σ 1 x0 5) + (1 : Int32))
      some (x2, σ1))
      (sv_if (((x1 >>> (x3 &&& 31)) &&& (1 : Int32)) = (1 : Int32))
        (f_Li_passOne_82 (f_Li_passOne_58 n) x0 x1 x2 x3 (1 : Int32) x3 x0 σ)
        (f_Li_passOne_82 (f_Li_passOne_58 n) x0 x1 x2 x3 (0 : Int32) x3 x0 σ))
noncomputable def f_Li_passOne_4 : Nat → Nat → Int32 → Int32 → sv_S → Option (Int32 × sv_S)
  | 0, _, _, _, _ => none
  | n + 1, x0, x1, x2, σ =>
    sv_if ((σ 1 x0 4) ≤ x2)
      (f_Li_passOne_58 sv_fu x0 x1 (0 : Int32) (0 : Int32) σ)
      (sv_g (sv_in x2 (sv_ln 3 x0 σ)) (sv_if ((σ 2 (10 * x0 + (x2.toNatClampNeg)) 2) = 0)
        (sv_g (sv_in x2 (sv_ln 3 x0 σ)) (sv_b (f_Li_kindOf x0 (10 * x0 + (x2.toNatClampNeg)) σ) (fun i1 σ2 =>
          sv_b (f_k_hears i1 x0 x2 σ2) (fun v3 σ4 =>
            sv_if (v3 = 0)
              (f_Li_passOne_4 n x0 x1 (x2 + (1 : Int32)) σ4)
              (f_Li_passOne_4 n x0 (x1 ||| ((1 : Int32) <<< (x2 &&& 31))) (x2 + (1 : Int32)) σ4)))))
        (f_Li_passOne_4 n x0 x1 (x2 + (1 : Int32)) σ)))
noncomputable def f_Li_passOne (a0 : Nat) (σ : sv_S) : Option (Int32 × sv_S) :=
  f_Li_passOne_4 sv_fu a0 (0 : Int32) (0 : Int32) σ
noncomputable def n_Li_passOne : List sv_V → sv_S → Option (Int32 × sv_S)
  | [.inr (.inr (some (1, a0)))], σ => f_Li_passOne a0 σ
  | _, _ => none
def cd_Li_passOne : sv_C := [(0, (.iconst 0, (.inl (0 : Int32), (1, (0, []))))), (1, (.istore_n 1, (sv_N, (2, (0, []))))), (2, (.iconst 0, (.inl (0 : Int32), (3, (0, []))))), (3, (.istore_n 2, (sv_N, (4, (0, []))))), (4, (.iload_n 2, (sv_N, (5, (0, []))))), (5, (.aload_n 0, (sv_N, (6, (0, []))))), (6, (.getfield 42, (sv_N, (9, (0, []))))), (9, (.if_icmp .ge 45, (sv_N, (12, (54, []))))), (12, (.aload_n 0, (sv_N, (13, (0, []))))), (13, (.getfield 17, (sv_N, (16, (0, []))))), (16, (.iload_n 2, (sv_N, (17, (0, []))))), (17, (.aaload, (sv_N, (18, (0, []))))), (18, (.getfield 117, (sv_N, (21, (0, []))))), (21, (.ifCond .ne 27, (sv_N, (24, (48, []))))), (24, (.aload_n 0, (sv_N, (25, (0, []))))), (25, (.aload_n 0, (sv_N, (26, (0, []))))), (26, (.getfield 17, (sv_N, (29, (0, []))))), (29, (.iload_n 2, (sv_N, (30, (0, []))))), (30, (.aaload, (sv_N, (31, (0, []))))), (31, (.invokevirtual 105, (sv_N, (34, (0, []))))), (34, (.aload_n 0, (sv_N, (35, (0, []))))), (35, (.iload_n 2, (sv_N, (36, (0, []))))), (36, (.invokevirtual 120, (sv_N, (39, (0, []))))), (39, (.ifCond .eq 9, (sv_N, (42, (48, []))))), (42, (.iload_n 1, (sv_N, (43, (0, []))))), (43, (.iconst 1, (.inl (1 : Int32), (44, (0, []))))), (44, (.iload_n 2, (sv_N, (45, (0, []))))), (45, (.ishl, (sv_N, (46, (0, []))))), (46, (.ior, (sv_N, (47, (0, []))))), (47, (.istore_n 1, (sv_N, (48, (0, []))))), (48, (.iinc 2 1, (.inl (1 : Int32), (51, (0, []))))), (51, (.goto (-47), (sv_N, (54, (4, []))))), (54, (.iconst 0, (.inl (0 : Int32), (55, (0, []))))), (55, (.istore_n 2, (sv_N, (56, (0, []))))), (56, (.iconst 0, (.inl (0 : Int32), (57, (0, []))))), (57, (.istore_n 3, (sv_N, (58, (0, []))))), (58, (.iload_n 3, (sv_N, (59, (0, []))))), (59, (.aload_n 0, (sv_N, (60, (0, []))))), (60, (.getfield 42, (sv_N, (63, (0, []))))), (63, (.if_icmp .ge 53, (sv_N, (66, (116, []))))), (66, (.aload_n 0, (sv_N, (67, (0, []))))), (67, (.iload_n 3, (sv_N, (68, (0, []))))), (68, (.iload_n 1, (sv_N, (69, (0, []))))), (69, (.iload_n 3, (sv_N, (70, (0, []))))), (70, (.ishr, (sv_N, (71, (0, []))))), (71, (.iconst 1, (.inl (1 : Int32), (72, (0, []))))), (72, (.iand, (sv_N, (73, (0, []))))), (73, (.iconst 1, (.inl (1 : Int32), (74, (0, []))))), (74, (.if_icmp .ne 7, (sv_N, (77, (81, []))))), (77, (.iconst 1, (.inl (1 : Int32), (78, (0, []))))), (78, (.goto 4, (sv_N, (81, (82, []))))), (81, (.iconst 0, (.inl (0 : Int32), (82, (0, []))))), (82, (.invokevirtual 124, (sv_N, (85, (0, []))))), (85, (.istore 4, (sv_N, (87, (0, []))))), (87, (.aload_n 0, (sv_N, (88, (0, []))))), (88, (.getfield 17, (sv_N, (91, (0, []))))), (91, (.iload_n 3, (sv_N, (92, (0, []))))), (92, (.aaload, (sv_N, (93, (0, []))))), (93, (.iload 4, (sv_N, (95, (0, []))))), (95, (.aload_n 0, (sv_N, (96, (0, []))))), (96, (.getfield 45, (sv_N, (99, (0, []))))), (99, (.iconst 1, (.inl (1 : Int32), (100, (0, []))))), (100, (.iadd, (sv_N, (101, (0, []))))), (101, (.invokevirtual 128, (sv_N, (104, (0, []))))), (104, (.ifCond .eq 6, (sv_N, (107, (110, []))))), (107, (.iinc 2 1, (.inl (1 : Int32), (110, (0, []))))), (110, (.iinc 3 1, (.inl (1 : Int32), (113, (0, []))))), (113, (.goto (-55), (sv_N, (116, (58, []))))), (116, (.aload_n 0, (sv_N, (117, (0, []))))), (117, (.dup, (sv_N, (118, (0, []))))), (118, (.getfield 45, (sv_N, (121, (0, []))))), (121, (.iconst 1, (.inl (1 : Int32), (122, (0, []))))), (122, (.iadd, (sv_N, (123, (0, []))))), (123, (.putfield 45, (sv_N, (126, (0, []))))), (126, (.iload_n 2, (sv_N, (127, (0, []))))), (127, (.ireturn, (sv_N, (128, (0, [])))))]
noncomputable def ev_Li_passOne : sv_E := (fun i => sv_lk i fl_5, (fun i => sv_lk i kc_5, (fun _ => 0, (true, (fun pc => sv_lk pc [(31, (2, .inr (.inr (.inl (7, n_Li_kindOf))))), (36, (3, .inl n_k_hears)), (82, (3, .inl n_Li_nextCount)), (101, (3, .inl n_Dr_moves))], none)))))
noncomputable def kk_Li_passOne_82 (k58 : Nat → Int32 → Int32 → Int32 → sv_S → Option (Int32 × sv_S)) : sv_K (Int32 × sv_S) := fun pc => sv_lk pc [(58, fun lo st σ => match lo, st with
    | [some (.inr (.inr (some (1, x0)))), some (.inl x1), some (.inl x2), some (.inl x3), _], [] => k58 x0 x1 x2 x3 σ
    | _, _ => none)]
set_option maxRecDepth 20000 in
theorem e_Li_passOne_82 (k58 : Nat → Int32 → Int32 → Int32 → sv_S → Option (Int32 × sv_S)) (x0 : Nat) (x1 : Int32) (x2 : Int32) (x3 : Int32) (y0 : Int32) (y1 : Int32) (y2 : Nat) (z4 : Option sv_V) (σ : sv_S) : sv_ex ev_Li_passOne sv_rI (kk_Li_passOne_82 k58) cd_Li_passOne 78 82 [some (.inr (.inr (some (1, x0)))), some (.inl x1), some (.inl x2), some (.inl x3), z4] [.inl y0, .inl y1, .inr (.inr (some (1, y2)))] σ = f_Li_passOne_82 k58 x0 x1 x2 x3 y0 y1 y2 σ := by
  unfold f_Li_passOne_82
  delta ev_Li_passOne kk_Li_passOne_82 n_Li_kindOf n_k_hears n_Li_nextCount n_Dr_moves
  generalize f_Li_kindOf = c0
  generalize f_k_hears = c1
  generalize f_Li_nextCount = c2
  generalize f_Dr_moves = c3
  generalize f_Li_passOne_58 = c4
  rfl
noncomputable def kk_Li_passOne_58 (n : Nat) : sv_K (Int32 × sv_S) := fun pc => sv_lk pc [(82, fun lo st σ => match lo, st with
    | [some (.inr (.inr (some (1, x0)))), some (.inl x1), some (.inl x2), some (.inl x3), _], [.inl y0, .inl y1, .inr (.inr (some (1, y2)))] => f_Li_passOne_82 (f_Li_passOne_58 n) x0 x1 x2 x3 y0 y1 y2 σ
    | _, _ => none)]
set_option maxRecDepth 20000 in
theorem e_Li_passOne_58 (n : Nat) (x0 : Nat) (x1 : Int32) (x2 : Int32) (x3 : Int32) (z4 : Option sv_V) (σ : sv_S) : sv_ex ev_Li_passOne sv_rI (kk_Li_passOne_58 n) cd_Li_passOne 78 58 [some (.inr (.inr (some (1, x0)))), some (.inl x1), some (.inl x2), some (.inl x3), z4] [] σ = f_Li_passOne_58 (n + 1) x0 x1 x2 x3 σ := by
  rw [f_Li_passOne_58.eq_2]
  delta ev_Li_passOne kk_Li_passOne_58 n_Li_kindOf n_k_hears n_Li_nextCount n_Dr_moves
  generalize f_Li_kindOf = c0
  generalize f_k_hears = c1
  generalize f_Li_nextCount = c2
  generalize f_Dr_moves = c3
  generalize f_Li_passOne_82 = c4
  generalize f_Li_passOne_58 = c5
  rfl
noncomputable def kk_Li_passOne_4 (n : Nat) : sv_K (Int32 × sv_S) := fun pc => sv_lk pc [(4, fun lo st σ => match lo, st with
    | [some (.inr (.inr (some (1, x0)))), some (.inl x1), some (.inl x2), _, _], [] => f_Li_passOne_4 n x0 x1 x2 σ
    | _, _ => none),
  (58, fun lo st σ => match lo, st with
    | [some (.inr (.inr (some (1, x0)))), some (.inl x1), some (.inl x2), some (.inl x3), _], [] => f_Li_passOne_58 sv_fu x0 x1 x2 x3 σ
    | _, _ => none)]
set_option maxRecDepth 20000 in
theorem e_Li_passOne_4 (n : Nat) (x0 : Nat) (x1 : Int32) (x2 : Int32) (z3 z4 : Option sv_V) (σ : sv_S) : sv_ex ev_Li_passOne sv_rI (kk_Li_passOne_4 n) cd_Li_passOne 78 4 [some (.inr (.inr (some (1, x0)))), some (.inl x1), some (.inl x2), z3, z4] [] σ = f_Li_passOne_4 (n + 1) x0 x1 x2 σ := by
  rw [f_Li_passOne_4.eq_2]
  delta ev_Li_passOne kk_Li_passOne_4 n_Li_kindOf n_k_hears n_Li_nextCount n_Dr_moves
  generalize f_Li_kindOf = c0
  generalize f_k_hears = c1
  generalize f_Li_nextCount = c2
  generalize f_Dr_moves = c3
  generalize f_Li_passOne_4 = c4
  generalize f_Li_passOne_58 = c5
  rfl
noncomputable def kk_Li_passOne : sv_K (Int32 × sv_S) := fun pc => sv_lk pc [(4, fun lo st σ => match lo, st with
    | [some (.inr (.inr (some (1, x0)))), some (.inl x1), some (.inl x2), _, _], [] => f_Li_passOne_4 sv_fu x0 x1 x2 σ
    | _, _ => none)]
set_option maxRecDepth 20000 in
theorem e_Li_passOne (a0 : Nat) (σ : sv_S) : sv_ex ev_Li_passOne sv_rI kk_Li_passOne cd_Li_passOne 78 0 [some (.inr (.inr (some (1, a0)))), none, none, none, none] [] σ = f_Li_passOne a0 σ := by
  unfold f_Li_passOne
  delta ev_Li_passOne kk_Li_passOne n_Li_kindOf n_k_hears n_Li_nextCount n_Dr_moves
  generalize f_Li_kindOf = c0
  generalize f_k_hears = c1
  generalize f_Li_nextCount = c2
  generalize f_Dr_moves = c3
  generalize f_Li_passOne_4 = c4
  rfl
theorem d_Li_passOne : cd_Li_passOne.all (sv_dk cX5_passOne) = true := by decide +kernel
set_option maxRecDepth 20000 in
theorem w_Li_passOne_82 {Γ : sv_Ga} {res : Int32 × sv_S} (X : sv_Ok Γ ev_Li_passOne cX5_passOne sv_rI res) (k58 : Nat → Int32 → Int32 → Int32 → sv_S → Option (Int32 × sv_S)) (h58 : ∀ (x0 : Nat) (x1 : Int32) (x2 : Int32) (x3 : Int32) (z4 : Option sv_V) (σ : sv_S), k58 x0 x1 x2 x3 σ = some res → sv_T Γ 58 [some (.inr (.inr (some (1, x0)))), some (.inl x1), some (.inl x2), some (.inl x3), z4] [] σ) : ∀ (x0 : Nat) (x1 : Int32) (x2 : Int32) (x3 : Int32) (y0 : Int32) (y1 : Int32) (y2 : Nat) (z4 : Option sv_V) (σ : sv_S), f_Li_passOne_82 k58 x0 x1 x2 x3 y0 y1 y2 σ = some res → sv_T Γ 82 [some (.inr (.inr (some (1, x0)))), some (.inl x1), some (.inl x2), some (.inl x3), z4] [.inl y0, .inl y1, .inr (.inr (some (1, y2)))] σ := by
  intro x0 x1 x2 x3 y0 y1 y2 z4 σ h
  refine sv_run X d_Li_passOne (K := kk_Li_passOne_82 k58) (sv_lk_all (P := fun pc (k : sv_Lo → List sv_V → sv_S → Option (Int32 × sv_S)) => ∀ lo st σ, k lo st σ = some res → sv_T Γ pc lo st σ) ?_) _ _ _ _ _ ((e_Li_passOne_82 k58 x0 x1 x2 x3 y0 y1 y2 z4 σ).trans h)
  clear h
  refine List.forall_mem_cons.mpr ⟨fun lo st σ h => ?_, fun _ h => absurd h List.not_mem_nil⟩
  · dsimp only at h
    split at h
    · exact h58 _ _ _ _ _ _ h
    · cases h

set_option maxRecDepth 20000 in
theorem w_Li_passOne_58 {Γ : sv_Ga} {res : Int32 × sv_S} (X : sv_Ok Γ ev_Li_passOne cX5_passOne sv_rI res) : ∀ (n : Nat) (x0 : Nat) (x1 : Int32) (x2 : Int32) (x3 : Int32) (z4 : Option sv_V) (σ : sv_S), f_Li_passOne_58 n x0 x1 x2 x3 σ = some res → sv_T Γ 58 [some (.inr (.inr (some (1, x0)))), some (.inl x1), some (.inl x2), some (.inl x3), z4] [] σ := by
  intro n
  induction n with
  | zero =>
    intro x0 x1 x2 x3 z4 σ h
    rw [f_Li_passOne_58.eq_1] at h
    cases h
  | succ n ih =>
    intro x0 x1 x2 x3 z4 σ h
    refine sv_run X d_Li_passOne (K := kk_Li_passOne_58 n) (sv_lk_all (P := fun pc (k : sv_Lo → List sv_V → sv_S → Option (Int32 × sv_S)) => ∀ lo st σ, k lo st σ = some res → sv_T Γ pc lo st σ) ?_) _ _ _ _ _ ((e_Li_passOne_58 n x0 x1 x2 x3 z4 σ).trans h)
    clear h
    refine List.forall_mem_cons.mpr ⟨fun lo st σ h => ?_, fun _ h => absurd h List.not_mem_nil⟩
    · dsimp only at h
      split at h
      · exact w_Li_passOne_82 X _ ih _ _ _ _ _ _ _ _ _ h
      · cases h

set_option maxRecDepth 20000 in
theorem w_Li_passOne_4 {Γ : sv_Ga} {res : Int32 × sv_S} (X : sv_Ok Γ ev_Li_passOne cX5_passOne sv_rI res) : ∀ (n : Nat) (x0 : Nat) (x1 : Int32) (x2 : Int32) (z3 z4 : Option sv_V) (σ : sv_S), f_Li_passOne_4 n x0 x1 x2 σ = some res → sv_T Γ 4 [some (.inr (.inr (some (1, x0)))), some (.inl x1), some (.inl x2), z3, z4] [] σ := by
  intro n
  induction n with
  | zero =>
    intro x0 x1 x2 z3 z4 σ h
    rw [f_Li_passOne_4.eq_1] at h
    cases h
  | succ n ih =>
    intro x0 x1 x2 z3 z4 σ h
    refine sv_run X d_Li_passOne (K := kk_Li_passOne_4 n) (sv_lk_all (P := fun pc (k : sv_Lo → List sv_V → sv_S → Option (Int32 × sv_S)) => ∀ lo st σ, k lo st σ = some res → sv_T Γ pc lo st σ) ?_) _ _ _ _ _ ((e_Li_passOne_4 n x0 x1 x2 z3 z4 σ).trans h)
    clear h
    refine List.forall_mem_cons.mpr ⟨fun lo st σ h => ?_, List.forall_mem_cons.mpr ⟨fun lo st σ h => ?_, fun _ h => absurd h List.not_mem_nil⟩⟩
    · dsimp only at h
      split at h
      · exact ih _ _ _ _ _ _ h
      · cases h
    · dsimp only at h
      split at h
      · exact w_Li_passOne_58 X _ _ _ _ _ _ _ h
      · cases h

set_option maxRecDepth 20000 in
theorem b_Li_passOne (Γ : sv_Ga) (res : Int32 × sv_S) (X : sv_Ok Γ ev_Li_passOne cX5_passOne sv_rI res) (as : List sv_V) (σ : sv_S) (h : n_Li_passOne as σ = some res) : sv_T Γ 0 (sv_e0 5 as) [] σ := by
  unfold n_Li_passOne at h
  split at h
  · refine sv_run X d_Li_passOne (K := kk_Li_passOne) (sv_lk_all (P := fun pc (k : sv_Lo → List sv_V → sv_S → Option (Int32 × sv_S)) => ∀ lo st σ, k lo st σ = some res → sv_T Γ pc lo st σ) ?_) _ _ _ _ _ ((e_Li_passOne _ _).trans h)
    clear h
    refine List.forall_mem_cons.mpr ⟨fun lo st σ h => ?_, fun _ h => absurd h List.not_mem_nil⟩
    · dsimp only at h
      split at h
      · exact w_Li_passOne_4 X _ _ _ _ _ _ _ h
      · cases h
  · cases h
theorem a_Li_passOne (as : List sv_V) (σ : sv_S) (x : Int32 × sv_S) (h : n_Li_passOne as σ = some x) : sv_args 5 ev_Li_passOne.2.2.2.1 as := by
  unfold n_Li_passOne at h
  split at h
  · exact ⟨Nat.le_of_ble_eq_true rfl, fun _ v hv => by
      simp only [List.mem_cons, List.not_mem_nil, or_false] at hv
      rcases hv with rfl <;> trivial⟩
  · cases h
theorem g_Li_passOne (as : List sv_V) (σ : sv_S) (x : Option sv_V × sv_S) (h : sv_gI n_Li_passOne as σ = some x) : ∃ r i as', as = sv_R r i :: as' ∧ sv_kd r i = .inl 5 := by
  obtain ⟨_, _, h, -⟩ := sv_b_some h
  unfold n_Li_passOne at h
  split at h
  · exact ⟨_, _, _, rfl, rfl⟩
  · cases h
theorem tw_59 : Cond.initialized RX0 ∈ gw_tbl := gw_at 59 (by decide +kernel) rfl
theorem tw_358 : Cond.instanceMethod yX3_hears ∈ gw_tbl := gw_at 358 (by decide +kernel) rfl
theorem tw_359 : Cond.selects RX3 yX3_hears yX3_hears ∈ gw_tbl := gw_at 359 (by decide +kernel) rfl
theorem tw_360 : Cond.sameMethod RX3 RX3 "hears" "(LOneStroke$Line;I)Z" ∈ gw_tbl := gw_at 360 (by decide +kernel) rfl
theorem tw_361 : Cond.selects RX0 yX3_hears yX0_hears ∈ gw_tbl := gw_at 361 (by decide +kernel) rfl
theorem tw_362 : Cond.instanceMethod yX0_hears ∈ gw_tbl := gw_at 362 (by decide +kernel) rfl
theorem tw_363 : Cond.code yX0_hears cX0_hears 3 (some .boolean) ∈ gw_tbl := gw_at 363 (by decide +kernel) rfl
theorem tw_375 : Cond.selects RX2 yX3_hears yX3_hears ∈ gw_tbl := gw_at 375 (by decide +kernel) rfl
theorem tw_376 : Cond.selects RX4 yX3_hears yX3_hears ∈ gw_tbl := gw_at 376 (by decide +kernel) rfl
theorem tw_377 : Cond.selects RX7 yX3_hears yX3_hears ∈ gw_tbl := gw_at 377 (by decide +kernel) rfl
theorem tw_378 : Cond.selects RX10 yX3_hears yX3_hears ∈ gw_tbl := gw_at 378 (by decide +kernel) rfl
theorem tw_379 : Cond.code yX3_hears cX3_hears 3 (some .boolean) ∈ gw_tbl := gw_at 379 (by decide +kernel) rfl
theorem tw_533 : Cond.methodLink RX5 120 yX3_hears ∈ gw_tbl := gw_at 533 (by decide +kernel) rfl
theorem tw_534 : Cond.methodLink RX5 124 yX5_nextCount ∈ gw_tbl := gw_at 534 (by decide +kernel) rfl
theorem tw_535 : Cond.instanceMethod yX5_nextCount ∈ gw_tbl := gw_at 535 (by decide +kernel) rfl
theorem tw_536 : Cond.selects RX5 yX5_nextCount yX5_nextCount ∈ gw_tbl := gw_at 536 (by decide +kernel) rfl
theorem tw_537 : Cond.code yX5_nextCount cX5_nextCount 4 (some .int) ∈ gw_tbl := gw_at 537 (by decide +kernel) rfl
theorem tw_540 : Cond.methodLink RX5 128 yX1_moves ∈ gw_tbl := gw_at 540 (by decide +kernel) rfl
theorem tw_541 : Cond.instanceMethod yX1_moves ∈ gw_tbl := gw_at 541 (by decide +kernel) rfl
theorem tw_542 : Cond.selects RX1 yX1_moves yX1_moves ∈ gw_tbl := gw_at 542 (by decide +kernel) rfl
theorem tw_543 : Cond.code yX1_moves cX1_moves 3 (some .boolean) ∈ gw_tbl := gw_at 543 (by decide +kernel) rfl
set_option maxRecDepth 20000 in
theorem m_Li_passOne (l : Launch) : sv_M l yX5_passOne cX5_passOne 5 (some .int) (sv_gI n_Li_passOne) 4 := by
  refine sv_mI (E := ev_Li_passOne) (by decide +kernel) (ln_gen fk_5 kk_5 (sv_ns _ (fun _ => rfl) _)) rfl ?_ a_Li_passOne b_Li_passOne
  intro p e R s m args below meth c cells slots Q base ad dC dI cA n0 S hkn hR hf pc n f hcs
  refine sv_lk_all (P := fun pc (x : Nat × sv_F) => sv_cok p l e R s m args below meth c cells slots Q base ad dC dI cA true 5 n0 pc x.1 x.2) ?_ pc (n, f) hcs
  exact List.forall_mem_cons.mpr ⟨(sv_cV S hkn (m_Li_kindOf l) ⟨Nat.le_trans (by decide) hR.1, Nat.le_trans (by decide) hR.2⟩ (by decide) hf rfl (g_Li_kindOf) (sv_w5 tw_407 tw_354 tw_355 tw_60 tw_356) (by decide +kernel) (sv_dc3 d_Li_passOne (pc := 31) rfl rfl)).Rf,
      List.forall_mem_cons.mpr ⟨(sv_cg.of (dp_hears (fun G => sv_cg p l e R s m args below meth c cells slots Q base ad dC dI cA _ _ n0 36 3 G)
        (sv_cD S hkn (x := yX3_hears) (owner := RX3) (q := (RX3, TX3, 0)) (sv_M.sub (m_Ki_hears l) sv_a7_sub) hf (ci := 3) rfl (fun as σ x h => by obtain ⟨as', e⟩ := sv_a7_at (j := 0) as σ x h; exact ⟨7, 0, as', e, rfl⟩) (sv_cwI S ⟨Nat.le_trans (by decide) hR.1, Nat.le_trans (by decide) hR.2⟩ (by decide) rfl (sv_w6 tw_533 tw_360 tw_359 tw_358 tw_54 tw_379) (by decide +kernel)) (sv_dc3 d_Li_passOne (pc := 36) rfl rfl))
        (sv_cD S hkn (x := yX3_hears) (owner := RX3) (q := (RX7, TX7, 0)) (sv_M.sub (m_Ki_hears l) sv_a7_sub) hf (ci := 7) rfl (fun as σ x h => by obtain ⟨as', e⟩ := sv_a7_at (j := 1) as σ x h; exact ⟨7, 1, as', e, rfl⟩) (sv_cwI S ⟨Nat.le_trans (by decide) hR.1, Nat.le_trans (by decide) hR.2⟩ (by decide) rfl (sv_w6 tw_533 tw_360 tw_377 tw_358 tw_54 tw_379) (by decide +kernel)) (sv_dc3 d_Li_passOne (pc := 36) rfl rfl))
        (sv_cD S hkn (x := yX3_hears) (owner := RX3) (q := (RX2, TX2, 0)) (sv_M.sub (m_Ki_hears l) sv_a7_sub) hf (ci := 2) rfl (fun as σ x h => by obtain ⟨as', e⟩ := sv_a7_at (j := 2) as σ x h; exact ⟨7, 2, as', e, rfl⟩) (sv_cwI S ⟨Nat.le_trans (by decide) hR.1, Nat.le_trans (by decide) hR.2⟩ (by decide) rfl (sv_w6 tw_533 tw_360 tw_375 tw_358 tw_54 tw_379) (by decide +kernel)) (sv_dc3 d_Li_passOne (pc := 36) rfl rfl))
        (sv_cD S hkn (x := yX3_hears) (owner := RX3) (q := (RX4, TX4, 0)) (sv_M.sub (m_Ki_hears l) sv_a7_sub) hf (ci := 4) rfl (fun as σ x h => by obtain ⟨as', e⟩ := sv_a7_at (j := 3) as σ x h; exact ⟨7, 3, as', e, rfl⟩) (sv_cwI S ⟨Nat.le_trans (by decide) hR.1, Nat.le_trans (by decide) hR.2⟩ (by decide) rfl (sv_w6 tw_533 tw_360 tw_376 tw_358 tw_54 tw_379) (by decide +kernel)) (sv_dc3 d_Li_passOne (pc := 36) rfl rfl))
        (sv_cD S hkn (x := yX3_hears) (owner := RX3) (q := (RX10, TX10, 0)) (sv_M.sub (m_Ki_hears l) sv_a7_sub) hf (ci := 10) rfl (fun as σ x h => by obtain ⟨as', e⟩ := sv_a7_at (j := 4) as σ x h; exact ⟨7, 4, as', e, rfl⟩) (sv_cwI S ⟨Nat.le_trans (by decide) hR.1, Nat.le_trans (by decide) hR.2⟩ (by decide) rfl (sv_w6 tw_533 tw_360 tw_378 tw_358 tw_54 tw_379) (by decide +kernel)) (sv_dc3 d_Li_passOne (pc := 36) rfl rfl))
        (sv_cD S hkn (x := yX3_hears) (owner := RX3) (q := (RX0, TX0, 0)) (sv_M.sub (m_De_hears l) sv_a7_sub) hf (ci := 0) rfl (fun as σ x h => by obtain ⟨as', e⟩ := sv_a7_at (j := 5) as σ x h; exact ⟨7, 5, as', e, rfl⟩) (sv_cwO S ⟨Nat.le_trans (by decide) hR.1, Nat.le_trans (by decide) hR.2⟩ (by decide) (sv_w7 tw_533 tw_360 tw_358 tw_361 tw_362 tw_59 tw_363) tw_379 (by decide +kernel)) (sv_dc3 d_Li_passOne (pc := 36) rfl rfl)))).I,
      List.forall_mem_cons.mpr ⟨(sv_cV S hkn (m_Li_nextCount l) ⟨Nat.le_trans (by decide) hR.1, Nat.le_trans (by decide) hR.2⟩ (by decide) hf rfl (g_Li_nextCount) (sv_w5 tw_534 tw_535 tw_536 tw_60 tw_537) (by decide +kernel) (sv_dc3 d_Li_passOne (pc := 82) rfl rfl)).I,
      List.forall_mem_cons.mpr ⟨(sv_cV S hkn (m_Dr_moves l) ⟨Nat.le_trans (by decide) hR.1, Nat.le_trans (by decide) hR.2⟩ (by decide) hf rfl (g_Dr_moves) (sv_w5 tw_540 tw_541 tw_542 tw_61 tw_543) (by decide +kernel) (sv_dc3 d_Li_passOne (pc := 101) rfl rfl)).I,
      fun _ h => absurd h List.not_mem_nil⟩⟩⟩⟩
noncomputable def f_Li_pass_4 : Nat → Nat → Int32 → Int32 → Int32 → sv_S → Option (Int32 × sv_S)
  | 0, _, _, _, _, _ => none
  | n + 1, x0, x1, x2, x3, σ =>
    sv_if (x1 ≤ x3)
      (some (x2, σ))
      (sv_b (f_Li_passOne x0 σ) (fun v1 σ2 =>
        f_Li_pass_4 n x0 x1 (x2 + v1) (x3 + (1 : Int32)) σ2))
noncomputable def f_Li_pass (a0 : Nat) (a1 : Int32) (σ : sv_S) : Option (Int32 × sv_S) :=
  f_Li_pass_4 sv_fu a0 a1 (0 : Int32) (0 : Int32) σ
noncomputable def n_Li_pass : List sv_V → sv_S → Option (Int32 × sv_S)
  | [.inr (.inr (some (1, a0))), .inl a1], σ => f_Li_pass a0 a1 σ
  | _, _ => none
def cd_Li_pass : sv_C := [(0, (.iconst 0, (.inl (0 : Int32), (1, (0, []))))), (1, (.istore_n 2, (sv_N, (2, (0, []))))), (2, (.iconst 0, (.inl (0 : Int32), (3, (0, []))))), (3, (.istore_n 3, (sv_N, (4, (0, []))))), (4, (.iload_n 3, (sv_N, (5, (0, []))))), (5, (.iload_n 1, (sv_N, (6, (0, []))))), (6, (.if_icmp .ge 16, (sv_N, (9, (22, []))))), (9, (.iload_n 2, (sv_N, (10, (0, []))))), (10, (.aload_n 0, (sv_N, (11, (0, []))))), (11, (.invokevirtual 139, (sv_N, (14, (0, []))))), (14, (.iadd, (sv_N, (15, (0, []))))), (15, (.istore_n 2, (sv_N, (16, (0, []))))), (16, (.iinc 3 1, (.inl (1 : Int32), (19, (0, []))))), (19, (.goto (-15), (sv_N, (22, (4, []))))), (22, (.iload_n 2, (sv_N, (23, (0, []))))), (23, (.ireturn, (sv_N, (24, (0, [])))))]
noncomputable def ev_Li_pass : sv_E := (fun i => sv_lk i fl_5, (fun i => sv_lk i kc_5, (fun _ => 0, (true, (fun pc => sv_lk pc [(11, (1, .inl n_Li_passOne))], none)))))
noncomputable def kk_Li_pass_4 (n : Nat) : sv_K (Int32 × sv_S) := fun pc => sv_lk pc [(4, fun lo st σ => match lo, st with
    | [some (.inr (.inr (some (1, x0)))), some (.inl x1), some (.inl x2), some (.inl x3)], [] => f_Li_pass_4 n x0 x1 x2 x3 σ
    | _, _ => none)]
set_option maxRecDepth 20000 in
theorem e_Li_pass_4 (n : Nat) (x0 : Nat) (x1 : Int32) (x2 : Int32) (x3 : Int32) (σ : sv_S) : sv_ex ev_Li_pass sv_rI (kk_Li_pass_4 n) cd_Li_pass 18 4 [some (.inr (.inr (some (1, x0)))), some (.inl x1), some (.inl x2), some (.inl x3)] [] σ = f_Li_pass_4 (n + 1) x0 x1 x2 x3 σ := by
  rw [f_Li_pass_4.eq_2]
  delta ev_Li_pass kk_Li_pass_4 n_Li_passOne
  generalize f_Li_passOne = c0
  generalize f_Li_pass_4 = c1
  rfl
noncomputable def kk_Li_pass : sv_K (Int32 × sv_S) := fun pc => sv_lk pc [(4, fun lo st σ => match lo, st with
    | [some (.inr (.inr (some (1, x0)))), some (.inl x1), some (.inl x2), some (.inl x3)], [] => f_Li_pass_4 sv_fu x0 x1 x2 x3 σ
    | _, _ => none)]
set_option maxRecDepth 20000 in
theorem e_Li_pass (a0 : Nat) (a1 : Int32) (σ : sv_S) : sv_ex ev_Li_pass sv_rI kk_Li_pass cd_Li_pass 18 0 [some (.inr (.inr (some (1, a0)))), some (.inl a1), none, none] [] σ = f_Li_pass a0 a1 σ := by
  unfold f_Li_pass
  delta ev_Li_pass kk_Li_pass n_Li_passOne
  generalize f_Li_passOne = c0
  generalize f_Li_pass_4 = c1
  rfl
theorem d_Li_pass : cd_Li_pass.all (sv_dk cX5_pass) = true := by decide +kernel
set_option maxRecDepth 20000 in
theorem w_Li_pass_4 {Γ : sv_Ga} {res : Int32 × sv_S} (X : sv_Ok Γ ev_Li_pass cX5_pass sv_rI res) : ∀ (n : Nat) (x0 : Nat) (x1 : Int32) (x2 : Int32) (x3 : Int32) (σ : sv_S), f_Li_pass_4 n x0 x1 x2 x3 σ = some res → sv_T Γ 4 [some (.inr (.inr (some (1, x0)))), some (.inl x1), some (.inl x2), some (.inl x3)] [] σ := by
  intro n
  induction n with
  | zero =>
    intro x0 x1 x2 x3 σ h
    rw [f_Li_pass_4.eq_1] at h
    cases h
  | succ n ih =>
    intro x0 x1 x2 x3 σ h
    refine sv_run X d_Li_pass (K := kk_Li_pass_4 n) (sv_lk_all (P := fun pc (k : sv_Lo → List sv_V → sv_S → Option (Int32 × sv_S)) => ∀ lo st σ, k lo st σ = some res → sv_T Γ pc lo st σ) ?_) _ _ _ _ _ ((e_Li_pass_4 n x0 x1 x2 x3 σ).trans h)
    clear h
    refine List.forall_mem_cons.mpr ⟨fun lo st σ h => ?_, fun _ h => absurd h List.not_mem_nil⟩
    · dsimp only at h
      split at h
      · exact ih _ _ _ _ _ h
      · cases h

set_option maxRecDepth 20000 in
theorem b_Li_pass (Γ : sv_Ga) (res : Int32 × sv_S) (X : sv_Ok Γ ev_Li_pass cX5_pass sv_rI res) (as : List sv_V) (σ : sv_S) (h : n_Li_pass as σ = some res) : sv_T Γ 0 (sv_e0 4 as) [] σ := by
  unfold n_Li_pass at h
  split at h
  · refine sv_run X d_Li_pass (K := kk_Li_pass) (sv_lk_all (P := fun pc (k : sv_Lo → List sv_V → sv_S → Option (Int32 × sv_S)) => ∀ lo st σ, k lo st σ = some res → sv_T Γ pc lo st σ) ?_) _ _ _ _ _ ((e_Li_pass _ _ _).trans h)
    clear h
    refine List.forall_mem_cons.mpr ⟨fun lo st σ h => ?_, fun _ h => absurd h List.not_mem_nil⟩
    · dsimp only at h
      split at h
      · exact w_Li_pass_4 X _ _ _ _ _ _ h
      · cases h
  · cases h
theorem a_Li_pass (as : List sv_V) (σ : sv_S) (x : Int32 × sv_S) (h : n_Li_pass as σ = some x) : sv_args 4 ev_Li_pass.2.2.2.1 as := by
  unfold n_Li_pass at h
  split at h
  · exact ⟨Nat.le_of_ble_eq_true rfl, fun _ v hv => by
      simp only [List.mem_cons, List.not_mem_nil, or_false] at hv
      rcases hv with rfl | rfl <;> trivial⟩
  · cases h
theorem g_Li_pass (as : List sv_V) (σ : sv_S) (x : Option sv_V × sv_S) (h : sv_gI n_Li_pass as σ = some x) : ∃ r i as', as = sv_R r i :: as' ∧ sv_kd r i = .inl 5 := by
  obtain ⟨_, _, h, -⟩ := sv_b_some h
  unfold n_Li_pass at h
  split at h
  · exact ⟨_, _, _, rfl, rfl⟩
  · cases h
theorem tw_529 : Cond.methodLink RX5 139 yX5_passOne ∈ gw_tbl := gw_at 529 (by decide +kernel) rfl
theorem tw_530 : Cond.instanceMethod yX5_passOne ∈ gw_tbl := gw_at 530 (by decide +kernel) rfl
theorem tw_531 : Cond.selects RX5 yX5_passOne yX5_passOne ∈ gw_tbl := gw_at 531 (by decide +kernel) rfl
theorem tw_532 : Cond.code yX5_passOne cX5_passOne 5 (some .int) ∈ gw_tbl := gw_at 532 (by decide +kernel) rfl
set_option maxRecDepth 20000 in
theorem m_Li_pass (l : Launch) : sv_M l yX5_pass cX5_pass 4 (some .int) (sv_gI n_Li_pass) 5 := by
  refine sv_mI (E := ev_Li_pass) (by decide +kernel) (ln_gen fk_5 kk_5 (sv_ns _ (fun _ => rfl) _)) rfl ?_ a_Li_pass b_Li_pass
  intro p e R s m args below meth c cells slots Q base ad dC dI cA n0 S hkn hR hf pc n f hcs
  refine sv_lk_all (P := fun pc (x : Nat × sv_F) => sv_cok p l e R s m args below meth c cells slots Q base ad dC dI cA true 4 n0 pc x.1 x.2) ?_ pc (n, f) hcs
  exact List.forall_mem_cons.mpr ⟨(sv_cV S hkn (m_Li_passOne l) ⟨Nat.le_trans (by decide) hR.1, Nat.le_trans (by decide) hR.2⟩ (by decide) hf rfl (g_Li_passOne) (sv_w5 tw_529 tw_530 tw_531 tw_60 tw_532) (by decide +kernel) (sv_dc3 d_Li_pass (pc := 11) rfl rfl)).I,
      fun _ h => absurd h List.not_mem_nil⟩
noncomputable def f_Li_firstWithStriking_2 : Nat → Nat → Int32 → Int32 → sv_S → Option (Int32 × sv_S)
  | 0, _, _, _, _ => none
  | n + 1, x0, x1, x2, σ =>
    sv_if ((100 : Int32) < x2)
      (some ((-1000000005 : Int32), σ))
      (sv_b (f_Li_passOne x0 σ) (fun v1 σ2 =>
        sv_if (v1 < x1)
          (f_Li_firstWithStriking_2 n x0 x1 (x2 + (1 : Int32)) σ2)
          (some (x2, σ2))))
noncomputable def f_Li_firstWithStriking (a0 : Nat) (a1 : Int32) (σ : sv_S) : Option (Int32 × sv_S) :=
  f_Li_firstWithStriking_2 sv_fu a0 a1 (1 : Int32) σ
noncomputable def n_Li_firstWithStriking : List sv_V → sv_S → Option (Int32 × sv_S)
  | [.inr (.inr (some (1, a0))), .inl a1], σ => f_Li_firstWithStriking a0 a1 σ
  | _, _ => none
def cd_Li_firstWithStriking : sv_C := [(0, (.iconst 1, (.inl (1 : Int32), (1, (0, []))))), (1, (.istore_n 2, (sv_N, (2, (0, []))))), (2, (.iload_n 2, (sv_N, (3, (0, []))))), (3, (.bipush 100, (.inl (100 : Int32), (5, (0, []))))), (5, (.if_icmp .gt 19, (sv_N, (8, (24, []))))), (8, (.aload_n 0, (sv_N, (9, (0, []))))), (9, (.invokevirtual 139, (sv_N, (12, (0, []))))), (12, (.iload_n 1, (sv_N, (13, (0, []))))), (13, (.if_icmp .lt 5, (sv_N, (16, (18, []))))), (16, (.iload_n 2, (sv_N, (17, (0, []))))), (17, (.ireturn, (sv_N, (18, (0, []))))), (18, (.iinc 2 1, (.inl (1 : Int32), (21, (0, []))))), (21, (.goto (-19), (sv_N, (24, (2, []))))), (24, (.ldc 142, (sv_N, (26, (0, []))))), (26, (.ireturn, (sv_N, (27, (0, [])))))]
noncomputable def ev_Li_firstWithStriking : sv_E := (fun i => sv_lk i fl_5, (fun i => sv_lk i kc_5, (fun _ => 0, (true, (fun pc => sv_lk pc [(9, (1, .inl n_Li_passOne))], none)))))
noncomputable def kk_Li_firstWithStriking_2 (n : Nat) : sv_K (Int32 × sv_S) := fun pc => sv_lk pc [(2, fun lo st σ => match lo, st with
    | [some (.inr (.inr (some (1, x0)))), some (.inl x1), some (.inl x2)], [] => f_Li_firstWithStriking_2 n x0 x1 x2 σ
    | _, _ => none)]
set_option maxRecDepth 20000 in
theorem e_Li_firstWithStriking_2 (n : Nat) (x0 : Nat) (x1 : Int32) (x2 : Int32) (σ : sv_S) : sv_ex ev_Li_firstWithStriking sv_rI (kk_Li_firstWithStriking_2 n) cd_Li_firstWithStriking 17 2 [some (.inr (.inr (some (1, x0)))), some (.inl x1), some (.inl x2)] [] σ = f_Li_firstWithStriking_2 (n + 1) x0 x1 x2 σ := by
  rw [f_Li_firstWithStriking_2.eq_2]
  delta ev_Li_firstWithStriking kk_Li_firstWithStriking_2 n_Li_passOne
  generalize f_Li_passOne = c0
  generalize f_Li_firstWithStriking_2 = c1
  rfl
noncomputable def kk_Li_firstWithStriking : sv_K (Int32 × sv_S) := fun pc => sv_lk pc [(2, fun lo st σ => match lo, st with
    | [some (.inr (.inr (some (1, x0)))), some (.inl x1), some (.inl x2)], [] => f_Li_firstWithStriking_2 sv_fu x0 x1 x2 σ
    | _, _ => none)]
set_option maxRecDepth 20000 in
theorem e_Li_firstWithStriking (a0 : Nat) (a1 : Int32) (σ : sv_S) : sv_ex ev_Li_firstWithStriking sv_rI kk_Li_firstWithStriking cd_Li_firstWithStriking 17 0 [some (.inr (.inr (some (1, a0)))), some (.inl a1), none] [] σ = f_Li_firstWithStriking a0 a1 σ := by
  unfold f_Li_firstWithStriking
  delta ev_Li_firstWithStriking kk_Li_firstWithStriking n_Li_passOne
  generalize f_Li_passOne = c0
  generalize f_Li_firstWithStriking_2 = c1
  rfl
theorem d_Li_firstWithStriking : cd_Li_firstWithStriking.all (sv_dk cX5_firstWithStriking) = true := by decide +kernel
set_option maxRecDepth 20000 in
theorem w_Li_firstWithStriking_2 {Γ : sv_Ga} {res : Int32 × sv_S} (X : sv_Ok Γ ev_Li_firstWithStriking cX5_firstWithStriking sv_rI res) : ∀ (n : Nat) (x0 : Nat) (x1 : Int32) (x2 : Int32) (σ : sv_S), f_Li_firstWithStriking_2 n x0 x1 x2 σ = some res → sv_T Γ 2 [some (.inr (.inr (some (1, x0)))), some (.inl x1), some (.inl x2)] [] σ := by
  intro n
  induction n with
  | zero =>
    intro x0 x1 x2 σ h
    rw [f_Li_firstWithStriking_2.eq_1] at h
    cases h
  | succ n ih =>
    intro x0 x1 x2 σ h
    refine sv_run X d_Li_firstWithStriking (K := kk_Li_firstWithStriking_2 n) (sv_lk_all (P := fun pc (k : sv_Lo → List sv_V → sv_S → Option (Int32 × sv_S)) => ∀ lo st σ, k lo st σ = some res → sv_T Γ pc lo st σ) ?_) _ _ _ _ _ ((e_Li_firstWithStriking_2 n x0 x1 x2 σ).trans h)
    clear h
    refine List.forall_mem_cons.mpr ⟨fun lo st σ h => ?_, fun _ h => absurd h List.not_mem_nil⟩
    · dsimp only at h
      split at h
      · exact ih _ _ _ _ h
      · cases h

set_option maxRecDepth 20000 in
theorem b_Li_firstWithStriking (Γ : sv_Ga) (res : Int32 × sv_S) (X : sv_Ok Γ ev_Li_firstWithStriking cX5_firstWithStriking sv_rI res) (as : List sv_V) (σ : sv_S) (h : n_Li_firstWithStriking as σ = some res) : sv_T Γ 0 (sv_e0 3 as) [] σ := by
  unfold n_Li_firstWithStriking at h
  split at h
  · refine sv_run X d_Li_firstWithStriking (K := kk_Li_firstWithStriking) (sv_lk_all (P := fun pc (k : sv_Lo → List sv_V → sv_S → Option (Int32 × sv_S)) => ∀ lo st σ, k lo st σ = some res → sv_T Γ pc lo st σ) ?_) _ _ _ _ _ ((e_Li_firstWithStriking _ _ _).trans h)
    clear h
    refine List.forall_mem_cons.mpr ⟨fun lo st σ h => ?_, fun _ h => absurd h List.not_mem_nil⟩
    · dsimp only at h
      split at h
      · exact w_Li_firstWithStriking_2 X _ _ _ _ _ h
      · cases h
  · cases h
theorem a_Li_firstWithStriking (as : List sv_V) (σ : sv_S) (x : Int32 × sv_S) (h : n_Li_firstWithStriking as σ = some x) : sv_args 3 ev_Li_firstWithStriking.2.2.2.1 as := by
  unfold n_Li_firstWithStriking at h
  split at h
  · exact ⟨Nat.le_of_ble_eq_true rfl, fun _ v hv => by
      simp only [List.mem_cons, List.not_mem_nil, or_false] at hv
      rcases hv with rfl | rfl <;> trivial⟩
  · cases h
theorem g_Li_firstWithStriking (as : List sv_V) (σ : sv_S) (x : Option sv_V × sv_S) (h : sv_gI n_Li_firstWithStriking as σ = some x) : ∃ r i as', as = sv_R r i :: as' ∧ sv_kd r i = .inl 5 := by
  obtain ⟨_, _, h, -⟩ := sv_b_some h
  unfold n_Li_firstWithStriking at h
  split at h
  · exact ⟨_, _, _, rfl, rfl⟩
  · cases h

set_option maxRecDepth 20000 in
theorem m_Li_firstWithStriking (l : Launch) : sv_M l yX5_firstWithStriking cX5_firstWithStriking 3 (some .int) (sv_gI n_Li_firstWithStriking) 5 := by
  refine sv_mI (E := ev_Li_firstWithStriking) (by decide +kernel) (ln_gen fk_5 kk_5 (sv_ns _ (fun _ => rfl) _)) rfl ?_ a_Li_firstWithStriking b_Li_firstWithStriking
  intro p e R s m args below meth c cells slots Q base ad dC dI cA n0 S hkn hR hf pc n f hcs
  refine sv_lk_all (P := fun pc (x : Nat × sv_F) => sv_cok p l e R s m args below meth c cells slots Q base ad dC dI cA true 3 n0 pc x.1 x.2) ?_ pc (n, f) hcs
  exact List.forall_mem_cons.mpr ⟨(sv_cV S hkn (m_Li_passOne l) ⟨Nat.le_trans (by decide) hR.1, Nat.le_trans (by decide) hR.2⟩ (by decide) hf rfl (g_Li_passOne) (sv_w5 tw_529 tw_530 tw_531 tw_60 tw_532) (by decide +kernel) (sv_dc3 d_Li_firstWithStriking (pc := 9) rfl rfl)).I,
      fun _ h => absurd h List.not_mem_nil⟩
noncomputable def f_Li_mostAtOnce_4 : Nat → Nat → Int32 → Int32 → Int32 → sv_S → Option (Int32 × sv_S)
  | 0, _, _, _, _, _ => none
  | n + 1, x0, x1, x2, x3, σ =>
    sv_if (x1 ≤ x3)
      (some (x2, σ))
      (sv_b (f_Li_passOne x0 σ) (fun v1 σ2 =>
        sv_b (f_Jm_max x2 v1 σ2) (fun v3 σ4 =>
          f_Li_mostAtOnce_4 n x0 x1 v3 (x3 + (1 : Int32)) σ4)))
noncomputable def f_Li_mostAtOnce (a0 : Nat) (a1 : Int32) (σ : sv_S) : Option (Int32 × sv_S) :=
  f_Li_mostAtOnce_4 sv_fu a0 a1 (0 : Int32) (0 : Int32) σ
noncomputable def n_Li_mostAtOnce : List sv_V → sv_S → Option (Int32 × sv_S)
  | [.inr (.inr (some (1, a0))), .inl a1], σ => f_Li_mostAtOnce a0 a1 σ
  | _, _ => none
def cd_Li_mostAtOnce : sv_C := [(0, (.iconst 0, (.inl (0 : Int32), (1, (0, []))))), (1, (.istore_n 2, (sv_N, (2, (0, []))))), (2, (.iconst 0, (.inl (0 : Int32), (3, (0, []))))), (3, (.istore_n 3, (sv_N, (4, (0, []))))), (4, (.iload_n 3, (sv_N, (5, (0, []))))), (5, (.iload_n 1, (sv_N, (6, (0, []))))), (6, (.if_icmp .ge 18, (sv_N, (9, (24, []))))), (9, (.iload_n 2, (sv_N, (10, (0, []))))), (10, (.aload_n 0, (sv_N, (11, (0, []))))), (11, (.invokevirtual 139, (sv_N, (14, (0, []))))), (14, (.invokestatic 143, (sv_N, (17, (0, []))))), (17, (.istore_n 2, (sv_N, (18, (0, []))))), (18, (.iinc 3 1, (.inl (1 : Int32), (21, (0, []))))), (21, (.goto (-17), (sv_N, (24, (4, []))))), (24, (.iload_n 2, (sv_N, (25, (0, []))))), (25, (.ireturn, (sv_N, (26, (0, [])))))]
noncomputable def ev_Li_mostAtOnce : sv_E := (fun i => sv_lk i fl_5, (fun i => sv_lk i kc_5, (fun _ => 0, (true, (fun pc => sv_lk pc [(11, (1, .inl n_Li_passOne)), (14, (2, .inl n_Jm_max))], none)))))
noncomputable def kk_Li_mostAtOnce_4 (n : Nat) : sv_K (Int32 × sv_S) := fun pc => sv_lk pc [(4, fun lo st σ => match lo, st with
    | [some (.inr (.inr (some (1, x0)))), some (.inl x1), some (.inl x2), some (.inl x3)], [] => f_Li_mostAtOnce_4 n x0 x1 x2 x3 σ
    | _, _ => none)]
set_option maxRecDepth 20000 in
theorem e_Li_mostAtOnce_4 (n : Nat) (x0 : Nat) (x1 : Int32) (x2 : Int32) (x3 : Int32) (σ : sv_S) : sv_ex ev_Li_mostAtOnce sv_rI (kk_Li_mostAtOnce_4 n) cd_Li_mostAtOnce 18 4 [some (.inr (.inr (some (1, x0)))), some (.inl x1), some (.inl x2), some (.inl x3)] [] σ = f_Li_mostAtOnce_4 (n + 1) x0 x1 x2 x3 σ := by
  rw [f_Li_mostAtOnce_4.eq_2]
  delta ev_Li_mostAtOnce kk_Li_mostAtOnce_4 n_Li_passOne n_Jm_max
  generalize f_Li_passOne = c0
  generalize f_Jm_max = c1
  generalize f_Li_mostAtOnce_4 = c2
  rfl
noncomputable def kk_Li_mostAtOnce : sv_K (Int32 × sv_S) := fun pc => sv_lk pc [(4, fun lo st σ => match lo, st with
    | [some (.inr (.inr (some (1, x0)))), some (.inl x1), some (.inl x2), some (.inl x3)], [] => f_Li_mostAtOnce_4 sv_fu x0 x1 x2 x3 σ
    | _, _ => none)]
set_option maxRecDepth 20000 in
theorem e_Li_mostAtOnce (a0 : Nat) (a1 : Int32) (σ : sv_S) : sv_ex ev_Li_mostAtOnce sv_rI kk_Li_mostAtOnce cd_Li_mostAtOnce 18 0 [some (.inr (.inr (some (1, a0)))), some (.inl a1), none, none] [] σ = f_Li_mostAtOnce a0 a1 σ := by
  unfold f_Li_mostAtOnce
  delta ev_Li_mostAtOnce kk_Li_mostAtOnce n_Li_passOne n_Jm_max
  generalize f_Li_passOne = c0
  generalize f_Jm_max = c1
  generalize f_Li_mostAtOnce_4 = c2
  rfl
theorem d_Li_mostAtOnce : cd_Li_mostAtOnce.all (sv_dk cX5_mostAtOnce) = true := by decide +kernel
set_option maxRecDepth 20000 in
theorem w_Li_mostAtOnce_4 {Γ : sv_Ga} {res : Int32 × sv_S} (X : sv_Ok Γ ev_Li_mostAtOnce cX5_mostAtOnce sv_rI res) : ∀ (n : Nat) (x0 : Nat) (x1 : Int32) (x2 : Int32) (x3 : Int32) (σ : sv_S), f_Li_mostAtOnce_4 n x0 x1 x2 x3 σ = some res → sv_T Γ 4 [some (.inr (.inr (some (1, x0)))), some (.inl x1), some (.inl x2), some (.inl x3)] [] σ := by
  intro n
  induction n with
  | zero =>
    intro x0 x1 x2 x3 σ h
    rw [f_Li_mostAtOnce_4.eq_1] at h
    cases h
  | succ n ih =>
    intro x0 x1 x2 x3 σ h
    refine sv_run X d_Li_mostAtOnce (K := kk_Li_mostAtOnce_4 n) (sv_lk_all (P := fun pc (k : sv_Lo → List sv_V → sv_S → Option (Int32 × sv_S)) => ∀ lo st σ, k lo st σ = some res → sv_T Γ pc lo st σ) ?_) _ _ _ _ _ ((e_Li_mostAtOnce_4 n x0 x1 x2 x3 σ).trans h)
    clear h
    refine List.forall_mem_cons.mpr ⟨fun lo st σ h => ?_, fun _ h => absurd h List.not_mem_nil⟩
    · dsimp only at h
      split at h
      · exact ih _ _ _ _ _ h
      · cases h

set_option maxRecDepth 20000 in
theorem b_Li_mostAtOnce (Γ : sv_Ga) (res : Int32 × sv_S) (X : sv_Ok Γ ev_Li_mostAtOnce cX5_mostAtOnce sv_rI res) (as : List sv_V) (σ : sv_S) (h : n_Li_mostAtOnce as σ = some res) : sv_T Γ 0 (sv_e0 4 as) [] σ := by
  unfold n_Li_mostAtOnce at h
  split at h
  · refine sv_run X d_Li_mostAtOnce (K := kk_Li_mostAtOnce) (sv_lk_all (P := fun pc (k : sv_Lo → List sv_V → sv_S → Option (Int32 × sv_S)) => ∀ lo st σ, k lo st σ = some res → sv_T Γ pc lo st σ) ?_) _ _ _ _ _ ((e_Li_mostAtOnce _ _ _).trans h)
    clear h
    refine List.forall_mem_cons.mpr ⟨fun lo st σ h => ?_, fun _ h => absurd h List.not_mem_nil⟩
    · dsimp only at h
      split at h
      · exact w_Li_mostAtOnce_4 X _ _ _ _ _ _ h
      · cases h
  · cases h
theorem a_Li_mostAtOnce (as : List sv_V) (σ : sv_S) (x : Int32 × sv_S) (h : n_Li_mostAtOnce as σ = some x) : sv_args 4 ev_Li_mostAtOnce.2.2.2.1 as := by
  unfold n_Li_mostAtOnce at h
  split at h
  · exact ⟨Nat.le_of_ble_eq_true rfl, fun _ v hv => by
      simp only [List.mem_cons, List.not_mem_nil, or_false] at hv
      rcases hv with rfl | rfl <;> trivial⟩
  · cases h
theorem g_Li_mostAtOnce (as : List sv_V) (σ : sv_S) (x : Option sv_V × sv_S) (h : sv_gI n_Li_mostAtOnce as σ = some x) : ∃ r i as', as = sv_R r i :: as' ∧ sv_kd r i = .inl 5 := by
  obtain ⟨_, _, h, -⟩ := sv_b_some h
  unfold n_Li_mostAtOnce at h
  split at h
  · exact ⟨_, _, _, rfl, rfl⟩
  · cases h
theorem tw_586 : Cond.methodLink RX5 143 Lib.Math.max.name ∈ gw_tbl := gw_at 586 (by decide +kernel) rfl
set_option maxRecDepth 20000 in
theorem m_Li_mostAtOnce (l : Launch) : sv_M l yX5_mostAtOnce cX5_mostAtOnce 4 (some .int) (sv_gI n_Li_mostAtOnce) 5 := by
  refine sv_mI (E := ev_Li_mostAtOnce) (by decide +kernel) (ln_gen fk_5 kk_5 (sv_ns _ (fun _ => rfl) _)) rfl ?_ a_Li_mostAtOnce b_Li_mostAtOnce
  intro p e R s m args below meth c cells slots Q base ad dC dI cA n0 S hkn hR hf pc n f hcs
  refine sv_lk_all (P := fun pc (x : Nat × sv_F) => sv_cok p l e R s m args below meth c cells slots Q base ad dC dI cA true 4 n0 pc x.1 x.2) ?_ pc (n, f) hcs
  exact List.forall_mem_cons.mpr ⟨(sv_cV S hkn (m_Li_passOne l) ⟨Nat.le_trans (by decide) hR.1, Nat.le_trans (by decide) hR.2⟩ (by decide) hf rfl (g_Li_passOne) (sv_w5 tw_529 tw_530 tw_531 tw_60 tw_532) (by decide +kernel) (sv_dc3 d_Li_mostAtOnce (pc := 11) rfl rfl)).I,
      List.forall_mem_cons.mpr ⟨(sv_cmax S ⟨Nat.le_trans (by decide) hR.1, Nat.le_trans (by decide) hR.2⟩ hf (sv_w4 tw_586 tw_405 tw_66 tw_406) (sv_dc3 d_Li_mostAtOnce (pc := 14) rfl rfl)).I,
      fun _ h => absurd h List.not_mem_nil⟩⟩
noncomputable def f_Li_spreadIn_58 (k13 : Nat → Int32 → Int32 → Int32 → sv_S → Option (Int32 × sv_S)) (x0 : Nat) (x3 : Int32) (x4 : Int32) (x5 : Int32) (y0 : Int32) (σ : sv_S) : Option (Int32 × sv_S) :=
    sv_b (f_Jm_max x3 x5 σ) (fun v1 σ2 =>
      k13 x0 y0 v1 (x4 + (1 : Int32)) σ2)
noncomputable def f_Li_spreadIn_13 : Nat → Nat → Int32 → Int32 → Int32 → sv_S → Option (Int32 × sv_S)
  | 0, _, _, _, _, _ => none
  | n + 1, x0, x2, x3, x4, σ =>
    sv_if ((σ 1 x0 4) ≤ x4)
      (sv_if ((σ 1 x0 4) = 0)
        (some ((-1000000005 : Int32), σ))
        (some (x3 - x2, σ)))
      (sv_g (sv_in x4 (sv_ln 3 x0 σ)) (sv_if ((σ 2 (10 * x0 + (x4.toNatClampNeg)) 7) = 0)
        (some ((-1000000005 : Int32), σ))
        (sv_if (x4 = 0)
          (f_Li_spreadIn_58 (f_Li_spreadIn_13 n) x0 x3 x4 (σ 2 (10 * x0 + (x4.toNatClampNeg)) 7) (σ 2 (10 * x0 + (x4.toNatClampNeg)) 7) σ)
          (sv_b (f_Jm_min x2 (σ 2 (10 * x0 + (x4.toNatClampNeg)) 7) σ) (fun v1 σ2 =>
            f_Li_spreadIn_58 (f_Li_spreadIn_13 n) x0 x3 x4 (σ 2 (10 * x0 + (x4.toNatClampNeg)) 7) v1 σ2)))))
noncomputable def f_Li_spreadIn (a0 : Nat) (a1 : Int32) (σ : sv_S) : Option (Int32 × sv_S) :=
  sv_b (f_Li_pass a0 a1 σ) (fun v1 σ2 =>
    f_Li_spreadIn_13 sv_fu a0 (0 : Int32) (0 : Int32) (0 : Int32) σ2)
noncomputable def n_Li_spreadIn : List sv_V → sv_S → Option (Int32 × sv_S)
  | [.inr (.inr (some (1, a0))), .inl a1], σ => f_Li_spreadIn a0 a1 σ
  | _, _ => none
def cd_Li_spreadIn : sv_C := [(0, (.aload_n 0, (sv_N, (1, (0, []))))), (1, (.iload_n 1, (sv_N, (2, (0, []))))), (2, (.invokevirtual 146, (sv_N, (5, (0, []))))), (5, (.pop, (sv_N, (6, (0, []))))), (6, (.iconst 0, (.inl (0 : Int32), (7, (0, []))))), (7, (.istore_n 2, (sv_N, (8, (0, []))))), (8, (.iconst 0, (.inl (0 : Int32), (9, (0, []))))), (9, (.istore_n 3, (sv_N, (10, (0, []))))), (10, (.iconst 0, (.inl (0 : Int32), (11, (0, []))))), (11, (.istore 4, (sv_N, (13, (0, []))))), (13, (.iload 4, (sv_N, (15, (0, []))))), (15, (.aload_n 0, (sv_N, (16, (0, []))))), (16, (.getfield 42, (sv_N, (19, (0, []))))), (19, (.if_icmp .ge 53, (sv_N, (22, (72, []))))), (22, (.aload_n 0, (sv_N, (23, (0, []))))), (23, (.getfield 17, (sv_N, (26, (0, []))))), (26, (.iload 4, (sv_N, (28, (0, []))))), (28, (.aaload, (sv_N, (29, (0, []))))), (29, (.getfield 149, (sv_N, (32, (0, []))))), (32, (.istore 5, (sv_N, (34, (0, []))))), (34, (.iload 5, (sv_N, (36, (0, []))))), (36, (.ifCond .ne 6, (sv_N, (39, (42, []))))), (39, (.ldc 142, (sv_N, (41, (0, []))))), (41, (.ireturn, (sv_N, (42, (0, []))))), (42, (.iload 4, (sv_N, (44, (0, []))))), (44, (.ifCond .ne 8, (sv_N, (47, (52, []))))), (47, (.iload 5, (sv_N, (49, (0, []))))), (49, (.goto 9, (sv_N, (52, (58, []))))), (52, (.iload_n 2, (sv_N, (53, (0, []))))), (53, (.iload 5, (sv_N, (55, (0, []))))), (55, (.invokestatic 75, (sv_N, (58, (0, []))))), (58, (.istore_n 2, (sv_N, (59, (0, []))))), (59, (.iload_n 3, (sv_N, (60, (0, []))))), (60, (.iload 5, (sv_N, (62, (0, []))))), (62, (.invokestatic 143, (sv_N, (65, (0, []))))), (65, (.istore_n 3, (sv_N, (66, (0, []))))), (66, (.iinc 4 1, (.inl (1 : Int32), (69, (0, []))))), (69, (.goto (-56), (sv_N, (72, (13, []))))), (72, (.aload_n 0, (sv_N, (73, (0, []))))), (73, (.getfield 42, (sv_N, (76, (0, []))))), (76, (.ifCond .ne 8, (sv_N, (79, (84, []))))), (79, (.ldc 142, (sv_N, (81, (0, []))))), (81, (.goto 6, (sv_N, (84, (87, []))))), (84, (.iload_n 3, (sv_N, (85, (0, []))))), (85, (.iload_n 2, (sv_N, (86, (0, []))))), (86, (.isub, (sv_N, (87, (0, []))))), (87, (.ireturn, (sv_N, (88, (0, [])))))]
noncomputable def ev_Li_spreadIn : sv_E := (fun i => sv_lk i fl_5, (fun i => sv_lk i kc_5, (fun _ => 0, (true, (fun pc => sv_lk pc [(2, (2, .inl n_Li_pass)), (55, (2, .inl n_Jm_min)), (62, (2, .inl n_Jm_max))], none)))))
noncomputable def kk_Li_spreadIn_58 (k13 : Nat → Int32 → Int32 → Int32 → sv_S → Option (Int32 × sv_S)) : sv_K (Int32 × sv_S) := fun pc => sv_lk pc [(13, fun lo st σ => match lo, st with
    | [some (.inr (.inr (some (1, x0)))), _, some (.inl x2), some (.inl x3), some (.inl x4), _], [] => k13 x0 x2 x3 x4 σ
    | _, _ => none)]
set_option maxRecDepth 20000 in
theorem e_Li_spreadIn_58 (k13 : Nat → Int32 → Int32 → Int32 → sv_S → Option (Int32 × sv_S)) (x0 : Nat) (x3 : Int32) (x4 : Int32) (x5 : Int32) (y0 : Int32) (z1 z2 : Option sv_V) (σ : sv_S) : sv_ex ev_Li_spreadIn sv_rI (kk_Li_spreadIn_58 k13) cd_Li_spreadIn 49 58 [some (.inr (.inr (some (1, x0)))), z1, z2, some (.inl x3), some (.inl x4), some (.inl x5)] [.inl y0] σ = f_Li_spreadIn_58 k13 x0 x3 x4 x5 y0 σ := by
  unfold f_Li_spreadIn_58
  delta ev_Li_spreadIn kk_Li_spreadIn_58 n_Li_pass n_Jm_min n_Jm_max
  generalize f_Li_pass = c0
  generalize f_Jm_min = c1
  generalize f_Jm_max = c2
  generalize f_Li_spreadIn_13 = c3
  rfl
noncomputable def kk_Li_spreadIn_13 (n : Nat) : sv_K (Int32 × sv_S) := fun pc => sv_lk pc [(58, fun lo st σ => match lo, st with
    | [some (.inr (.inr (some (1, x0)))), _, _, some (.inl x3), some (.inl x4), some (.inl x5)], [.inl y0] => f_Li_spreadIn_58 (f_Li_spreadIn_13 n) x0 x3 x4 x5 y0 σ
    | _, _ => none)]
set_option maxRecDepth 20000 in
theorem e_Li_spreadIn_13 (n : Nat) (x0 : Nat) (x2 : Int32) (x3 : Int32) (x4 : Int32) (z1 z5 : Option sv_V) (σ : sv_S) : sv_ex ev_Li_spreadIn sv_rI (kk_Li_spreadIn_13 n) cd_Li_spreadIn 49 13 [some (.inr (.inr (some (1, x0)))), z1, some (.inl x2), some (.inl x3), some (.inl x4), z5] [] σ = f_Li_spreadIn_13 (n + 1) x0 x2 x3 x4 σ := by
  rw [f_Li_spreadIn_13.eq_2]
  delta ev_Li_spreadIn kk_Li_spreadIn_13 n_Li_pass n_Jm_min n_Jm_max
  generalize f_Li_pass = c0
  generalize f_Jm_min = c1
  generalize f_Jm_max = c2
  generalize f_Li_spreadIn_58 = c3
  generalize f_Li_spreadIn_13 = c4
  rfl
noncomputable def kk_Li_spreadIn : sv_K (Int32 × sv_S) := fun pc => sv_lk pc [(13, fun lo st σ => match lo, st with
    | [some (.inr (.inr (some (1, x0)))), _, some (.inl x2), some (.inl x3), some (.inl x4), _], [] => f_Li_spreadIn_13 sv_fu x0 x2 x3 x4 σ
    | _, _ => none)]
set_option maxRecDepth 20000 in
theorem e_Li_spreadIn (a0 : Nat) (a1 : Int32) (σ : sv_S) : sv_ex ev_Li_spreadIn sv_rI kk_Li_spreadIn cd_Li_spreadIn 49 0 [some (.inr (.inr (some (1, a0)))), some (.inl a1), none, none, none, none] [] σ = f_Li_spreadIn a0 a1 σ := by
  unfold f_Li_spreadIn
  delta ev_Li_spreadIn kk_Li_spreadIn n_Li_pass n_Jm_min n_Jm_max
  generalize f_Li_pass = c0
  generalize f_Jm_min = c1
  generalize f_Jm_max = c2
  generalize f_Li_spreadIn_13 = c3
  rfl
theorem d_Li_spreadIn : cd_Li_spreadIn.all (sv_dk cX5_spreadIn) = true := by decide +kernel
set_option maxRecDepth 20000 in
theorem w_Li_spreadIn_58 {Γ : sv_Ga} {res : Int32 × sv_S} (X : sv_Ok Γ ev_Li_spreadIn cX5_spreadIn sv_rI res) (k13 : Nat → Int32 → Int32 → Int32 → sv_S → Option (Int32 × sv_S)) (h13 : ∀ (x0 : Nat) (x2 : Int32) (x3 : Int32) (x4 : Int32) (z1 z5 : Option sv_V) (σ : sv_S), k13 x0 x2 x3 x4 σ = some res → sv_T Γ 13 [some (.inr (.inr (some (1, x0)))), z1, some (.inl x2), some (.inl x3), some (.inl x4), z5] [] σ) : ∀ (x0 : Nat) (x3 : Int32) (x4 : Int32) (x5 : Int32) (y0 : Int32) (z1 z2 : Option sv_V) (σ : sv_S), f_Li_spreadIn_58 k13 x0 x3 x4 x5 y0 σ = some res → sv_T Γ 58 [some (.inr (.inr (some (1, x0)))), z1, z2, some (.inl x3), some (.inl x4), some (.inl x5)] [.inl y0] σ := by
  intro x0 x3 x4 x5 y0 z1 z2 σ h
  refine sv_run X d_Li_spreadIn (K := kk_Li_spreadIn_58 k13) (sv_lk_all (P := fun pc (k : sv_Lo → List sv_V → sv_S → Option (Int32 × sv_S)) => ∀ lo st σ, k lo st σ = some res → sv_T Γ pc lo st σ) ?_) _ _ _ _ _ ((e_Li_spreadIn_58 k13 x0 x3 x4 x5 y0 z1 z2 σ).trans h)
  clear h
  refine List.forall_mem_cons.mpr ⟨fun lo st σ h => ?_, fun _ h => absurd h List.not_mem_nil⟩
  · dsimp only at h
    split at h
    · exact h13 _ _ _ _ _ _ _ h
    · cases h

set_option maxRecDepth 20000 in
theorem w_Li_spreadIn_13 {Γ : sv_Ga} {res : Int32 × sv_S} (X : sv_Ok Γ ev_Li_spreadIn cX5_spreadIn sv_rI res) : ∀ (n : Nat) (x0 : Nat) (x2 : Int32) (x3 : Int32) (x4 : Int32) (z1 z5 : Option sv_V) (σ : sv_S), f_Li_spreadIn_13 n x0 x2 x3 x4 σ = some res → sv_T Γ 13 [some (.inr (.inr (some (1, x0)))), z1, some (.inl x2), some (.inl x3), some (.inl x4), z5] [] σ := by
  intro n
  induction n with
  | zero =>
    intro x0 x2 x3 x4 z1 z5 σ h
    rw [f_Li_spreadIn_13.eq_1] at h
    cases h
  | succ n ih =>
    intro x0 x2 x3 x4 z1 z5 σ h
    refine sv_run X d_Li_spreadIn (K := kk_Li_spreadIn_13 n) (sv_lk_all (P := fun pc (k : sv_Lo → List sv_V → sv_S → Option (Int32 × sv_S)) => ∀ lo st σ, k lo st σ = some res → sv_T Γ pc lo st σ) ?_) _ _ _ _ _ ((e_Li_spreadIn_13 n x0 x2 x3 x4 z1 z5 σ).trans h)
    clear h
    refine List.forall_mem_cons.mpr ⟨fun lo st σ h => ?_, fun _ h => absurd h List.not_mem_nil⟩
    · dsimp only at h
      split at h
      · exact w_Li_spreadIn_58 X _ ih _ _ _ _ _ _ _ _ h
      · cases h

set_option maxRecDepth 20000 in
theorem b_Li_spreadIn (Γ : sv_Ga) (res : Int32 × sv_S) (X : sv_Ok Γ ev_Li_spreadIn cX5_spreadIn sv_rI res) (as : List sv_V) (σ : sv_S) (h : n_Li_spreadIn as σ = some res) : sv_T Γ 0 (sv_e0 6 as) [] σ := by
  unfold n_Li_spreadIn at h
  split at h
  · refine sv_run X d_Li_spreadIn (K := kk_Li_spreadIn) (sv_lk_all (P := fun pc (k : sv_Lo → List sv_V → sv_S → Option (Int32 × sv_S)) => ∀ lo st σ, k lo st σ = some res → sv_T Γ pc lo st σ) ?_) _ _ _ _ _ ((e_Li_spreadIn _ _ _).trans h)
    clear h
    refine List.forall_mem_cons.mpr ⟨fun lo st σ h => ?_, fun _ h => absurd h List.not_mem_nil⟩
    · dsimp only at h
      split at h
      · exact w_Li_spreadIn_13 X _ _ _ _ _ _ _ _ h
      · cases h
  · cases h
theorem a_Li_spreadIn (as : List sv_V) (σ : sv_S) (x : Int32 × sv_S) (h : n_Li_spreadIn as σ = some x) : sv_args 6 ev_Li_spreadIn.2.2.2.1 as := by
  unfold n_Li_spreadIn at h
  split at h
  · exact ⟨Nat.le_of_ble_eq_true rfl, fun _ v hv => by
      simp only [List.mem_cons, List.not_mem_nil, or_false] at hv
      rcases hv with rfl | rfl <;> trivial⟩
  · cases h
theorem g_Li_spreadIn (as : List sv_V) (σ : sv_S) (x : Option sv_V × sv_S) (h : sv_gI n_Li_spreadIn as σ = some x) : ∃ r i as', as = sv_R r i :: as' ∧ sv_kd r i = .inl 5 := by
  obtain ⟨_, _, h, -⟩ := sv_b_some h
  unfold n_Li_spreadIn at h
  split at h
  · exact ⟨_, _, _, rfl, rfl⟩
  · cases h
theorem tw_526 : Cond.instanceMethod yX5_pass ∈ gw_tbl := gw_at 526 (by decide +kernel) rfl
theorem tw_527 : Cond.selects RX5 yX5_pass yX5_pass ∈ gw_tbl := gw_at 527 (by decide +kernel) rfl
theorem tw_528 : Cond.code yX5_pass cX5_pass 4 (some .int) ∈ gw_tbl := gw_at 528 (by decide +kernel) rfl
theorem tw_585 : Cond.methodLink RX5 146 yX5_pass ∈ gw_tbl := gw_at 585 (by decide +kernel) rfl
set_option maxRecDepth 20000 in
theorem m_Li_spreadIn (l : Launch) : sv_M l yX5_spreadIn cX5_spreadIn 6 (some .int) (sv_gI n_Li_spreadIn) 6 := by
  refine sv_mI (E := ev_Li_spreadIn) (by decide +kernel) (ln_gen fk_5 kk_5 (sv_ns _ (fun _ => rfl) _)) rfl ?_ a_Li_spreadIn b_Li_spreadIn
  intro p e R s m args below meth c cells slots Q base ad dC dI cA n0 S hkn hR hf pc n f hcs
  refine sv_lk_all (P := fun pc (x : Nat × sv_F) => sv_cok p l e R s m args below meth c cells slots Q base ad dC dI cA true 6 n0 pc x.1 x.2) ?_ pc (n, f) hcs
  exact List.forall_mem_cons.mpr ⟨(sv_cV S hkn (m_Li_pass l) ⟨Nat.le_trans (by decide) hR.1, Nat.le_trans (by decide) hR.2⟩ (by decide) hf rfl (g_Li_pass) (sv_w5 tw_585 tw_526 tw_527 tw_60 tw_528) (by decide +kernel) (sv_dc3 d_Li_spreadIn (pc := 2) rfl rfl)).I,
      List.forall_mem_cons.mpr ⟨(sv_cmin S ⟨Nat.le_trans (by decide) hR.1, Nat.le_trans (by decide) hR.2⟩ hf (sv_w4 tw_368 tw_369 tw_66 tw_370) (sv_dc3 d_Li_spreadIn (pc := 55) rfl rfl)).I,
      List.forall_mem_cons.mpr ⟨(sv_cmax S ⟨Nat.le_trans (by decide) hR.1, Nat.le_trans (by decide) hR.2⟩ hf (sv_w4 tw_586 tw_405 tw_66 tw_406) (sv_dc3 d_Li_spreadIn (pc := 62) rfl rfl)).I,
      fun _ h => absurd h List.not_mem_nil⟩⟩⟩
noncomputable def f_Li_beatsBetween_9 : Nat → Nat → Int32 → Int32 → Int32 → Int32 → sv_S → Option (Int32 × sv_S)
  | 0, _, _, _, _, _, _ => none
  | n + 1, x0, x1, x2, x3, x4, σ =>
    sv_b (f_Jm_max x1 x2 σ) (fun v1 σ2 =>
      sv_if (v1 ≤ x4)
        (some (x3, σ2))
        (sv_g (sv_in x4 (sv_ln 3 x0 σ2)) (f_Li_beatsBetween_9 n x0 x1 x2 (x3 + (σ2 2 (10 * x0 + (x4.toNatClampNeg)) 6)) (x4 + (1 : Int32)) σ2)))
noncomputable def f_Li_beatsBetween (a0 : Nat) (a1 : Int32) (a2 : Int32) (σ : sv_S) : Option (Int32 × sv_S) :=
  sv_b (f_Jm_min a1 a2 σ) (fun v1 σ2 =>
    f_Li_beatsBetween_9 sv_fu a0 a1 a2 (0 : Int32) v1 σ2)
noncomputable def n_Li_beatsBetween : List sv_V → sv_S → Option (Int32 × sv_S)
  | [.inr (.inr (some (1, a0))), .inl a1, .inl a2], σ => f_Li_beatsBetween a0 a1 a2 σ
  | _, _ => none
def cd_Li_beatsBetween : sv_C := [(0, (.iconst 0, (.inl (0 : Int32), (1, (0, []))))), (1, (.istore_n 3, (sv_N, (2, (0, []))))), (2, (.iload_n 1, (sv_N, (3, (0, []))))), (3, (.iload_n 2, (sv_N, (4, (0, []))))), (4, (.invokestatic 75, (sv_N, (7, (0, []))))), (7, (.istore 4, (sv_N, (9, (0, []))))), (9, (.iload 4, (sv_N, (11, (0, []))))), (11, (.iload_n 1, (sv_N, (12, (0, []))))), (12, (.iload_n 2, (sv_N, (13, (0, []))))), (13, (.invokestatic 143, (sv_N, (16, (0, []))))), (16, (.if_icmp .ge 22, (sv_N, (19, (38, []))))), (19, (.iload_n 3, (sv_N, (20, (0, []))))), (20, (.aload_n 0, (sv_N, (21, (0, []))))), (21, (.getfield 17, (sv_N, (24, (0, []))))), (24, (.iload 4, (sv_N, (26, (0, []))))), (26, (.aaload, (sv_N, (27, (0, []))))), (27, (.getfield 81, (sv_N, (30, (0, []))))), (30, (.iadd, (sv_N, (31, (0, []))))), (31, (.istore_n 3, (sv_N, (32, (0, []))))), (32, (.iinc 4 1, (.inl (1 : Int32), (35, (0, []))))), (35, (.goto (-26), (sv_N, (38, (9, []))))), (38, (.iload_n 3, (sv_N, (39, (0, []))))), (39, (.ireturn, (sv_N, (40, (0, [])))))]
noncomputable def ev_Li_beatsBetween : sv_E := (fun i => sv_lk i fl_5, (fun i => sv_lk i kc_5, (fun _ => 0, (true, (fun pc => sv_lk pc [(4, (2, .inl n_Jm_min)), (13, (2, .inl n_Jm_max))], none)))))
noncomputable def kk_Li_beatsBetween_9 (n : Nat) : sv_K (Int32 × sv_S) := fun pc => sv_lk pc [(9, fun lo st σ => match lo, st with
    | [some (.inr (.inr (some (1, x0)))), some (.inl x1), some (.inl x2), some (.inl x3), some (.inl x4)], [] => f_Li_beatsBetween_9 n x0 x1 x2 x3 x4 σ
    | _, _ => none)]
set_option maxRecDepth 20000 in
theorem e_Li_beatsBetween_9 (n : Nat) (x0 : Nat) (x1 : Int32) (x2 : Int32) (x3 : Int32) (x4 : Int32) (σ : sv_S) : sv_ex ev_Li_beatsBetween sv_rI (kk_Li_beatsBetween_9 n) cd_Li_beatsBetween 25 9 [some (.inr (.inr (some (1, x0)))), some (.inl x1), some (.inl x2), some (.inl x3), some (.inl x4)] [] σ = f_Li_beatsBetween_9 (n + 1) x0 x1 x2 x3 x4 σ := by
  rw [f_Li_beatsBetween_9.eq_2]
  delta ev_Li_beatsBetween kk_Li_beatsBetween_9 n_Jm_min n_Jm_max
  generalize f_Jm_min = c0
  generalize f_Jm_max = c1
  generalize f_Li_beatsBetween_9 = c2
  rfl
noncomputable def kk_Li_beatsBetween : sv_K (Int32 × sv_S) := fun pc => sv_lk pc [(9, fun lo st σ => match lo, st with
    | [some (.inr (.inr (some (1, x0)))), some (.inl x1), some (.inl x2), some (.inl x3), some (.inl x4)], [] => f_Li_beatsBetween_9 sv_fu x0 x1 x2 x3 x4 σ
    | _, _ => none)]
set_option maxRecDepth 20000 in
theorem e_Li_beatsBetween (a0 : Nat) (a1 : Int32) (a2 : Int32) (σ : sv_S) : sv_ex ev_Li_beatsBetween sv_rI kk_Li_beatsBetween cd_Li_beatsBetween 25 0 [some (.inr (.inr (some (1, a0)))), some (.inl a1), some (.inl a2), none, none] [] σ = f_Li_beatsBetween a0 a1 a2 σ := by
  unfold f_Li_beatsBetween
  delta ev_Li_beatsBetween kk_Li_beatsBetween n_Jm_min n_Jm_max
  generalize f_Jm_min = c0
  generalize f_Jm_max = c1
  generalize f_Li_beatsBetween_9 = c2
  rfl
theorem d_Li_beatsBetween : cd_Li_beatsBetween.all (sv_dk cX5_beatsBetween) = true := by decide +kernel
set_option maxRecDepth 20000 in
theorem w_Li_beatsBetween_9 {Γ : sv_Ga} {res : Int32 × sv_S} (X : sv_Ok Γ ev_Li_beatsBetween cX5_beatsBetween sv_rI res) : ∀ (n : Nat) (x0 : Nat) (x1 : Int32) (x2 : Int32) (x3 : Int32) (x4 : Int32) (σ : sv_S), f_Li_beatsBetween_9 n x0 x1 x2 x3 x4 σ = some res → sv_T Γ 9 [some (.inr (.inr (some (1, x0)))), some (.inl x1), some (.inl x2), some (.inl x3), some (.inl x4)] [] σ := by
  intro n
  induction n with
  | zero =>
    intro x0 x1 x2 x3 x4 σ h
    rw [f_Li_beatsBetween_9.eq_1] at h
    cases h
  | succ n ih =>
    intro x0 x1 x2 x3 x4 σ h
    refine sv_run X d_Li_beatsBetween (K := kk_Li_beatsBetween_9 n) (sv_lk_all (P := fun pc (k : sv_Lo → List sv_V → sv_S → Option (Int32 × sv_S)) => ∀ lo st σ, k lo st σ = some res → sv_T Γ pc lo st σ) ?_) _ _ _ _ _ ((e_Li_beatsBetween_9 n x0 x1 x2 x3 x4 σ).trans h)
    clear h
    refine List.forall_mem_cons.mpr ⟨fun lo st σ h => ?_, fun _ h => absurd h List.not_mem_nil⟩
    · dsimp only at h
      split at h
      · exact ih _ _ _ _ _ _ h
      · cases h

set_option maxRecDepth 20000 in
theorem b_Li_beatsBetween (Γ : sv_Ga) (res : Int32 × sv_S) (X : sv_Ok Γ ev_Li_beatsBetween cX5_beatsBetween sv_rI res) (as : List sv_V) (σ : sv_S) (h : n_Li_beatsBetween as σ = some res) : sv_T Γ 0 (sv_e0 5 as) [] σ := by
  unfold n_Li_beatsBetween at h
  split at h
  · refine sv_run X d_Li_beatsBetween (K := kk_Li_beatsBetween) (sv_lk_all (P := fun pc (k : sv_Lo → List sv_V → sv_S → Option (Int32 × sv_S)) => ∀ lo st σ, k lo st σ = some res → sv_T Γ pc lo st σ) ?_) _ _ _ _ _ ((e_Li_beatsBetween _ _ _ _).trans h)
    clear h
    refine List.forall_mem_cons.mpr ⟨fun lo st σ h => ?_, fun _ h => absurd h List.not_mem_nil⟩
    · dsimp only at h
      split at h
      · exact w_Li_beatsBetween_9 X _ _ _ _ _ _ _ h
      · cases h
  · cases h
theorem a_Li_beatsBetween (as : List sv_V) (σ : sv_S) (x : Int32 × sv_S) (h : n_Li_beatsBetween as σ = some x) : sv_args 5 ev_Li_beatsBetween.2.2.2.1 as := by
  unfold n_Li_beatsBetween at h
  split at h
  · exact ⟨Nat.le_of_ble_eq_true rfl, fun _ v hv => by
      simp only [List.mem_cons, List.not_mem_nil, or_false] at hv
      rcases hv with rfl | rfl | rfl <;> trivial⟩
  · cases h
theorem g_Li_beatsBetween (as : List sv_V) (σ : sv_S) (x : Option sv_V × sv_S) (h : sv_gI n_Li_beatsBetween as σ = some x) : ∃ r i as', as = sv_R r i :: as' ∧ sv_kd r i = .inl 5 := by
  obtain ⟨_, _, h, -⟩ := sv_b_some h
  unfold n_Li_beatsBetween at h
  split at h
  · exact ⟨_, _, _, rfl, rfl⟩
  · cases h

set_option maxRecDepth 20000 in
theorem m_Li_beatsBetween (l : Launch) : sv_M l yX5_beatsBetween cX5_beatsBetween 5 (some .int) (sv_gI n_Li_beatsBetween) 1 := by
  refine sv_mI (E := ev_Li_beatsBetween) (by decide +kernel) (ln_gen fk_5 kk_5 (sv_ns _ (fun _ => rfl) _)) rfl ?_ a_Li_beatsBetween b_Li_beatsBetween
  intro p e R s m args below meth c cells slots Q base ad dC dI cA n0 S hkn hR hf pc n f hcs
  refine sv_lk_all (P := fun pc (x : Nat × sv_F) => sv_cok p l e R s m args below meth c cells slots Q base ad dC dI cA true 5 n0 pc x.1 x.2) ?_ pc (n, f) hcs
  exact List.forall_mem_cons.mpr ⟨(sv_cmin S ⟨Nat.le_trans (by decide) hR.1, Nat.le_trans (by decide) hR.2⟩ hf (sv_w4 tw_368 tw_369 tw_66 tw_370) (sv_dc3 d_Li_beatsBetween (pc := 4) rfl rfl)).I,
      List.forall_mem_cons.mpr ⟨(sv_cmax S ⟨Nat.le_trans (by decide) hR.1, Nat.le_trans (by decide) hR.2⟩ hf (sv_w4 tw_586 tw_405 tw_66 tw_406) (sv_dc3 d_Li_beatsBetween (pc := 13) rfl rfl)).I,
      fun _ h => absurd h List.not_mem_nil⟩⟩
noncomputable def f_Li_counting_4 : Nat → Nat → Int32 → Int32 → sv_S → Option (Int32 × sv_S)
  | 0, _, _, _, _ => none
  | n + 1, x0, x1, x2, σ =>
    sv_if ((σ 1 x0 4) ≤ x2)
      (some (x1, σ))
      (sv_g (sv_in x2 (sv_ln 3 x0 σ)) (sv_if ((σ 2 (10 * x0 + (x2.toNatClampNeg)) 2) ≤ 0)
        (f_Li_counting_4 n x0 x1 (x2 + (1 : Int32)) σ)
        (f_Li_counting_4 n x0 (x1 + (1 : Int32)) (x2 + (1 : Int32)) σ)))
noncomputable def f_Li_counting (a0 : Nat) (σ : sv_S) : Option (Int32 × sv_S) :=
  f_Li_counting_4 sv_fu a0 (0 : Int32) (0 : Int32) σ
noncomputable def n_Li_counting : List sv_V → sv_S → Option (Int32 × sv_S)
  | [.inr (.inr (some (1, a0)))], σ => f_Li_counting a0 σ
  | _, _ => none
def cd_Li_counting : sv_C := [(0, (.iconst 0, (.inl (0 : Int32), (1, (0, []))))), (1, (.istore_n 1, (sv_N, (2, (0, []))))), (2, (.iconst 0, (.inl (0 : Int32), (3, (0, []))))), (3, (.istore_n 2, (sv_N, (4, (0, []))))), (4, (.iload_n 2, (sv_N, (5, (0, []))))), (5, (.aload_n 0, (sv_N, (6, (0, []))))), (6, (.getfield 42, (sv_N, (9, (0, []))))), (9, (.if_icmp .ge 24, (sv_N, (12, (33, []))))), (12, (.aload_n 0, (sv_N, (13, (0, []))))), (13, (.getfield 17, (sv_N, (16, (0, []))))), (16, (.iload_n 2, (sv_N, (17, (0, []))))), (17, (.aaload, (sv_N, (18, (0, []))))), (18, (.getfield 117, (sv_N, (21, (0, []))))), (21, (.ifCond .le 6, (sv_N, (24, (27, []))))), (24, (.iinc 1 1, (.inl (1 : Int32), (27, (0, []))))), (27, (.iinc 2 1, (.inl (1 : Int32), (30, (0, []))))), (30, (.goto (-26), (sv_N, (33, (4, []))))), (33, (.iload_n 1, (sv_N, (34, (0, []))))), (34, (.ireturn, (sv_N, (35, (0, [])))))]
noncomputable def ev_Li_counting : sv_E := (fun i => sv_lk i fl_5, (fun i => sv_lk i kc_5, (fun _ => 0, (true, (fun pc => sv_lk pc [], none)))))
noncomputable def kk_Li_counting_4 (n : Nat) : sv_K (Int32 × sv_S) := fun pc => sv_lk pc [(4, fun lo st σ => match lo, st with
    | [some (.inr (.inr (some (1, x0)))), some (.inl x1), some (.inl x2)], [] => f_Li_counting_4 n x0 x1 x2 σ
    | _, _ => none)]
set_option maxRecDepth 20000 in
theorem e_Li_counting_4 (n : Nat) (x0 : Nat) (x1 : Int32) (x2 : Int32) (σ : sv_S) : sv_ex ev_Li_counting sv_rI (kk_Li_counting_4 n) cd_Li_counting 21 4 [some (.inr (.inr (some (1, x0)))), some (.inl x1), some (.inl x2)] [] σ = f_Li_counting_4 (n + 1) x0 x1 x2 σ := by
  rw [f_Li_counting_4.eq_2]
  delta ev_Li_counting kk_Li_counting_4
  generalize f_Li_counting_4 = c0
  rfl
noncomputable def kk_Li_counting : sv_K (Int32 × sv_S) := fun pc => sv_lk pc [(4, fun lo st σ => match lo, st with
    | [some (.inr (.inr (some (1, x0)))), some (.inl x1), some (.inl x2)], [] => f_Li_counting_4 sv_fu x0 x1 x2 σ
    | _, _ => none)]
set_option maxRecDepth 20000 in
theorem e_Li_counting (a0 : Nat) (σ : sv_S) : sv_ex ev_Li_counting sv_rI kk_Li_counting cd_Li_counting 21 0 [some (.inr (.inr (some (1, a0)))), none, none] [] σ = f_Li_counting a0 σ := by
  unfold f_Li_counting
  delta ev_Li_counting kk_Li_counting
  generalize f_Li_counting_4 = c0
  rfl
theorem d_Li_counting : cd_Li_counting.all (sv_dk cX5_counting) = true := by decide +kernel
set_option maxRecDepth 20000 in
theorem w_Li_counting_4 {Γ : sv_Ga} {res : Int32 × sv_S} (X : sv_Ok Γ ev_Li_counting cX5_counting sv_rI res) : ∀ (n : Nat) (x0 : Nat) (x1 : Int32) (x2 : Int32) (σ : sv_S), f_Li_counting_4 n x0 x1 x2 σ = some res → sv_T Γ 4 [some (.inr (.inr (some (1, x0)))), some (.inl x1), some (.inl x2)] [] σ := by
  intro n
  induction n with
  | zero =>
    intro x0 x1 x2 σ h
    rw [f_Li_counting_4.eq_1] at h
    cases h
  | succ n ih =>
    intro x0 x1 x2 σ h
    refine sv_run X d_Li_counting (K := kk_Li_counting_4 n) (sv_lk_all (P := fun pc (k : sv_Lo → List sv_V → sv_S → Option (Int32 × sv_S)) => ∀ lo st σ, k lo st σ = some res → sv_T Γ pc lo st σ) ?_) _ _ _ _ _ ((e_Li_counting_4 n x0 x1 x2 σ).trans h)
    clear h
    refine List.forall_mem_cons.mpr ⟨fun lo st σ h => ?_, fun _ h => absurd h List.not_mem_nil⟩
    · dsimp only at h
      split at h
      · exact ih _ _ _ _ h
      · cases h

set_option maxRecDepth 20000 in
theorem b_Li_counting (Γ : sv_Ga) (res : Int32 × sv_S) (X : sv_Ok Γ ev_Li_counting cX5_counting sv_rI res) (as : List sv_V) (σ : sv_S) (h : n_Li_counting as σ = some res) : sv_T Γ 0 (sv_e0 3 as) [] σ := by
  unfold n_Li_counting at h
  split at h
  · refine sv_run X d_Li_counting (K := kk_Li_counting) (sv_lk_all (P := fun pc (k : sv_Lo → List sv_V → sv_S → Option (Int32 × sv_S)) => ∀ lo st σ, k lo st σ = some res → sv_T Γ pc lo st σ) ?_) _ _ _ _ _ ((e_Li_counting _ _).trans h)
    clear h
    refine List.forall_mem_cons.mpr ⟨fun lo st σ h => ?_, fun _ h => absurd h List.not_mem_nil⟩
    · dsimp only at h
      split at h
      · exact w_Li_counting_4 X _ _ _ _ _ h
      · cases h
  · cases h
theorem a_Li_counting (as : List sv_V) (σ : sv_S) (x : Int32 × sv_S) (h : n_Li_counting as σ = some x) : sv_args 3 ev_Li_counting.2.2.2.1 as := by
  unfold n_Li_counting at h
  split at h
  · exact ⟨Nat.le_of_ble_eq_true rfl, fun _ v hv => by
      simp only [List.mem_cons, List.not_mem_nil, or_false] at hv
      rcases hv with rfl <;> trivial⟩
  · cases h
theorem g_Li_counting (as : List sv_V) (σ : sv_S) (x : Option sv_V × sv_S) (h : sv_gI n_Li_counting as σ = some x) : ∃ r i as', as = sv_R r i :: as' ∧ sv_kd r i = .inl 5 := by
  obtain ⟨_, _, h, -⟩ := sv_b_some h
  unfold n_Li_counting at h
  split at h
  · exact ⟨_, _, _, rfl, rfl⟩
  · cases h

set_option maxRecDepth 20000 in
theorem m_Li_counting (l : Launch) : sv_M l yX5_counting cX5_counting 3 (some .int) (sv_gI n_Li_counting) 0 := by
  refine sv_mI (E := ev_Li_counting) (by decide +kernel) (ln_gen fk_5 kk_5 (sv_ns _ (fun _ => rfl) _)) rfl ?_ a_Li_counting b_Li_counting
  intro p e R s m args below meth c cells slots Q base ad dC dI cA n0 S hkn hR hf pc n f hcs
  refine sv_lk_all (P := fun pc (x : Nat × sv_F) => sv_cok p l e R s m args below meth c cells slots Q base ad dC dI cA true 3 n0 pc x.1 x.2) ?_ pc (n, f) hcs
  exact fun _ h => absurd h List.not_mem_nil
noncomputable def f_Li_countsOfAll_4 : Nat → Nat → Int32 → Int32 → sv_S → Option (Int32 × sv_S)
  | 0, _, _, _, _ => none
  | n + 1, x0, x1, x2, σ =>
    sv_if ((σ 1 x0 4) ≤ x2)
      (some (x1, σ))
      (sv_g (sv_in x2 (sv_ln 3 x0 σ)) (f_Li_countsOfAll_4 n x0 (x1 + (σ 2 (10 * x0 + (x2.toNatClampNeg)) 2)) (x2 + (1 : Int32)) σ))
noncomputable def f_Li_countsOfAll (a0 : Nat) (σ : sv_S) : Option (Int32 × sv_S) :=
  f_Li_countsOfAll_4 sv_fu a0 (0 : Int32) (0 : Int32) σ
noncomputable def n_Li_countsOfAll : List sv_V → sv_S → Option (Int32 × sv_S)
  | [.inr (.inr (some (1, a0)))], σ => f_Li_countsOfAll a0 σ
  | _, _ => none
def cd_Li_countsOfAll : sv_C := [(0, (.iconst 0, (.inl (0 : Int32), (1, (0, []))))), (1, (.istore_n 1, (sv_N, (2, (0, []))))), (2, (.iconst 0, (.inl (0 : Int32), (3, (0, []))))), (3, (.istore_n 2, (sv_N, (4, (0, []))))), (4, (.iload_n 2, (sv_N, (5, (0, []))))), (5, (.aload_n 0, (sv_N, (6, (0, []))))), (6, (.getfield 42, (sv_N, (9, (0, []))))), (9, (.if_icmp .ge 21, (sv_N, (12, (30, []))))), (12, (.iload_n 1, (sv_N, (13, (0, []))))), (13, (.aload_n 0, (sv_N, (14, (0, []))))), (14, (.getfield 17, (sv_N, (17, (0, []))))), (17, (.iload_n 2, (sv_N, (18, (0, []))))), (18, (.aaload, (sv_N, (19, (0, []))))), (19, (.getfield 117, (sv_N, (22, (0, []))))), (22, (.iadd, (sv_N, (23, (0, []))))), (23, (.istore_n 1, (sv_N, (24, (0, []))))), (24, (.iinc 2 1, (.inl (1 : Int32), (27, (0, []))))), (27, (.goto (-23), (sv_N, (30, (4, []))))), (30, (.iload_n 1, (sv_N, (31, (0, []))))), (31, (.ireturn, (sv_N, (32, (0, [])))))]
noncomputable def ev_Li_countsOfAll : sv_E := (fun i => sv_lk i fl_5, (fun i => sv_lk i kc_5, (fun _ => 0, (true, (fun pc => sv_lk pc [], none)))))
noncomputable def kk_Li_countsOfAll_4 (n : Nat) : sv_K (Int32 × sv_S) := fun pc => sv_lk pc [(4, fun lo st σ => match lo, st with
    | [some (.inr (.inr (some (1, x0)))), some (.inl x1), some (.inl x2)], [] => f_Li_countsOfAll_4 n x0 x1 x2 σ
    | _, _ => none)]
set_option maxRecDepth 20000 in
theorem e_Li_countsOfAll_4 (n : Nat) (x0 : Nat) (x1 : Int32) (x2 : Int32) (σ : sv_S) : sv_ex ev_Li_countsOfAll sv_rI (kk_Li_countsOfAll_4 n) cd_Li_countsOfAll 22 4 [some (.inr (.inr (some (1, x0)))), some (.inl x1), some (.inl x2)] [] σ = f_Li_countsOfAll_4 (n + 1) x0 x1 x2 σ := by
  rw [f_Li_countsOfAll_4.eq_2]
  delta ev_Li_countsOfAll kk_Li_countsOfAll_4
  generalize f_Li_countsOfAll_4 = c0
  rfl
noncomputable def kk_Li_countsOfAll : sv_K (Int32 × sv_S) := fun pc => sv_lk pc [(4, fun lo st σ => match lo, st with
    | [some (.inr (.inr (some (1, x0)))), some (.inl x1), some (.inl x2)], [] => f_Li_countsOfAll_4 sv_fu x0 x1 x2 σ
    | _, _ => none)]
set_option maxRecDepth 20000 in
theorem e_Li_countsOfAll (a0 : Nat) (σ : sv_S) : sv_ex ev_Li_countsOfAll sv_rI kk_Li_countsOfAll cd_Li_countsOfAll 22 0 [some (.inr (.inr (some (1, a0)))), none, none] [] σ = f_Li_countsOfAll a0 σ := by
  unfold f_Li_countsOfAll
  delta ev_Li_countsOfAll kk_Li_countsOfAll
  generalize f_Li_countsOfAll_4 = c0
  rfl
theorem d_Li_countsOfAll : cd_Li_countsOfAll.all (sv_dk cX5_countsOfAll) = true := by decide +kernel
set_option maxRecDepth 20000 in
theorem w_Li_countsOfAll_4 {Γ : sv_Ga} {res : Int32 × sv_S} (X : sv_Ok Γ ev_Li_countsOfAll cX5_countsOfAll sv_rI res) : ∀ (n : Nat) (x0 : Nat) (x1 : Int32) (x2 : Int32) (σ : sv_S), f_Li_countsOfAll_4 n x0 x1 x2 σ = some res → sv_T Γ 4 [some (.inr (.inr (some (1, x0)))), some (.inl x1), some (.inl x2)] [] σ := by
  intro n
  induction n with
  | zero =>
    intro x0 x1 x2 σ h
    rw [f_Li_countsOfAll_4.eq_1] at h
    cases h
  | succ n ih =>
    intro x0 x1 x2 σ h
    refine sv_run X d_Li_countsOfAll (K := kk_Li_countsOfAll_4 n) (sv_lk_all (P := fun pc (k : sv_Lo → List sv_V → sv_S → Option (Int32 × sv_S)) => ∀ lo st σ, k lo st σ = some res → sv_T Γ pc lo st σ) ?_) _ _ _ _ _ ((e_Li_countsOfAll_4 n x0 x1 x2 σ).trans h)
    clear h
    refine List.forall_mem_cons.mpr ⟨fun lo st σ h => ?_, fun _ h => absurd h List.not_mem_nil⟩
    · dsimp only at h
      split at h
      · exact ih _ _ _ _ h
      · cases h

set_option maxRecDepth 20000 in
theorem b_Li_countsOfAll (Γ : sv_Ga) (res : Int32 × sv_S) (X : sv_Ok Γ ev_Li_countsOfAll cX5_countsOfAll sv_rI res) (as : List sv_V) (σ : sv_S) (h : n_Li_countsOfAll as σ = some res) : sv_T Γ 0 (sv_e0 3 as) [] σ := by
  unfold n_Li_countsOfAll at h
  split at h
  · refine sv_run X d_Li_countsOfAll (K := kk_Li_countsOfAll) (sv_lk_all (P := fun pc (k : sv_Lo → List sv_V → sv_S → Option (Int32 × sv_S)) => ∀ lo st σ, k lo st σ = some res → sv_T Γ pc lo st σ) ?_) _ _ _ _ _ ((e_Li_countsOfAll _ _).trans h)
    clear h
    refine List.forall_mem_cons.mpr ⟨fun lo st σ h => ?_, fun _ h => absurd h List.not_mem_nil⟩
    · dsimp only at h
      split at h
      · exact w_Li_countsOfAll_4 X _ _ _ _ _ h
      · cases h
  · cases h
theorem a_Li_countsOfAll (as : List sv_V) (σ : sv_S) (x : Int32 × sv_S) (h : n_Li_countsOfAll as σ = some x) : sv_args 3 ev_Li_countsOfAll.2.2.2.1 as := by
  unfold n_Li_countsOfAll at h
  split at h
  · exact ⟨Nat.le_of_ble_eq_true rfl, fun _ v hv => by
      simp only [List.mem_cons, List.not_mem_nil, or_false] at hv
      rcases hv with rfl <;> trivial⟩
  · cases h
theorem g_Li_countsOfAll (as : List sv_V) (σ : sv_S) (x : Option sv_V × sv_S) (h : sv_gI n_Li_countsOfAll as σ = some x) : ∃ r i as', as = sv_R r i :: as' ∧ sv_kd r i = .inl 5 := by
  obtain ⟨_, _, h, -⟩ := sv_b_some h
  unfold n_Li_countsOfAll at h
  split at h
  · exact ⟨_, _, _, rfl, rfl⟩
  · cases h

set_option maxRecDepth 20000 in
theorem m_Li_countsOfAll (l : Launch) : sv_M l yX5_countsOfAll cX5_countsOfAll 3 (some .int) (sv_gI n_Li_countsOfAll) 0 := by
  refine sv_mI (E := ev_Li_countsOfAll) (by decide +kernel) (ln_gen fk_5 kk_5 (sv_ns _ (fun _ => rfl) _)) rfl ?_ a_Li_countsOfAll b_Li_countsOfAll
  intro p e R s m args below meth c cells slots Q base ad dC dI cA n0 S hkn hR hf pc n f hcs
  refine sv_lk_all (P := fun pc (x : Nat × sv_F) => sv_cok p l e R s m args below meth c cells slots Q base ad dC dI cA true 3 n0 pc x.1 x.2) ?_ pc (n, f) hcs
  exact fun _ h => absurd h List.not_mem_nil
noncomputable def f_Li_strokesOfAll_4 : Nat → Nat → Int32 → Int32 → sv_S → Option (Int32 × sv_S)
  | 0, _, _, _, _ => none
  | n + 1, x0, x1, x2, σ =>
    sv_if ((σ 1 x0 4) ≤ x2)
      (some (x1, σ))
      (sv_g (sv_in x2 (sv_ln 3 x0 σ)) (f_Li_strokesOfAll_4 n x0 (x1 + (σ 2 (10 * x0 + (x2.toNatClampNeg)) 5)) (x2 + (1 : Int32)) σ))
noncomputable def f_Li_strokesOfAll (a0 : Nat) (σ : sv_S) : Option (Int32 × sv_S) :=
  f_Li_strokesOfAll_4 sv_fu a0 (0 : Int32) (0 : Int32) σ
noncomputable def n_Li_strokesOfAll : List sv_V → sv_S → Option (Int32 × sv_S)
  | [.inr (.inr (some (1, a0)))], σ => f_Li_strokesOfAll a0 σ
  | _, _ => none
def cd_Li_strokesOfAll : sv_C := [(0, (.iconst 0, (.inl (0 : Int32), (1, (0, []))))), (1, (.istore_n 1, (sv_N, (2, (0, []))))), (2, (.iconst 0, (.inl (0 : Int32), (3, (0, []))))), (3, (.istore_n 2, (sv_N, (4, (0, []))))), (4, (.iload_n 2, (sv_N, (5, (0, []))))), (5, (.aload_n 0, (sv_N, (6, (0, []))))), (6, (.getfield 42, (sv_N, (9, (0, []))))), (9, (.if_icmp .ge 21, (sv_N, (12, (30, []))))), (12, (.iload_n 1, (sv_N, (13, (0, []))))), (13, (.aload_n 0, (sv_N, (14, (0, []))))), (14, (.getfield 17, (sv_N, (17, (0, []))))), (17, (.iload_n 2, (sv_N, (18, (0, []))))), (18, (.aaload, (sv_N, (19, (0, []))))), (19, (.getfield 152, (sv_N, (22, (0, []))))), (22, (.iadd, (sv_N, (23, (0, []))))), (23, (.istore_n 1, (sv_N, (24, (0, []))))), (24, (.iinc 2 1, (.inl (1 : Int32), (27, (0, []))))), (27, (.goto (-23), (sv_N, (30, (4, []))))), (30, (.iload_n 1, (sv_N, (31, (0, []))))), (31, (.ireturn, (sv_N, (32, (0, [])))))]
noncomputable def ev_Li_strokesOfAll : sv_E := (fun i => sv_lk i fl_5, (fun i => sv_lk i kc_5, (fun _ => 0, (true, (fun pc => sv_lk pc [], none)))))
noncomputable def kk_Li_strokesOfAll_4 (n : Nat) : sv_K (Int32 × sv_S) := fun pc => sv_lk pc [(4, fun lo st σ => match lo, st with
    | [some (.inr (.inr (some (1, x0)))), some (.inl x1), some (.inl x2)], [] => f_Li_strokesOfAll_4 n x0 x1 x2 σ
    | _, _ => none)]
set_option maxRecDepth 20000 in
theorem e_Li_strokesOfAll_4 (n : Nat) (x0 : Nat) (x1 : Int32) (x2 : Int32) (σ : sv_S) : sv_ex ev_Li_strokesOfAll sv_rI (kk_Li_strokesOfAll_4 n) cd_Li_strokesOfAll 22 4 [some (.inr (.inr (some (1, x0)))), some (.inl x1), some (.inl x2)] [] σ = f_Li_strokesOfAll_4 (n + 1) x0 x1 x2 σ := by
  rw [f_Li_strokesOfAll_4.eq_2]
  delta ev_Li_strokesOfAll kk_Li_strokesOfAll_4
  generalize f_Li_strokesOfAll_4 = c0
  rfl
noncomputable def kk_Li_strokesOfAll : sv_K (Int32 × sv_S) := fun pc => sv_lk pc [(4, fun lo st σ => match lo, st with
    | [some (.inr (.inr (some (1, x0)))), some (.inl x1), some (.inl x2)], [] => f_Li_strokesOfAll_4 sv_fu x0 x1 x2 σ
    | _, _ => none)]
set_option maxRecDepth 20000 in
theorem e_Li_strokesOfAll (a0 : Nat) (σ : sv_S) : sv_ex ev_Li_strokesOfAll sv_rI kk_Li_strokesOfAll cd_Li_strokesOfAll 22 0 [some (.inr (.inr (some (1, a0)))), none, none] [] σ = f_Li_strokesOfAll a0 σ := by
  unfold f_Li_strokesOfAll
  delta ev_Li_strokesOfAll kk_Li_strokesOfAll
  generalize f_Li_strokesOfAll_4 = c0
  rfl
theorem d_Li_strokesOfAll : cd_Li_strokesOfAll.all (sv_dk cX5_strokesOfAll) = true := by decide +kernel
set_option maxRecDepth 20000 in
theorem w_Li_strokesOfAll_4 {Γ : sv_Ga} {res : Int32 × sv_S} (X : sv_Ok Γ ev_Li_strokesOfAll cX5_strokesOfAll sv_rI res) : ∀ (n : Nat) (x0 : Nat) (x1 : Int32) (x2 : Int32) (σ : sv_S), f_Li_strokesOfAll_4 n x0 x1 x2 σ = some res → sv_T Γ 4 [some (.inr (.inr (some (1, x0)))), some (.inl x1), some (.inl x2)] [] σ := by
  intro n
  induction n with
  | zero =>
    intro x0 x1 x2 σ h
    rw [f_Li_strokesOfAll_4.eq_1] at h
    cases h
  | succ n ih =>
    intro x0 x1 x2 σ h
    refine sv_run X d_Li_strokesOfAll (K := kk_Li_strokesOfAll_4 n) (sv_lk_all (P := fun pc (k : sv_Lo → List sv_V → sv_S → Option (Int32 × sv_S)) => ∀ lo st σ, k lo st σ = some res → sv_T Γ pc lo st σ) ?_) _ _ _ _ _ ((e_Li_strokesOfAll_4 n x0 x1 x2 σ).trans h)
    clear h
    refine List.forall_mem_cons.mpr ⟨fun lo st σ h => ?_, fun _ h => absurd h List.not_mem_nil⟩
    · dsimp only at h
      split at h
      · exact ih _ _ _ _ h
      · cases h

set_option maxRecDepth 20000 in
theorem b_Li_strokesOfAll (Γ : sv_Ga) (res : Int32 × sv_S) (X : sv_Ok Γ ev_Li_strokesOfAll cX5_strokesOfAll sv_rI res) (as : List sv_V) (σ : sv_S) (h : n_Li_strokesOfAll as σ = some res) : sv_T Γ 0 (sv_e0 3 as) [] σ := by
  unfold n_Li_strokesOfAll at h
  split at h
  · refine sv_run X d_Li_strokesOfAll (K := kk_Li_strokesOfAll) (sv_lk_all (P := fun pc (k : sv_Lo → List sv_V → sv_S → Option (Int32 × sv_S)) => ∀ lo st σ, k lo st σ = some res → sv_T Γ pc lo st σ) ?_) _ _ _ _ _ ((e_Li_strokesOfAll _ _).trans h)
    clear h
    refine List.forall_mem_cons.mpr ⟨fun lo st σ h => ?_, fun _ h => absurd h List.not_mem_nil⟩
    · dsimp only at h
      split at h
      · exact w_Li_strokesOfAll_4 X _ _ _ _ _ h
      · cases h
  · cases h
theorem a_Li_strokesOfAll (as : List sv_V) (σ : sv_S) (x : Int32 × sv_S) (h : n_Li_strokesOfAll as σ = some x) : sv_args 3 ev_Li_strokesOfAll.2.2.2.1 as := by
  unfold n_Li_strokesOfAll at h
  split at h
  · exact ⟨Nat.le_of_ble_eq_true rfl, fun _ v hv => by
      simp only [List.mem_cons, List.not_mem_nil, or_false] at hv
      rcases hv with rfl <;> trivial⟩
  · cases h
theorem g_Li_strokesOfAll (as : List sv_V) (σ : sv_S) (x : Option sv_V × sv_S) (h : sv_gI n_Li_strokesOfAll as σ = some x) : ∃ r i as', as = sv_R r i :: as' ∧ sv_kd r i = .inl 5 := by
  obtain ⟨_, _, h, -⟩ := sv_b_some h
  unfold n_Li_strokesOfAll at h
  split at h
  · exact ⟨_, _, _, rfl, rfl⟩
  · cases h

set_option maxRecDepth 20000 in
theorem m_Li_strokesOfAll (l : Launch) : sv_M l yX5_strokesOfAll cX5_strokesOfAll 3 (some .int) (sv_gI n_Li_strokesOfAll) 0 := by
  refine sv_mI (E := ev_Li_strokesOfAll) (by decide +kernel) (ln_gen fk_5 kk_5 (sv_ns _ (fun _ => rfl) _)) rfl ?_ a_Li_strokesOfAll b_Li_strokesOfAll
  intro p e R s m args below meth c cells slots Q base ad dC dI cA n0 S hkn hR hf pc n f hcs
  refine sv_lk_all (P := fun pc (x : Nat × sv_F) => sv_cok p l e R s m args below meth c cells slots Q base ad dC dI cA true 3 n0 pc x.1 x.2) ?_ pc (n, f) hcs
  exact fun _ h => absurd h List.not_mem_nil
noncomputable def f_Sh_begin (a0 : Nat) (a1 : Int32) (a2 : Int32) (σ : sv_S) : Option (sv_S) :=
  let σ1 := sv_up σ 12 a0 0 a1
  let σ2 := sv_up σ1 12 a0 1 a2
  sv_b0 (f_Ja_fill a0 (0 : Int32) σ2) (fun σ3 =>
    some σ3)
noncomputable def n_Sh_begin : List sv_V → sv_S → Option (sv_S)
  | [.inr (.inr (some (12, a0))), .inl a1, .inl a2], σ => f_Sh_begin a0 a1 a2 σ
  | _, _ => none
def cd_Sh_begin : sv_C := [(0, (.aload_n 0, (sv_N, (1, (0, []))))), (1, (.iload_n 1, (sv_N, (2, (0, []))))), (2, (.putfield 9, (sv_N, (5, (0, []))))), (5, (.aload_n 0, (sv_N, (6, (0, []))))), (6, (.iload_n 2, (sv_N, (7, (0, []))))), (7, (.putfield 19, (sv_N, (10, (0, []))))), (10, (.aload_n 0, (sv_N, (11, (0, []))))), (11, (.getfield 15, (sv_N, (14, (0, []))))), (14, (.iconst 0, (.inl (0 : Int32), (15, (0, []))))), (15, (.invokestatic 22, (sv_N, (18, (0, []))))), (18, (.return_, (sv_N, (19, (0, [])))))]
noncomputable def ev_Sh_begin : sv_E := (fun i => sv_lk i fl_6, (fun i => sv_lk i kc_6, (fun _ => 0, (true, (fun pc => sv_lk pc [(15, (2, .inr (.inl n_Ja_fill)))], none)))))
noncomputable def kk_Sh_begin : sv_K (sv_S) := fun pc => sv_lk pc []
set_option maxRecDepth 20000 in
theorem e_Sh_begin (a0 : Nat) (a1 : Int32) (a2 : Int32) (σ : sv_S) : sv_ex ev_Sh_begin sv_rV kk_Sh_begin cd_Sh_begin 13 0 [some (.inr (.inr (some (12, a0)))), some (.inl a1), some (.inl a2)] [] σ = f_Sh_begin a0 a1 a2 σ := by
  unfold f_Sh_begin
  delta ev_Sh_begin kk_Sh_begin n_Ja_fill
  generalize f_Ja_fill = c0
  rfl
theorem d_Sh_begin : cd_Sh_begin.all (sv_dk cX6_begin) = true := by decide +kernel
set_option maxRecDepth 20000 in
theorem b_Sh_begin (Γ : sv_Ga) (res : sv_S) (X : sv_Ok Γ ev_Sh_begin cX6_begin sv_rV res) (as : List sv_V) (σ : sv_S) (h : n_Sh_begin as σ = some res) : sv_T Γ 0 (sv_e0 3 as) [] σ := by
  unfold n_Sh_begin at h
  split at h
  · refine sv_run X d_Sh_begin (K := kk_Sh_begin) (sv_lk_all (P := fun pc (k : sv_Lo → List sv_V → sv_S → Option (sv_S)) => ∀ lo st σ, k lo st σ = some res → sv_T Γ pc lo st σ) ?_) _ _ _ _ _ ((e_Sh_begin _ _ _ _).trans h)
    clear h
    exact fun _ h => absurd h List.not_mem_nil
  · cases h
theorem a_Sh_begin (as : List sv_V) (σ : sv_S) (x : sv_S) (h : n_Sh_begin as σ = some x) : sv_args 3 ev_Sh_begin.2.2.2.1 as := by
  unfold n_Sh_begin at h
  split at h
  · exact ⟨Nat.le_of_ble_eq_true rfl, fun _ v hv => by
      simp only [List.mem_cons, List.not_mem_nil, or_false] at hv
      rcases hv with rfl | rfl | rfl <;> trivial⟩
  · cases h
theorem g_Sh_begin (as : List sv_V) (σ : sv_S) (x : Option sv_V × sv_S) (h : sv_gV n_Sh_begin as σ = some x) : ∃ r i as', as = sv_R r i :: as' ∧ sv_kd r i = .inl 6 := by
  obtain ⟨_, h, -⟩ := sv_b0_some h
  unfold n_Sh_begin at h
  split at h
  · exact ⟨_, _, _, rfl, rfl⟩
  · cases h
theorem tw_62 : Cond.initialized RJ7 ∈ gw_tbl := gw_at 62 (by decide +kernel) rfl
theorem tw_180 : Cond.static yJ7_fill_53178 ∈ gw_tbl := gw_at 180 (by decide +kernel) rfl
theorem tw_181 : Cond.code yJ7_fill_53178 cJ7_fill_53178 4 none ∈ gw_tbl := gw_at 181 (by decide +kernel) rfl
theorem tw_908 : Cond.methodLink RX6 22 yJ7_fill_53178 ∈ gw_tbl := gw_at 908 (by decide +kernel) rfl
set_option maxRecDepth 20000 in
theorem m_Sh_begin (l : Launch) : sv_M l yX6_begin cX6_begin 3 none (sv_gV n_Sh_begin) 1 := by
  refine sv_mV (E := ev_Sh_begin) (by decide +kernel) (ln_gen fk_6 kk_6 (sv_ns _ (fun _ => rfl) _)) rfl ?_ a_Sh_begin b_Sh_begin
  intro p e R s m args below meth c cells slots Q base ad dC dI cA n0 S hkn hR hf pc n f hcs
  refine sv_lk_all (P := fun pc (x : Nat × sv_F) => sv_cok p l e R s m args below meth c cells slots Q base ad dC dI cA true 3 n0 pc x.1 x.2) ?_ pc (n, f) hcs
  exact List.forall_mem_cons.mpr ⟨(sv_cS S hkn (m_Ja_fill l) ⟨Nat.le_trans (by decide) hR.1, Nat.le_trans (by decide) hR.2⟩ (by decide) hf (sv_w4 tw_908 tw_180 tw_62 tw_181) (by decide +kernel) (sv_dc3 d_Sh_begin (pc := 15) rfl rfl)).V,
      fun _ h => absurd h List.not_mem_nil⟩
noncomputable def f_Sh_fillAs (a0 : Nat) (a1 : Nat) (σ : sv_S) : Option (sv_S) :=
  let σ1 := sv_up σ 12 a0 0 (σ 12 a1 0)
  let σ2 := sv_up σ1 12 a0 1 (σ1 12 a1 1)
  sv_b0 (f_ac13 a1 (0 : Int32) a0 (0 : Int32) (24 : Int32) σ2) (fun σ3 =>
    some σ3)
noncomputable def n_Sh_fillAs : List sv_V → sv_S → Option (sv_S)
  | [.inr (.inr (some (12, a0))), .inr (.inr (some (12, a1)))], σ => f_Sh_fillAs a0 a1 σ
  | _, _ => none
def cd_Sh_fillAs : sv_C := [(0, (.aload_n 0, (sv_N, (1, (0, []))))), (1, (.aload_n 1, (sv_N, (2, (0, []))))), (2, (.getfield 9, (sv_N, (5, (0, []))))), (5, (.putfield 9, (sv_N, (8, (0, []))))), (8, (.aload_n 0, (sv_N, (9, (0, []))))), (9, (.aload_n 1, (sv_N, (10, (0, []))))), (10, (.getfield 19, (sv_N, (13, (0, []))))), (13, (.putfield 19, (sv_N, (16, (0, []))))), (16, (.aload_n 1, (sv_N, (17, (0, []))))), (17, (.getfield 15, (sv_N, (20, (0, []))))), (20, (.iconst 0, (.inl (0 : Int32), (21, (0, []))))), (21, (.aload_n 0, (sv_N, (22, (0, []))))), (22, (.getfield 15, (sv_N, (25, (0, []))))), (25, (.iconst 0, (.inl (0 : Int32), (26, (0, []))))), (26, (.bipush 24, (.inl (24 : Int32), (28, (0, []))))), (28, (.invokestatic 28, (sv_N, (31, (0, []))))), (31, (.return_, (sv_N, (32, (0, [])))))]
noncomputable def ev_Sh_fillAs : sv_E := (fun i => sv_lk i fl_6, (fun i => sv_lk i kc_6, (fun _ => 0, (true, (fun pc => sv_lk pc [(28, (5, .inr (.inl n_ac13)))], none)))))
noncomputable def kk_Sh_fillAs : sv_K (sv_S) := fun pc => sv_lk pc []
set_option maxRecDepth 20000 in
theorem e_Sh_fillAs (a0 : Nat) (a1 : Nat) (σ : sv_S) : sv_ex ev_Sh_fillAs sv_rV kk_Sh_fillAs cd_Sh_fillAs 19 0 [some (.inr (.inr (some (12, a0)))), some (.inr (.inr (some (12, a1))))] [] σ = f_Sh_fillAs a0 a1 σ := by
  unfold f_Sh_fillAs
  delta ev_Sh_fillAs kk_Sh_fillAs n_ac13
  generalize f_ac13 = c0
  rfl
theorem d_Sh_fillAs : cd_Sh_fillAs.all (sv_dk cX6_fillAs) = true := by decide +kernel
set_option maxRecDepth 20000 in
theorem b_Sh_fillAs (Γ : sv_Ga) (res : sv_S) (X : sv_Ok Γ ev_Sh_fillAs cX6_fillAs sv_rV res) (as : List sv_V) (σ : sv_S) (h : n_Sh_fillAs as σ = some res) : sv_T Γ 0 (sv_e0 2 as) [] σ := by
  unfold n_Sh_fillAs at h
  split at h
  · refine sv_run X d_Sh_fillAs (K := kk_Sh_fillAs) (sv_lk_all (P := fun pc (k : sv_Lo → List sv_V → sv_S → Option (sv_S)) => ∀ lo st σ, k lo st σ = some res → sv_T Γ pc lo st σ) ?_) _ _ _ _ _ ((e_Sh_fillAs _ _ _).trans h)
    clear h
    exact fun _ h => absurd h List.not_mem_nil
  · cases h
theorem a_Sh_fillAs (as : List sv_V) (σ : sv_S) (x : sv_S) (h : n_Sh_fillAs as σ = some x) : sv_args 2 ev_Sh_fillAs.2.2.2.1 as := by
  unfold n_Sh_fillAs at h
  split at h
  · exact ⟨Nat.le_of_ble_eq_true rfl, fun _ v hv => by
      simp only [List.mem_cons, List.not_mem_nil, or_false] at hv
      rcases hv with rfl | rfl <;> trivial⟩
  · cases h
theorem g_Sh_fillAs (as : List sv_V) (σ : sv_S) (x : Option sv_V × sv_S) (h : sv_gV n_Sh_fillAs as σ = some x) : ∃ r i as', as = sv_R r i :: as' ∧ sv_kd r i = .inl 6 := by
  obtain ⟨_, h, -⟩ := sv_b0_some h
  unfold n_Sh_fillAs at h
  split at h
  · exact ⟨_, _, _, rfl, rfl⟩
  · cases h
theorem tw_947 : Cond.methodLink RX6 28 arraycopyName ∈ gw_tbl := gw_at 947 (by decide +kernel) rfl
set_option maxRecDepth 20000 in
theorem m_Sh_fillAs (l : Launch) : sv_M l yX6_fillAs cX6_fillAs 2 none (sv_gV n_Sh_fillAs) 1 := by
  refine sv_mV (E := ev_Sh_fillAs) (by decide +kernel) (ln_gen fk_6 kk_6 (sv_ns _ (fun _ => rfl) _)) rfl ?_ a_Sh_fillAs b_Sh_fillAs
  intro p e R s m args below meth c cells slots Q base ad dC dI cA n0 S hkn hR hf pc n f hcs
  refine sv_lk_all (P := fun pc (x : Nat × sv_F) => sv_cok p l e R s m args below meth c cells slots Q base ad dC dI cA true 2 n0 pc x.1 x.2) ?_ pc (n, f) hcs
  exact List.forall_mem_cons.mpr ⟨(sv_acopy S hkn (q := 13) (fun _ => rfl) ⟨Nat.le_trans (by decide) hR.1, Nat.le_trans (by decide) hR.2⟩ (sv_w4 tw_947 tw_562 tw_561 tw_68) (sv_dc3 d_Sh_fillAs (pc := 28) rfl rfl) h_ac13).V,
      fun _ h => absurd h List.not_mem_nil⟩
noncomputable def f_Sh_isMissing (a0 : Nat) (σ : sv_S) : Option (Int32 × sv_S) :=
  sv_if ((σ 12 a0 0) = (-1 : Int32))
    (sv_g ((1 : Int32) = 0 ∨ (1 : Int32) = 1) (some ((1 : Int32), σ)))
    (sv_g ((0 : Int32) = 0 ∨ (0 : Int32) = 1) (some ((0 : Int32), σ)))
noncomputable def n_Sh_isMissing : List sv_V → sv_S → Option (Int32 × sv_S)
  | [.inr (.inr (some (12, a0)))], σ => f_Sh_isMissing a0 σ
  | _, _ => none
def cd_Sh_isMissing : sv_C := [(0, (.aload_n 0, (sv_N, (1, (0, []))))), (1, (.getfield 9, (sv_N, (4, (0, []))))), (4, (.iconst (-1), (.inl (-1 : Int32), (5, (0, []))))), (5, (.if_icmp .ne 7, (sv_N, (8, (12, []))))), (8, (.iconst 1, (.inl (1 : Int32), (9, (0, []))))), (9, (.goto 4, (sv_N, (12, (13, []))))), (12, (.iconst 0, (.inl (0 : Int32), (13, (0, []))))), (13, (.ireturn, (sv_N, (14, (0, [])))))]
noncomputable def ev_Sh_isMissing : sv_E := (fun i => sv_lk i fl_6, (fun i => sv_lk i kc_6, (fun _ => 0, (true, (fun pc => sv_lk pc [], none)))))
noncomputable def kk_Sh_isMissing : sv_K (Int32 × sv_S) := fun pc => sv_lk pc []
set_option maxRecDepth 20000 in
theorem e_Sh_isMissing (a0 : Nat) (σ : sv_S) : sv_ex ev_Sh_isMissing sv_rZ kk_Sh_isMissing cd_Sh_isMissing 10 0 [some (.inr (.inr (some (12, a0))))] [] σ = f_Sh_isMissing a0 σ := by
  unfold f_Sh_isMissing
  delta ev_Sh_isMissing kk_Sh_isMissing
  rfl
theorem d_Sh_isMissing : cd_Sh_isMissing.all (sv_dk cX6_isMissing) = true := by decide +kernel
set_option maxRecDepth 20000 in
theorem b_Sh_isMissing (Γ : sv_Ga) (res : Int32 × sv_S) (X : sv_Ok Γ ev_Sh_isMissing cX6_isMissing sv_rZ res) (as : List sv_V) (σ : sv_S) (h : n_Sh_isMissing as σ = some res) : sv_T Γ 0 (sv_e0 1 as) [] σ := by
  unfold n_Sh_isMissing at h
  split at h
  · refine sv_run X d_Sh_isMissing (K := kk_Sh_isMissing) (sv_lk_all (P := fun pc (k : sv_Lo → List sv_V → sv_S → Option (Int32 × sv_S)) => ∀ lo st σ, k lo st σ = some res → sv_T Γ pc lo st σ) ?_) _ _ _ _ _ ((e_Sh_isMissing _ _).trans h)
    clear h
    exact fun _ h => absurd h List.not_mem_nil
  · cases h
theorem a_Sh_isMissing (as : List sv_V) (σ : sv_S) (x : Int32 × sv_S) (h : n_Sh_isMissing as σ = some x) : sv_args 1 ev_Sh_isMissing.2.2.2.1 as := by
  unfold n_Sh_isMissing at h
  split at h
  · exact ⟨Nat.le_of_ble_eq_true rfl, fun _ v hv => by
      simp only [List.mem_cons, List.not_mem_nil, or_false] at hv
      rcases hv with rfl <;> trivial⟩
  · cases h
theorem g_Sh_isMissing (as : List sv_V) (σ : sv_S) (x : Option sv_V × sv_S) (h : sv_gI n_Sh_isMissing as σ = some x) : ∃ r i as', as = sv_R r i :: as' ∧ sv_kd r i = .inl 6 := by
  obtain ⟨_, _, h, -⟩ := sv_b_some h
  unfold n_Sh_isMissing at h
  split at h
  · exact ⟨_, _, _, rfl, rfl⟩
  · cases h

set_option maxRecDepth 20000 in
theorem m_Sh_isMissing (l : Launch) : sv_M l yX6_isMissing cX6_isMissing 1 (some .boolean) (sv_gI n_Sh_isMissing) 0 := by
  refine sv_mZ (E := ev_Sh_isMissing) (by decide +kernel) (ln_gen fk_6 kk_6 (sv_ns _ (fun _ => rfl) _)) rfl ?_ a_Sh_isMissing b_Sh_isMissing
  intro p e R s m args below meth c cells slots Q base ad dC dI cA n0 S hkn hR hf pc n f hcs
  refine sv_lk_all (P := fun pc (x : Nat × sv_F) => sv_cok p l e R s m args below meth c cells slots Q base ad dC dI cA true 1 n0 pc x.1 x.2) ?_ pc (n, f) hcs
  exact fun _ h => absurd h List.not_mem_nil
noncomputable def f_Sh_hasPlace (a0 : Nat) (a1 : Int32) (σ : sv_S) : Option (Int32 × sv_S) :=
  sv_if (a1 < 0)
    (sv_g ((0 : Int32) = 0 ∨ (0 : Int32) = 1) (some ((0 : Int32), σ)))
    (sv_if ((σ 12 a0 1) ≤ a1)
      (sv_g ((0 : Int32) = 0 ∨ (0 : Int32) = 1) (some ((0 : Int32), σ)))
      (sv_g ((1 : Int32) = 0 ∨ (1 : Int32) = 1) (some ((1 : Int32), σ))))
noncomputable def n_Sh_hasPlace : List sv_V → sv_S → Option (Int32 × sv_S)
  | [.inr (.inr (some (12, a0))), .inl a1], σ => f_Sh_hasPlace a0 a1 σ
  | _, _ => none
def cd_Sh_hasPlace : sv_C := [(0, (.iload_n 1, (sv_N, (1, (0, []))))), (1, (.ifCond .lt 15, (sv_N, (4, (16, []))))), (4, (.iload_n 1, (sv_N, (5, (0, []))))), (5, (.aload_n 0, (sv_N, (6, (0, []))))), (6, (.getfield 19, (sv_N, (9, (0, []))))), (9, (.if_icmp .ge 7, (sv_N, (12, (16, []))))), (12, (.iconst 1, (.inl (1 : Int32), (13, (0, []))))), (13, (.goto 4, (sv_N, (16, (17, []))))), (16, (.iconst 0, (.inl (0 : Int32), (17, (0, []))))), (17, (.ireturn, (sv_N, (18, (0, [])))))]
noncomputable def ev_Sh_hasPlace : sv_E := (fun i => sv_lk i fl_6, (fun i => sv_lk i kc_6, (fun _ => 0, (true, (fun pc => sv_lk pc [], none)))))
noncomputable def kk_Sh_hasPlace : sv_K (Int32 × sv_S) := fun pc => sv_lk pc []
set_option maxRecDepth 20000 in
theorem e_Sh_hasPlace (a0 : Nat) (a1 : Int32) (σ : sv_S) : sv_ex ev_Sh_hasPlace sv_rZ kk_Sh_hasPlace cd_Sh_hasPlace 12 0 [some (.inr (.inr (some (12, a0)))), some (.inl a1)] [] σ = f_Sh_hasPlace a0 a1 σ := by
  unfold f_Sh_hasPlace
  delta ev_Sh_hasPlace kk_Sh_hasPlace
  rfl
theorem d_Sh_hasPlace : cd_Sh_hasPlace.all (sv_dk cX6_hasPlace) = true := by decide +kernel
set_option maxRecDepth 20000 in
theorem b_Sh_hasPlace (Γ : sv_Ga) (res : Int32 × sv_S) (X : sv_Ok Γ ev_Sh_hasPlace cX6_hasPlace sv_rZ res) (as : List sv_V) (σ : sv_S) (h : n_Sh_hasPlace as σ = some res) : sv_T Γ 0 (sv_e0 2 as) [] σ := by
  unfold n_Sh_hasPlace at h
  split at h
  · refine sv_run X d_Sh_hasPlace (K := kk_Sh_hasPlace) (sv_lk_all (P := fun pc (k : sv_Lo → List sv_V → sv_S → Option (Int32 × sv_S)) => ∀ lo st σ, k lo st σ = some res → sv_T Γ pc lo st σ) ?_) _ _ _ _ _ ((e_Sh_hasPlace _ _ _).trans h)
    clear h
    exact fun _ h => absurd h List.not_mem_nil
  · cases h
theorem a_Sh_hasPlace (as : List sv_V) (σ : sv_S) (x : Int32 × sv_S) (h : n_Sh_hasPlace as σ = some x) : sv_args 2 ev_Sh_hasPlace.2.2.2.1 as := by
  unfold n_Sh_hasPlace at h
  split at h
  · exact ⟨Nat.le_of_ble_eq_true rfl, fun _ v hv => by
      simp only [List.mem_cons, List.not_mem_nil, or_false] at hv
      rcases hv with rfl | rfl <;> trivial⟩
  · cases h
theorem g_Sh_hasPlace (as : List sv_V) (σ : sv_S) (x : Option sv_V × sv_S) (h : sv_gI n_Sh_hasPlace as σ = some x) : ∃ r i as', as = sv_R r i :: as' ∧ sv_kd r i = .inl 6 := by
  obtain ⟨_, _, h, -⟩ := sv_b_some h
  unfold n_Sh_hasPlace at h
  split at h
  · exact ⟨_, _, _, rfl, rfl⟩
  · cases h

set_option maxRecDepth 20000 in
theorem m_Sh_hasPlace (l : Launch) : sv_M l yX6_hasPlace cX6_hasPlace 2 (some .boolean) (sv_gI n_Sh_hasPlace) 0 := by
  refine sv_mZ (E := ev_Sh_hasPlace) (by decide +kernel) (ln_gen fk_6 kk_6 (sv_ns _ (fun _ => rfl) _)) rfl ?_ a_Sh_hasPlace b_Sh_hasPlace
  intro p e R s m args below meth c cells slots Q base ad dC dI cA n0 S hkn hR hf pc n f hcs
  refine sv_lk_all (P := fun pc (x : Nat × sv_F) => sv_cok p l e R s m args below meth c cells slots Q base ad dC dI cA true 2 n0 pc x.1 x.2) ?_ pc (n, f) hcs
  exact fun _ h => absurd h List.not_mem_nil
noncomputable def f_Sh_hasPlaces (a0 : Nat) (a1 : Int32) (a2 : Int32) (σ : sv_S) : Option (Int32 × sv_S) :=
  sv_if (a1 < 0)
    (sv_g ((0 : Int32) = 0 ∨ (0 : Int32) = 1) (some ((0 : Int32), σ)))
    (sv_if (a2 < 0)
      (sv_g ((0 : Int32) = 0 ∨ (0 : Int32) = 1) (some ((0 : Int32), σ)))
      (sv_if ((σ 12 a0 1) < a2)
        (sv_g ((0 : Int32) = 0 ∨ (0 : Int32) = 1) (some ((0 : Int32), σ)))
        (sv_if (((σ 12 a0 1) - a2) < a1)
          (sv_g ((0 : Int32) = 0 ∨ (0 : Int32) = 1) (some ((0 : Int32), σ)))
          (sv_g ((1 : Int32) = 0 ∨ (1 : Int32) = 1) (some ((1 : Int32), σ))))))
noncomputable def n_Sh_hasPlaces : List sv_V → sv_S → Option (Int32 × sv_S)
  | [.inr (.inr (some (12, a0))), .inl a1, .inl a2], σ => f_Sh_hasPlaces a0 a1 a2 σ
  | _, _ => none
def cd_Sh_hasPlaces : sv_C := [(0, (.iload_n 1, (sv_N, (1, (0, []))))), (1, (.ifCond .lt 29, (sv_N, (4, (30, []))))), (4, (.iload_n 2, (sv_N, (5, (0, []))))), (5, (.ifCond .lt 25, (sv_N, (8, (30, []))))), (8, (.iload_n 2, (sv_N, (9, (0, []))))), (9, (.aload_n 0, (sv_N, (10, (0, []))))), (10, (.getfield 19, (sv_N, (13, (0, []))))), (13, (.if_icmp .gt 17, (sv_N, (16, (30, []))))), (16, (.iload_n 1, (sv_N, (17, (0, []))))), (17, (.aload_n 0, (sv_N, (18, (0, []))))), (18, (.getfield 19, (sv_N, (21, (0, []))))), (21, (.iload_n 2, (sv_N, (22, (0, []))))), (22, (.isub, (sv_N, (23, (0, []))))), (23, (.if_icmp .gt 7, (sv_N, (26, (30, []))))), (26, (.iconst 1, (.inl (1 : Int32), (27, (0, []))))), (27, (.goto 4, (sv_N, (30, (31, []))))), (30, (.iconst 0, (.inl (0 : Int32), (31, (0, []))))), (31, (.ireturn, (sv_N, (32, (0, [])))))]
noncomputable def ev_Sh_hasPlaces : sv_E := (fun i => sv_lk i fl_6, (fun i => sv_lk i kc_6, (fun _ => 0, (true, (fun pc => sv_lk pc [], none)))))
noncomputable def kk_Sh_hasPlaces : sv_K (Int32 × sv_S) := fun pc => sv_lk pc []
set_option maxRecDepth 20000 in
theorem e_Sh_hasPlaces (a0 : Nat) (a1 : Int32) (a2 : Int32) (σ : sv_S) : sv_ex ev_Sh_hasPlaces sv_rZ kk_Sh_hasPlaces cd_Sh_hasPlaces 20 0 [some (.inr (.inr (some (12, a0)))), some (.inl a1), some (.inl a2)] [] σ = f_Sh_hasPlaces a0 a1 a2 σ := by
  unfold f_Sh_hasPlaces
  delta ev_Sh_hasPlaces kk_Sh_hasPlaces
  rfl
theorem d_Sh_hasPlaces : cd_Sh_hasPlaces.all (sv_dk cX6_hasPlaces) = true := by decide +kernel
set_option maxRecDepth 20000 in
theorem b_Sh_hasPlaces (Γ : sv_Ga) (res : Int32 × sv_S) (X : sv_Ok Γ ev_Sh_hasPlaces cX6_hasPlaces sv_rZ res) (as : List sv_V) (σ : sv_S) (h : n_Sh_hasPlaces as σ = some res) : sv_T Γ 0 (sv_e0 3 as) [] σ := by
  unfold n_Sh_hasPlaces at h
  split at h
  · refine sv_run X d_Sh_hasPlaces (K := kk_Sh_hasPlaces) (sv_lk_all (P := fun pc (k : sv_Lo → List sv_V → sv_S → Option (Int32 × sv_S)) => ∀ lo st σ, k lo st σ = some res → sv_T Γ pc lo st σ) ?_) _ _ _ _ _ ((e_Sh_hasPlaces _ _ _ _).trans h)
    clear h
    exact fun _ h => absurd h List.not_mem_nil
  · cases h
theorem a_Sh_hasPlaces (as : List sv_V) (σ : sv_S) (x : Int32 × sv_S) (h : n_Sh_hasPlaces as σ = some x) : sv_args 3 ev_Sh_hasPlaces.2.2.2.1 as := by
  unfold n_Sh_hasPlaces at h
  split at h
  · exact ⟨Nat.le_of_ble_eq_true rfl, fun _ v hv => by
      simp only [List.mem_cons, List.not_mem_nil, or_false] at hv
      rcases hv with rfl | rfl | rfl <;> trivial⟩
  · cases h
theorem g_Sh_hasPlaces (as : List sv_V) (σ : sv_S) (x : Option sv_V × sv_S) (h : sv_gI n_Sh_hasPlaces as σ = some x) : ∃ r i as', as = sv_R r i :: as' ∧ sv_kd r i = .inl 6 := by
  obtain ⟨_, _, h, -⟩ := sv_b_some h
  unfold n_Sh_hasPlaces at h
  split at h
  · exact ⟨_, _, _, rfl, rfl⟩
  · cases h

set_option maxRecDepth 20000 in
theorem m_Sh_hasPlaces (l : Launch) : sv_M l yX6_hasPlaces cX6_hasPlaces 3 (some .boolean) (sv_gI n_Sh_hasPlaces) 0 := by
  refine sv_mZ (E := ev_Sh_hasPlaces) (by decide +kernel) (ln_gen fk_6 kk_6 (sv_ns _ (fun _ => rfl) _)) rfl ?_ a_Sh_hasPlaces b_Sh_hasPlaces
  intro p e R s m args below meth c cells slots Q base ad dC dI cA n0 S hkn hR hf pc n f hcs
  refine sv_lk_all (P := fun pc (x : Nat × sv_F) => sv_cok p l e R s m args below meth c cells slots Q base ad dC dI cA true 3 n0 pc x.1 x.2) ?_ pc (n, f) hcs
  exact fun _ h => absurd h List.not_mem_nil
noncomputable def f_Sh_hasNumber (a0 : Nat) (a1 : Int32) (σ : sv_S) : Option (Int32 × sv_S) :=
  sv_b (f_Sh_hasPlace a0 a1 σ) (fun v1 σ2 =>
    sv_if (v1 = 0)
      (sv_g ((0 : Int32) = 0 ∨ (0 : Int32) = 1) (some ((0 : Int32), σ2)))
      (sv_g (sv_in a1 24) (sv_if ((σ2 13 a0 (a1.toNatClampNeg)) = (-1000000005 : Int32))
        (sv_g ((0 : Int32) = 0 ∨ (0 : Int32) = 1) (some ((0 : Int32), σ2)))
        (sv_g ((1 : Int32) = 0 ∨ (1 : Int32) = 1) (some ((1 : Int32), σ2))))))
noncomputable def n_Sh_hasNumber : List sv_V → sv_S → Option (Int32 × sv_S)
  | [.inr (.inr (some (12, a0))), .inl a1], σ => f_Sh_hasNumber a0 a1 σ
  | _, _ => none
def cd_Sh_hasNumber : sv_C := [(0, (.aload_n 0, (sv_N, (1, (0, []))))), (1, (.iload_n 1, (sv_N, (2, (0, []))))), (2, (.invokevirtual 34, (sv_N, (5, (0, []))))), (5, (.ifCond .eq 18, (sv_N, (8, (23, []))))), (8, (.aload_n 0, (sv_N, (9, (0, []))))), (9, (.getfield 15, (sv_N, (12, (0, []))))), (12, (.iload_n 1, (sv_N, (13, (0, []))))), (13, (.iaload, (sv_N, (14, (0, []))))), (14, (.ldc 38, (sv_N, (16, (0, []))))), (16, (.if_icmp .eq 7, (sv_N, (19, (23, []))))), (19, (.iconst 1, (.inl (1 : Int32), (20, (0, []))))), (20, (.goto 4, (sv_N, (23, (24, []))))), (23, (.iconst 0, (.inl (0 : Int32), (24, (0, []))))), (24, (.ireturn, (sv_N, (25, (0, [])))))]
noncomputable def ev_Sh_hasNumber : sv_E := (fun i => sv_lk i fl_6, (fun i => sv_lk i kc_6, (fun _ => 0, (true, (fun pc => sv_lk pc [(2, (2, .inl n_Sh_hasPlace))], none)))))
noncomputable def kk_Sh_hasNumber : sv_K (Int32 × sv_S) := fun pc => sv_lk pc []
set_option maxRecDepth 20000 in
theorem e_Sh_hasNumber (a0 : Nat) (a1 : Int32) (σ : sv_S) : sv_ex ev_Sh_hasNumber sv_rZ kk_Sh_hasNumber cd_Sh_hasNumber 16 0 [some (.inr (.inr (some (12, a0)))), some (.inl a1)] [] σ = f_Sh_hasNumber a0 a1 σ := by
  unfold f_Sh_hasNumber
  delta ev_Sh_hasNumber kk_Sh_hasNumber n_Sh_hasPlace
  generalize f_Sh_hasPlace = c0
  rfl
theorem d_Sh_hasNumber : cd_Sh_hasNumber.all (sv_dk cX6_hasNumber) = true := by decide +kernel
set_option maxRecDepth 20000 in
theorem b_Sh_hasNumber (Γ : sv_Ga) (res : Int32 × sv_S) (X : sv_Ok Γ ev_Sh_hasNumber cX6_hasNumber sv_rZ res) (as : List sv_V) (σ : sv_S) (h : n_Sh_hasNumber as σ = some res) : sv_T Γ 0 (sv_e0 2 as) [] σ := by
  unfold n_Sh_hasNumber at h
  split at h
  · refine sv_run X d_Sh_hasNumber (K := kk_Sh_hasNumber) (sv_lk_all (P := fun pc (k : sv_Lo → List sv_V → sv_S → Option (Int32 × sv_S)) => ∀ lo st σ, k lo st σ = some res → sv_T Γ pc lo st σ) ?_) _ _ _ _ _ ((e_Sh_hasNumber _ _ _).trans h)
    clear h
    exact fun _ h => absurd h List.not_mem_nil
  · cases h
theorem a_Sh_hasNumber (as : List sv_V) (σ : sv_S) (x : Int32 × sv_S) (h : n_Sh_hasNumber as σ = some x) : sv_args 2 ev_Sh_hasNumber.2.2.2.1 as := by
  unfold n_Sh_hasNumber at h
  split at h
  · exact ⟨Nat.le_of_ble_eq_true rfl, fun _ v hv => by
      simp only [List.mem_cons, List.not_mem_nil, or_false] at hv
      rcases hv with rfl | rfl <;> trivial⟩
  · cases h
theorem g_Sh_hasNumber (as : List sv_V) (σ : sv_S) (x : Option sv_V × sv_S) (h : sv_gI n_Sh_hasNumber as σ = some x) : ∃ r i as', as = sv_R r i :: as' ∧ sv_kd r i = .inl 6 := by
  obtain ⟨_, _, h, -⟩ := sv_b_some h
  unfold n_Sh_hasNumber at h
  split at h
  · exact ⟨_, _, _, rfl, rfl⟩
  · cases h
theorem tw_64 : Cond.initialized RX6 ∈ gw_tbl := gw_at 64 (by decide +kernel) rfl
theorem tw_643 : Cond.methodLink RX6 34 yX6_hasPlace ∈ gw_tbl := gw_at 643 (by decide +kernel) rfl
theorem tw_644 : Cond.instanceMethod yX6_hasPlace ∈ gw_tbl := gw_at 644 (by decide +kernel) rfl
theorem tw_645 : Cond.selects RX6 yX6_hasPlace yX6_hasPlace ∈ gw_tbl := gw_at 645 (by decide +kernel) rfl
theorem tw_646 : Cond.code yX6_hasPlace cX6_hasPlace 2 (some .boolean) ∈ gw_tbl := gw_at 646 (by decide +kernel) rfl
set_option maxRecDepth 20000 in
theorem m_Sh_hasNumber (l : Launch) : sv_M l yX6_hasNumber cX6_hasNumber 2 (some .boolean) (sv_gI n_Sh_hasNumber) 1 := by
  refine sv_mZ (E := ev_Sh_hasNumber) (by decide +kernel) (ln_gen fk_6 kk_6 (sv_ns _ (fun _ => rfl) _)) rfl ?_ a_Sh_hasNumber b_Sh_hasNumber
  intro p e R s m args below meth c cells slots Q base ad dC dI cA n0 S hkn hR hf pc n f hcs
  refine sv_lk_all (P := fun pc (x : Nat × sv_F) => sv_cok p l e R s m args below meth c cells slots Q base ad dC dI cA true 2 n0 pc x.1 x.2) ?_ pc (n, f) hcs
  exact List.forall_mem_cons.mpr ⟨(sv_cV S hkn (m_Sh_hasPlace l) ⟨Nat.le_trans (by decide) hR.1, Nat.le_trans (by decide) hR.2⟩ (by decide) hf rfl (g_Sh_hasPlace) (sv_w5 tw_643 tw_644 tw_645 tw_64 tw_646) (by decide +kernel) (sv_dc3 d_Sh_hasNumber (pc := 2) rfl rfl)).I,
      fun _ h => absurd h List.not_mem_nil⟩
noncomputable def f_Ta_takeIn_3 : Nat → Int32 → Int32 → sv_S → Option (sv_S)
  | 0, _, _, _ => none
  | n + 1, x1, x2, σ =>
    sv_if (x2 < 0)
      (some σ)
      (sv_if ((96 : Int32) ≤ (σ 8 0 1))
        (some σ)
        (sv_g (sv_in (σ 8 0 1) 96) (let σ1 := sv_up (sv_up σ 9 0 ((σ 8 0 1).toNatClampNeg) (((x1 >>> (x2 &&& 31)).toInt8.toInt32).toInt8.toInt32)) 8 0 1 (((sv_up σ 9 0 ((σ 8 0 1).toNatClampNeg) (((x1 >>> (x2 &&& 31)).toInt8.toInt32).toInt8.toInt32)) 8 0 1) + (1 : Int32))
        f_Ta_takeIn_3 n x1 (x2 + (-8 : Int32)) σ1)))
noncomputable def f_Ta_takeIn (a1 : Int32) (σ : sv_S) : Option (sv_S) :=
  f_Ta_takeIn_3 sv_fu a1 (24 : Int32) σ
noncomputable def n_Ta_takeIn : List sv_V → sv_S → Option (sv_S)
  | [.inr (.inr (some (8, 0))), .inl a1], σ => f_Ta_takeIn a1 σ
  | _, _ => none
def cd_Ta_takeIn : sv_C := [(0, (.bipush 24, (.inl (24 : Int32), (2, (0, []))))), (2, (.istore_n 2, (sv_N, (3, (0, []))))), (3, (.iload_n 2, (sv_N, (4, (0, []))))), (4, (.ifCond .lt 41, (sv_N, (7, (45, []))))), (7, (.aload_n 0, (sv_N, (8, (0, []))))), (8, (.getfield 19, (sv_N, (11, (0, []))))), (11, (.bipush 96, (.inl (96 : Int32), (13, (0, []))))), (13, (.if_icmp .ge 32, (sv_N, (16, (45, []))))), (16, (.aload_n 0, (sv_N, (17, (0, []))))), (17, (.getfield 9, (sv_N, (20, (0, []))))), (20, (.aload_n 0, (sv_N, (21, (0, []))))), (21, (.getfield 19, (sv_N, (24, (0, []))))), (24, (.iload_n 1, (sv_N, (25, (0, []))))), (25, (.iload_n 2, (sv_N, (26, (0, []))))), (26, (.ishr, (sv_N, (27, (0, []))))), (27, (.i2b, (sv_N, (28, (0, []))))), (28, (.bastore, (sv_N, (29, (0, []))))), (29, (.aload_n 0, (sv_N, (30, (0, []))))), (30, (.dup, (sv_N, (31, (0, []))))), (31, (.getfield 19, (sv_N, (34, (0, []))))), (34, (.iconst 1, (.inl (1 : Int32), (35, (0, []))))), (35, (.iadd, (sv_N, (36, (0, []))))), (36, (.putfield 19, (sv_N, (39, (0, []))))), (39, (.iinc 2 (-8), (.inl (-8 : Int32), (42, (0, []))))), (42, (.goto (-39), (sv_N, (45, (3, []))))), (45, (.return_, (sv_N, (46, (0, [])))))]
noncomputable def ev_Ta_takeIn : sv_E := (fun i => sv_lk i fl_8, (fun i => sv_lk i kc_8, (fun _ => 0, (true, (fun pc => sv_lk pc [], none)))))
noncomputable def kk_Ta_takeIn_3 (n : Nat) : sv_K (sv_S) := fun pc => sv_lk pc [(3, fun lo st σ => match lo, st with
    | [some (.inr (.inr (some (8, 0)))), some (.inl x1), some (.inl x2)], [] => f_Ta_takeIn_3 n x1 x2 σ
    | _, _ => none)]
set_option maxRecDepth 20000 in
theorem e_Ta_takeIn_3 (n : Nat) (x1 : Int32) (x2 : Int32) (σ : sv_S) : sv_ex ev_Ta_takeIn sv_rV (kk_Ta_takeIn_3 n) cd_Ta_takeIn 28 3 [some (.inr (.inr (some (8, 0)))), some (.inl x1), some (.inl x2)] [] σ = f_Ta_takeIn_3 (n + 1) x1 x2 σ := by
  rw [f_Ta_takeIn_3.eq_2]
  delta ev_Ta_takeIn kk_Ta_takeIn_3
  generalize f_Ta_takeIn_3 = c0
  rfl
noncomputable def kk_Ta_takeIn : sv_K (sv_S) := fun pc => sv_lk pc [(3, fun lo st σ => match lo, st with
    | [some (.inr (.inr (some (8, 0)))), some (.inl x1), some (.inl x2)], [] => f_Ta_takeIn_3 sv_fu x1 x2 σ
    | _, _ => none)]
set_option maxRecDepth 20000 in
theorem e_Ta_takeIn (a1 : Int32) (σ : sv_S) : sv_ex ev_Ta_takeIn sv_rV kk_Ta_takeIn cd_Ta_takeIn 28 0 [some (.inr (.inr (some (8, 0)))), some (.inl a1), none] [] σ = f_Ta_takeIn a1 σ := by
  unfold f_Ta_takeIn
  delta ev_Ta_takeIn kk_Ta_takeIn
  generalize f_Ta_takeIn_3 = c0
  rfl
theorem d_Ta_takeIn : cd_Ta_takeIn.all (sv_dk cX8_takeIn) = true := by decide +kernel
set_option maxRecDepth 20000 in
theorem w_Ta_takeIn_3 {Γ : sv_Ga} {res : sv_S} (X : sv_Ok Γ ev_Ta_takeIn cX8_takeIn sv_rV res) : ∀ (n : Nat) (x1 : Int32) (x2 : Int32) (σ : sv_S), f_Ta_takeIn_3 n x1 x2 σ = some res → sv_T Γ 3 [some (.inr (.inr (some (8, 0)))), some (.inl x1), some (.inl x2)] [] σ := by
  intro n
  induction n with
  | zero =>
    intro x1 x2 σ h
    rw [f_Ta_takeIn_3.eq_1] at h
    cases h
  | succ n ih =>
    intro x1 x2 σ h
    refine sv_run X d_Ta_takeIn (K := kk_Ta_takeIn_3 n) (sv_lk_all (P := fun pc (k : sv_Lo → List sv_V → sv_S → Option (sv_S)) => ∀ lo st σ, k lo st σ = some res → sv_T Γ pc lo st σ) ?_) _ _ _ _ _ ((e_Ta_takeIn_3 n x1 x2 σ).trans h)
    clear h
    refine List.forall_mem_cons.mpr ⟨fun lo st σ h => ?_, fun _ h => absurd h List.not_mem_nil⟩
    · dsimp only at h
      split at h
      · exact ih _ _ _ h
      · cases h

set_option maxRecDepth 20000 in
theorem b_Ta_takeIn (Γ : sv_Ga) (res : sv_S) (X : sv_Ok Γ ev_Ta_takeIn cX8_takeIn sv_rV res) (as : List sv_V) (σ : sv_S) (h : n_Ta_takeIn as σ = some res) : sv_T Γ 0 (sv_e0 3 as) [] σ := by
  unfold n_Ta_takeIn at h
  split at h
  · refine sv_run X d_Ta_takeIn (K := kk_Ta_takeIn) (sv_lk_all (P := fun pc (k : sv_Lo → List sv_V → sv_S → Option (sv_S)) => ∀ lo st σ, k lo st σ = some res → sv_T Γ pc lo st σ) ?_) _ _ _ _ _ ((e_Ta_takeIn _ _).trans h)
    clear h
    refine List.forall_mem_cons.mpr ⟨fun lo st σ h => ?_, fun _ h => absurd h List.not_mem_nil⟩
    · dsimp only at h
      split at h
      · exact w_Ta_takeIn_3 X _ _ _ _ h
      · cases h
  · cases h
theorem a_Ta_takeIn (as : List sv_V) (σ : sv_S) (x : sv_S) (h : n_Ta_takeIn as σ = some x) : sv_args 3 ev_Ta_takeIn.2.2.2.1 as := by
  unfold n_Ta_takeIn at h
  split at h
  · exact ⟨Nat.le_of_ble_eq_true rfl, fun _ v hv => by
      simp only [List.mem_cons, List.not_mem_nil, or_false] at hv
      rcases hv with rfl | rfl <;> trivial⟩
  · cases h
theorem g_Ta_takeIn (as : List sv_V) (σ : sv_S) (x : Option sv_V × sv_S) (h : sv_gV n_Ta_takeIn as σ = some x) : ∃ r i as', as = sv_R r i :: as' ∧ sv_kd r i = .inl 8 := by
  obtain ⟨_, h, -⟩ := sv_b0_some h
  unfold n_Ta_takeIn at h
  split at h
  · exact ⟨_, _, _, rfl, rfl⟩
  · cases h

set_option maxRecDepth 20000 in
theorem m_Ta_takeIn (l : Launch) : sv_M l yX8_takeIn cX8_takeIn 3 none (sv_gV n_Ta_takeIn) 0 := by
  refine sv_mV (E := ev_Ta_takeIn) (by decide +kernel) (ln_gen fk_8 kk_8 (sv_ns _ (fun _ => rfl) _)) rfl ?_ a_Ta_takeIn b_Ta_takeIn
  intro p e R s m args below meth c cells slots Q base ad dC dI cA n0 S hkn hR hf pc n f hcs
  refine sv_lk_all (P := fun pc (x : Nat × sv_F) => sv_cok p l e R s m args below meth c cells slots Q base ad dC dI cA true 3 n0 pc x.1 x.2) ?_ pc (n, f) hcs
  exact fun _ h => absurd h List.not_mem_nil
noncomputable def f_Ta_byteAt (a1 : Int32) (σ : sv_S) : Option (Int32 × sv_S) :=
  sv_if (a1 < 0)
    (some ((0 : Int32), σ))
    (sv_if ((σ 8 0 1) ≤ a1)
      (some ((0 : Int32), σ))
      (sv_g (sv_in a1 96) (some ((σ 9 0 (a1.toNatClampNeg)) &&& (255 : Int32), σ))))
noncomputable def n_Ta_byteAt : List sv_V → sv_S → Option (Int32 × sv_S)
  | [.inr (.inr (some (8, 0))), .inl a1], σ => f_Ta_byteAt a1 σ
  | _, _ => none
def cd_Ta_byteAt : sv_C := [(0, (.iload_n 1, (sv_N, (1, (0, []))))), (1, (.ifCond .lt 24, (sv_N, (4, (25, []))))), (4, (.iload_n 1, (sv_N, (5, (0, []))))), (5, (.aload_n 0, (sv_N, (6, (0, []))))), (6, (.getfield 19, (sv_N, (9, (0, []))))), (9, (.if_icmp .ge 16, (sv_N, (12, (25, []))))), (12, (.aload_n 0, (sv_N, (13, (0, []))))), (13, (.getfield 9, (sv_N, (16, (0, []))))), (16, (.iload_n 1, (sv_N, (17, (0, []))))), (17, (.baload, (sv_N, (18, (0, []))))), (18, (.sipush 255, (.inl (255 : Int32), (21, (0, []))))), (21, (.iand, (sv_N, (22, (0, []))))), (22, (.goto 4, (sv_N, (25, (26, []))))), (25, (.iconst 0, (.inl (0 : Int32), (26, (0, []))))), (26, (.ireturn, (sv_N, (27, (0, [])))))]
noncomputable def ev_Ta_byteAt : sv_E := (fun i => sv_lk i fl_8, (fun i => sv_lk i kc_8, (fun _ => 0, (true, (fun pc => sv_lk pc [], none)))))
noncomputable def kk_Ta_byteAt : sv_K (Int32 × sv_S) := fun pc => sv_lk pc []
set_option maxRecDepth 20000 in
theorem e_Ta_byteAt (a1 : Int32) (σ : sv_S) : sv_ex ev_Ta_byteAt sv_rI kk_Ta_byteAt cd_Ta_byteAt 17 0 [some (.inr (.inr (some (8, 0)))), some (.inl a1)] [] σ = f_Ta_byteAt a1 σ := by
  unfold f_Ta_byteAt
  delta ev_Ta_byteAt kk_Ta_byteAt
  rfl
theorem d_Ta_byteAt : cd_Ta_byteAt.all (sv_dk cX8_byteAt) = true := by decide +kernel
set_option maxRecDepth 20000 in
theorem b_Ta_byteAt (Γ : sv_Ga) (res : Int32 × sv_S) (X : sv_Ok Γ ev_Ta_byteAt cX8_byteAt sv_rI res) (as : List sv_V) (σ : sv_S) (h : n_Ta_byteAt as σ = some res) : sv_T Γ 0 (sv_e0 2 as) [] σ := by
  unfold n_Ta_byteAt at h
  split at h
  · refine sv_run X d_Ta_byteAt (K := kk_Ta_byteAt) (sv_lk_all (P := fun pc (k : sv_Lo → List sv_V → sv_S → Option (Int32 × sv_S)) => ∀ lo st σ, k lo st σ = some res → sv_T Γ pc lo st σ) ?_) _ _ _ _ _ ((e_Ta_byteAt _ _).trans h)
    clear h
    exact fun _ h => absurd h List.not_mem_nil
  · cases h
theorem a_Ta_byteAt (as : List sv_V) (σ : sv_S) (x : Int32 × sv_S) (h : n_Ta_byteAt as σ = some x) : sv_args 2 ev_Ta_byteAt.2.2.2.1 as := by
  unfold n_Ta_byteAt at h
  split at h
  · exact ⟨Nat.le_of_ble_eq_true rfl, fun _ v hv => by
      simp only [List.mem_cons, List.not_mem_nil, or_false] at hv
      rcases hv with rfl | rfl <;> trivial⟩
  · cases h
theorem g_Ta_byteAt (as : List sv_V) (σ : sv_S) (x : Option sv_V × sv_S) (h : sv_gI n_Ta_byteAt as σ = some x) : ∃ r i as', as = sv_R r i :: as' ∧ sv_kd r i = .inl 8 := by
  obtain ⟨_, _, h, -⟩ := sv_b_some h
  unfold n_Ta_byteAt at h
  split at h
  · exact ⟨_, _, _, rfl, rfl⟩
  · cases h

set_option maxRecDepth 20000 in
theorem m_Ta_byteAt (l : Launch) : sv_M l yX8_byteAt cX8_byteAt 2 (some .int) (sv_gI n_Ta_byteAt) 0 := by
  refine sv_mI (E := ev_Ta_byteAt) (by decide +kernel) (ln_gen fk_8 kk_8 (sv_ns _ (fun _ => rfl) _)) rfl ?_ a_Ta_byteAt b_Ta_byteAt
  intro p e R s m args below meth c cells slots Q base ad dC dI cA n0 S hkn hR hf pc n f hcs
  refine sv_lk_all (P := fun pc (x : Nat × sv_F) => sv_cok p l e R s m args below meth c cells slots Q base ad dC dI cA true 2 n0 pc x.1 x.2) ?_ pc (n, f) hcs
  exact fun _ h => absurd h List.not_mem_nil
noncomputable def f_Ta_isTheWord_20 : Nat → Nat → Int32 → sv_S → Option (Int32 × sv_S)
  | 0, _, _, _ => none
  | n + 1, x1, x2, σ =>
    sv_b (f_Js_length x1 σ) (fun v1 σ2 =>
      sv_if (v1 ≤ x2)
        (sv_g ((1 : Int32) = 0 ∨ (1 : Int32) = 1) (some ((1 : Int32), σ2)))
        (sv_b (f_Ta_byteAt ((σ2 8 0 2) + x2) σ2) (fun v3 σ4 =>
          sv_b (f_Js_charAt x1 x2 σ4) (fun v5 σ6 =>
            sv_if (v3 = v5)
              (f_Ta_isTheWord_20 n x1 (x2 + (1 : Int32)) σ6)
              (sv_g ((0 : Int32) = 0 ∨ (0 : Int32) = 1) (some ((0 : Int32), σ6)))))))
noncomputable def f_Ta_isTheWord (a1 : Nat) (σ : sv_S) : Option (Int32 × sv_S) :=
  sv_b (f_Js_length a1 σ) (fun v1 σ2 =>
    sv_if (((σ 8 0 3) - (σ 8 0 2)) = v1)
      (f_Ta_isTheWord_20 sv_fu a1 (0 : Int32) σ2)
      (sv_g ((0 : Int32) = 0 ∨ (0 : Int32) = 1) (some ((0 : Int32), σ2))))
noncomputable def n_Ta_isTheWord : List sv_V → sv_S → Option (Int32 × sv_S)
  | [.inr (.inr (some (8, 0))), .inr (.inr (some (23, a1)))], σ => f_Ta_isTheWord a1 σ
  | _, _ => none
def cd_Ta_isTheWord : sv_C := [(0, (.aload_n 0, (sv_N, (1, (0, []))))), (1, (.getfield 43, (sv_N, (4, (0, []))))), (4, (.aload_n 0, (sv_N, (5, (0, []))))), (5, (.getfield 68, (sv_N, (8, (0, []))))), (8, (.isub, (sv_N, (9, (0, []))))), (9, (.aload_n 1, (sv_N, (10, (0, []))))), (10, (.invokevirtual 71, (sv_N, (13, (0, []))))), (13, (.if_icmp .eq 5, (sv_N, (16, (18, []))))), (16, (.iconst 0, (.inl (0 : Int32), (17, (0, []))))), (17, (.ireturn, (sv_N, (18, (0, []))))), (18, (.iconst 0, (.inl (0 : Int32), (19, (0, []))))), (19, (.istore_n 2, (sv_N, (20, (0, []))))), (20, (.iload_n 2, (sv_N, (21, (0, []))))), (21, (.aload_n 1, (sv_N, (22, (0, []))))), (22, (.invokevirtual 71, (sv_N, (25, (0, []))))), (25, (.if_icmp .ge 29, (sv_N, (28, (54, []))))), (28, (.aload_n 0, (sv_N, (29, (0, []))))), (29, (.aload_n 0, (sv_N, (30, (0, []))))), (30, (.getfield 68, (sv_N, (33, (0, []))))), (33, (.iload_n 2, (sv_N, (34, (0, []))))), (34, (.iadd, (sv_N, (35, (0, []))))), (35, (.invokevirtual 76, (sv_N, (38, (0, []))))), (38, (.aload_n 1, (sv_N, (39, (0, []))))), (39, (.iload_n 2, (sv_N, (40, (0, []))))), (40, (.invokevirtual 80, (sv_N, (43, (0, []))))), (43, (.if_icmp .eq 5, (sv_N, (46, (48, []))))), (46, (.iconst 0, (.inl (0 : Int32), (47, (0, []))))), (47, (.ireturn, (sv_N, (48, (0, []))))), (48, (.iinc 2 1, (.inl (1 : Int32), (51, (0, []))))), (51, (.goto (-31), (sv_N, (54, (20, []))))), (54, (.iconst 1, (.inl (1 : Int32), (55, (0, []))))), (55, (.ireturn, (sv_N, (56, (0, [])))))]
noncomputable def ev_Ta_isTheWord : sv_E := (fun i => sv_lk i fl_8, (fun i => sv_lk i kc_8, (fun _ => 0, (true, (fun pc => sv_lk pc [(10, (1, .inl n_Js_length)), (22, (1, .inl n_Js_length)), (35, (2, .inl n_Ta_byteAt)), (40, (2, .inl n_Js_charAt))], none)))))
noncomputable def kk_Ta_isTheWord_20 (n : Nat) : sv_K (Int32 × sv_S) := fun pc => sv_lk pc [(20, fun lo st σ => match lo, st with
    | [some (.inr (.inr (some (8, 0)))), some (.inr (.inr (some (23, x1)))), some (.inl x2)], [] => f_Ta_isTheWord_20 n x1 x2 σ
    | _, _ => none)]
set_option maxRecDepth 20000 in
theorem e_Ta_isTheWord_20 (n : Nat) (x1 : Nat) (x2 : Int32) (σ : sv_S) : sv_ex ev_Ta_isTheWord sv_rZ (kk_Ta_isTheWord_20 n) cd_Ta_isTheWord 34 20 [some (.inr (.inr (some (8, 0)))), some (.inr (.inr (some (23, x1)))), some (.inl x2)] [] σ = f_Ta_isTheWord_20 (n + 1) x1 x2 σ := by
  rw [f_Ta_isTheWord_20.eq_2]
  delta ev_Ta_isTheWord kk_Ta_isTheWord_20 n_Js_length n_Ta_byteAt n_Js_charAt
  generalize f_Js_length = c0
  generalize f_Ta_byteAt = c1
  generalize f_Js_charAt = c2
  generalize f_Ta_isTheWord_20 = c3
  rfl
noncomputable def kk_Ta_isTheWord : sv_K (Int32 × sv_S) := fun pc => sv_lk pc [(20, fun lo st σ => match lo, st with
    | [some (.inr (.inr (some (8, 0)))), some (.inr (.inr (some (23, x1)))), some (.inl x2)], [] => f_Ta_isTheWord_20 sv_fu x1 x2 σ
    | _, _ => none)]
set_option maxRecDepth 20000 in
theorem e_Ta_isTheWord (a1 : Nat) (σ : sv_S) : sv_ex ev_Ta_isTheWord sv_rZ kk_Ta_isTheWord cd_Ta_isTheWord 34 0 [some (.inr (.inr (some (8, 0)))), some (.inr (.inr (some (23, a1)))), none] [] σ = f_Ta_isTheWord a1 σ := by
  unfold f_Ta_isTheWord
  delta ev_Ta_isTheWord kk_Ta_isTheWord n_Js_length n_Ta_byteAt n_Js_charAt
  generalize f_Js_length = c0
  generalize f_Ta_byteAt = c1
  generalize f_Js_charAt = c2
  generalize f_Ta_isTheWord_20 = c3
  rfl
theorem d_Ta_isTheWord : cd_Ta_isTheWord.all (sv_dk cX8_isTheWord) = true := by decide +kernel
set_option maxRecDepth 20000 in
theorem w_Ta_isTheWord_20 {Γ : sv_Ga} {res : Int32 × sv_S} (X : sv_Ok Γ ev_Ta_isTheWord cX8_isTheWord sv_rZ res) : ∀ (n : Nat) (x1 : Nat) (x2 : Int32) (σ : sv_S), f_Ta_isTheWord_20 n x1 x2 σ = some res → sv_T Γ 20 [some (.inr (.inr (some (8, 0)))), some (.inr (.inr (some (23, x1)))), some (.inl x2)] [] σ := by
  intro n
  induction n with
  | zero =>
    intro x1 x2 σ h
    rw [f_Ta_isTheWord_20.eq_1] at h
    cases h
  | succ n ih =>
    intro x1 x2 σ h
    refine sv_run X d_Ta_isTheWord (K := kk_Ta_isTheWord_20 n) (sv_lk_all (P := fun pc (k : sv_Lo → List sv_V → sv_S → Option (Int32 × sv_S)) => ∀ lo st σ, k lo st σ = some res → sv_T Γ pc lo st σ) ?_) _ _ _ _ _ ((e_Ta_isTheWord_20 n x1 x2 σ).trans h)
    clear h
    refine List.forall_mem_cons.mpr ⟨fun lo st σ h => ?_, fun _ h => absurd h List.not_mem_nil⟩
    · dsimp only at h
      split at h
      · exact ih _ _ _ h
      · cases h

set_option maxRecDepth 20000 in
theorem b_Ta_isTheWord (Γ : sv_Ga) (res : Int32 × sv_S) (X : sv_Ok Γ ev_Ta_isTheWord cX8_isTheWord sv_rZ res) (as : List sv_V) (σ : sv_S) (h : n_Ta_isTheWord as σ = some res) : sv_T Γ 0 (sv_e0 3 as) [] σ := by
  unfold n_Ta_isTheWord at h
  split at h
  · refine sv_run X d_Ta_isTheWord (K := kk_Ta_isTheWord) (sv_lk_all (P := fun pc (k : sv_Lo → List sv_V → sv_S → Option (Int32 × sv_S)) => ∀ lo st σ, k lo st σ = some res → sv_T Γ pc lo st σ) ?_) _ _ _ _ _ ((e_Ta_isTheWord _ _).trans h)
    clear h
    refine List.forall_mem_cons.mpr ⟨fun lo st σ h => ?_, fun _ h => absurd h List.not_mem_nil⟩
    · dsimp only at h
      split at h
      · exact w_Ta_isTheWord_20 X _ _ _ _ h
      · cases h
  · cases h
theorem a_Ta_isTheWord (as : List sv_V) (σ : sv_S) (x : Int32 × sv_S) (h : n_Ta_isTheWord as σ = some x) : sv_args 3 ev_Ta_isTheWord.2.2.2.1 as := by
  unfold n_Ta_isTheWord at h
  split at h
  · exact ⟨Nat.le_of_ble_eq_true rfl, fun _ v hv => by
      simp only [List.mem_cons, List.not_mem_nil, or_false] at hv
      rcases hv with rfl | rfl <;> trivial⟩
  · cases h
theorem g_Ta_isTheWord (as : List sv_V) (σ : sv_S) (x : Option sv_V × sv_S) (h : sv_gI n_Ta_isTheWord as σ = some x) : ∃ r i as', as = sv_R r i :: as' ∧ sv_kd r i = .inl 8 := by
  obtain ⟨_, _, h, -⟩ := sv_b_some h
  unfold n_Ta_isTheWord at h
  split at h
  · exact ⟨_, _, _, rfl, rfl⟩
  · cases h
theorem tw_63 : Cond.initialized RX8 ∈ gw_tbl := gw_at 63 (by decide +kernel) rfl
theorem tw_689 : Cond.methodLink RX8 76 yX8_byteAt ∈ gw_tbl := gw_at 689 (by decide +kernel) rfl
theorem tw_690 : Cond.instanceMethod yX8_byteAt ∈ gw_tbl := gw_at 690 (by decide +kernel) rfl
theorem tw_691 : Cond.selects RX8 yX8_byteAt yX8_byteAt ∈ gw_tbl := gw_at 691 (by decide +kernel) rfl
theorem tw_692 : Cond.code yX8_byteAt cX8_byteAt 2 (some .int) ∈ gw_tbl := gw_at 692 (by decide +kernel) rfl
theorem tw_713 : Cond.methodLink RX8 71 yJ0_length_8abf5 ∈ gw_tbl := gw_at 713 (by decide +kernel) rfl
theorem tw_723 : Cond.methodLink RX8 80 yJ0_charAt_5068e ∈ gw_tbl := gw_at 723 (by decide +kernel) rfl
theorem tw_724 : Cond.instanceMethod yJ0_charAt_5068e ∈ gw_tbl := gw_at 724 (by decide +kernel) rfl
theorem tw_725 : Cond.selects RJ0 yJ0_charAt_5068e yJ0_charAt_5068e ∈ gw_tbl := gw_at 725 (by decide +kernel) rfl
theorem tw_726 : Cond.code yJ0_charAt_5068e cJ0_charAt_5068e 2 (some .char) ∈ gw_tbl := gw_at 726 (by decide +kernel) rfl
set_option maxRecDepth 20000 in
theorem m_Ta_isTheWord (l : Launch) : sv_M l yX8_isTheWord cX8_isTheWord 3 (some .boolean) (sv_gI n_Ta_isTheWord) 4 := by
  refine sv_mZ (E := ev_Ta_isTheWord) (by decide +kernel) (ln_gen fk_8 kk_8 (sv_ns _ (fun _ => rfl) _)) rfl ?_ a_Ta_isTheWord b_Ta_isTheWord
  intro p e R s m args below meth c cells slots Q base ad dC dI cA n0 S hkn hR hf pc n f hcs
  refine sv_lk_all (P := fun pc (x : Nat × sv_F) => sv_cok p l e R s m args below meth c cells slots Q base ad dC dI cA true 3 n0 pc x.1 x.2) ?_ pc (n, f) hcs
  exact List.forall_mem_cons.mpr ⟨(sv_cJ S hkn (m_Js_length l) ⟨Nat.le_trans (by decide) hR.1, Nat.le_trans (by decide) hR.2⟩ (by decide) hf gj_length (sv_w5 tw_713 tw_714 tw_715 tw_69 tw_716) (by decide +kernel) (sv_dc3 d_Ta_isTheWord (pc := 10) rfl rfl)).I,
      List.forall_mem_cons.mpr ⟨(sv_cJ S hkn (m_Js_length l) ⟨Nat.le_trans (by decide) hR.1, Nat.le_trans (by decide) hR.2⟩ (by decide) hf gj_length (sv_w5 tw_713 tw_714 tw_715 tw_69 tw_716) (by decide +kernel) (sv_dc3 d_Ta_isTheWord (pc := 22) rfl rfl)).I,
      List.forall_mem_cons.mpr ⟨(sv_cV S hkn (m_Ta_byteAt l) ⟨Nat.le_trans (by decide) hR.1, Nat.le_trans (by decide) hR.2⟩ (by decide) hf rfl (g_Ta_byteAt) (sv_w5 tw_689 tw_690 tw_691 tw_63 tw_692) (by decide +kernel) (sv_dc3 d_Ta_isTheWord (pc := 35) rfl rfl)).I,
      List.forall_mem_cons.mpr ⟨(sv_cJ S hkn (m_Js_charAt l) ⟨Nat.le_trans (by decide) hR.1, Nat.le_trans (by decide) hR.2⟩ (by decide) hf gj_charAt (sv_w5 tw_723 tw_724 tw_725 tw_69 tw_726) (by decide +kernel) (sv_dc3 d_Ta_isTheWord (pc := 40) rfl rfl)).I,
      fun _ h => absurd h List.not_mem_nil⟩⟩⟩⟩
noncomputable def f_Te_wordOf (a0 : Int32) (σ : sv_S) : Option (Nat × sv_S) :=
  sv_if (a0.toInt = 0)
    (some (0, σ))
    (sv_if (a0.toInt = 1)
    (some (1, σ))
    (some (2, σ)))
noncomputable def n_Te_wordOf : List sv_V → sv_S → Option (Nat × sv_S)
  | [.inl a0], σ => f_Te_wordOf a0 σ
  | _, _ => none
def cd_Te_wordOf : sv_C := [(0, (.iload_n 0, (sv_N, (1, (0, []))))), (1, (.lookupswitch 33 #[(0, 27), (1, 30)], (sv_N, (1, (34, [(0, 28), (1, 31)]))))), (28, (.ldc 25, (sv_N, (30, (0, []))))), (30, (.areturn, (sv_N, (31, (0, []))))), (31, (.ldc 27, (sv_N, (33, (0, []))))), (33, (.areturn, (sv_N, (34, (0, []))))), (34, (.ldc 29, (sv_N, (36, (0, []))))), (36, (.areturn, (sv_N, (37, (0, [])))))]
noncomputable def ev_Te_wordOf : sv_E := (fun i => sv_lk i fl_9, (fun i => sv_lk i kc_9, (fun _ => 0, (true, (fun pc => sv_lk pc [], none)))))
noncomputable def kk_Te_wordOf : sv_K (Nat × sv_S) := fun pc => sv_lk pc []
set_option maxRecDepth 20000 in
theorem e_Te_wordOf (a0 : Int32) (σ : sv_S) : sv_ex ev_Te_wordOf (sv_rR 23) kk_Te_wordOf cd_Te_wordOf 10 0 [some (.inl a0)] [] σ = f_Te_wordOf a0 σ := by
  unfold f_Te_wordOf
  delta ev_Te_wordOf kk_Te_wordOf
  rfl
theorem d_Te_wordOf : cd_Te_wordOf.all (sv_dk cX9_wordOf) = true := by decide +kernel
set_option maxRecDepth 20000 in
theorem b_Te_wordOf (Γ : sv_Ga) (res : Nat × sv_S) (X : sv_Ok Γ ev_Te_wordOf cX9_wordOf (sv_rR 23) res) (as : List sv_V) (σ : sv_S) (h : n_Te_wordOf as σ = some res) : sv_T Γ 0 (sv_e0 1 as) [] σ := by
  unfold n_Te_wordOf at h
  split at h
  · refine sv_run X d_Te_wordOf (K := kk_Te_wordOf) (sv_lk_all (P := fun pc (k : sv_Lo → List sv_V → sv_S → Option (Nat × sv_S)) => ∀ lo st σ, k lo st σ = some res → sv_T Γ pc lo st σ) ?_) _ _ _ _ _ ((e_Te_wordOf _ _).trans h)
    clear h
    exact fun _ h => absurd h List.not_mem_nil
  · cases h
theorem a_Te_wordOf (as : List sv_V) (σ : sv_S) (x : Nat × sv_S) (h : n_Te_wordOf as σ = some x) : sv_args 1 ev_Te_wordOf.2.2.2.1 as := by
  unfold n_Te_wordOf at h
  split at h
  · exact ⟨Nat.le_of_ble_eq_true rfl, fun _ v hv => by
      simp only [List.mem_cons, List.not_mem_nil, or_false] at hv
      rcases hv with rfl <;> trivial⟩
  · cases h

set_option maxRecDepth 20000 in
theorem m_Te_wordOf (l : Launch) : sv_M l yX9_wordOf cX9_wordOf 1 (some (.object "java/lang/String")) (sv_gR 23 n_Te_wordOf) 0 := by
  refine sv_mR (E := ev_Te_wordOf) (by decide +kernel) (ln_gen fk_9 kk_9 (sv_ns _ (fun _ => rfl) _)) rfl ?_ a_Te_wordOf b_Te_wordOf
  intro p e R s m args below meth c cells slots Q base ad dC dI cA n0 S hkn hR hf pc n f hcs
  refine sv_lk_all (P := fun pc (x : Nat × sv_F) => sv_cok p l e R s m args below meth c cells slots Q base ad dC dI cA true 1 n0 pc x.1 x.2) ?_ pc (n, f) hcs
  exact fun _ h => absurd h List.not_mem_nil
noncomputable def f_Ta_isKey_2 : Nat → Int32 → sv_S → Option (Int32 × sv_S)
  | 0, _, _ => none
  | n + 1, x1, σ =>
    sv_if ((σ 8 0 4) = (-2 : Int32))
      (sv_if ((3 : Int32) ≤ x1)
        (sv_g ((0 : Int32) = 0 ∨ (0 : Int32) = 1) (some ((0 : Int32), σ)))
        (sv_b (f_Te_wordOf x1 σ) (fun i1 σ2 =>
          sv_b (f_Ta_isTheWord i1 σ2) (fun v3 σ4 =>
            sv_if (v3 = 0)
              (f_Ta_isKey_2 n (x1 + (1 : Int32)) σ4)
              (let σ5 := sv_up σ4 8 0 5 x1
              sv_g ((1 : Int32) = 0 ∨ (1 : Int32) = 1) (some ((1 : Int32), σ5)))))))
      (sv_g ((0 : Int32) = 0 ∨ (0 : Int32) = 1) (some ((0 : Int32), σ)))
noncomputable def f_Ta_isKey (σ : sv_S) : Option (Int32 × sv_S) :=
  f_Ta_isKey_2 sv_fu (0 : Int32) σ
noncomputable def n_Ta_isKey : List sv_V → sv_S → Option (Int32 × sv_S)
  | [.inr (.inr (some (8, 0)))], σ => f_Ta_isKey σ
  | _, _ => none
def cd_Ta_isKey : sv_C := [(0, (.iconst 0, (.inl (0 : Int32), (1, (0, []))))), (1, (.istore_n 1, (sv_N, (2, (0, []))))), (2, (.aload_n 0, (sv_N, (3, (0, []))))), (3, (.getfield 46, (sv_N, (6, (0, []))))), (6, (.bipush (-2), (.inl (-2 : Int32), (8, (0, []))))), (8, (.if_icmp .ne 32, (sv_N, (11, (40, []))))), (11, (.iload_n 1, (sv_N, (12, (0, []))))), (12, (.iconst 3, (.inl (3 : Int32), (13, (0, []))))), (13, (.if_icmp .ge 27, (sv_N, (16, (40, []))))), (16, (.aload_n 0, (sv_N, (17, (0, []))))), (17, (.iload_n 1, (sv_N, (18, (0, []))))), (18, (.invokestatic 60, (sv_N, (21, (0, []))))), (21, (.invokevirtual 64, (sv_N, (24, (0, []))))), (24, (.ifCond .eq 10, (sv_N, (27, (34, []))))), (27, (.aload_n 0, (sv_N, (28, (0, []))))), (28, (.iload_n 1, (sv_N, (29, (0, []))))), (29, (.putfield 25, (sv_N, (32, (0, []))))), (32, (.iconst 1, (.inl (1 : Int32), (33, (0, []))))), (33, (.ireturn, (sv_N, (34, (0, []))))), (34, (.iinc 1 1, (.inl (1 : Int32), (37, (0, []))))), (37, (.goto (-35), (sv_N, (40, (2, []))))), (40, (.iconst 0, (.inl (0 : Int32), (41, (0, []))))), (41, (.ireturn, (sv_N, (42, (0, [])))))]
noncomputable def ev_Ta_isKey : sv_E := (fun i => sv_lk i fl_8, (fun i => sv_lk i kc_8, (fun _ => 0, (true, (fun pc => sv_lk pc [(18, (1, .inr (.inr (.inl (23, n_Te_wordOf))))), (21, (2, .inl n_Ta_isTheWord))], none)))))
noncomputable def kk_Ta_isKey_2 (n : Nat) : sv_K (Int32 × sv_S) := fun pc => sv_lk pc [(2, fun lo st σ => match lo, st with
    | [some (.inr (.inr (some (8, 0)))), some (.inl x1)], [] => f_Ta_isKey_2 n x1 σ
    | _, _ => none)]
set_option maxRecDepth 20000 in
theorem e_Ta_isKey_2 (n : Nat) (x1 : Int32) (σ : sv_S) : sv_ex ev_Ta_isKey sv_rZ (kk_Ta_isKey_2 n) cd_Ta_isKey 25 2 [some (.inr (.inr (some (8, 0)))), some (.inl x1)] [] σ = f_Ta_isKey_2 (n + 1) x1 σ := by
  rw [f_Ta_isKey_2.eq_2]
  delta ev_Ta_isKey kk_Ta_isKey_2 n_Te_wordOf n_Ta_isTheWord
  generalize f_Te_wordOf = c0
  generalize f_Ta_isTheWord = c1
  generalize f_Ta_isKey_2 = c2
  rfl
noncomputable def kk_Ta_isKey : sv_K (Int32 × sv_S) := fun pc => sv_lk pc [(2, fun lo st σ => match lo, st with
    | [some (.inr (.inr (some (8, 0)))), some (.inl x1)], [] => f_Ta_isKey_2 sv_fu x1 σ
    | _, _ => none)]
set_option maxRecDepth 20000 in
theorem e_Ta_isKey (σ : sv_S) : sv_ex ev_Ta_isKey sv_rZ kk_Ta_isKey cd_Ta_isKey 25 0 [some (.inr (.inr (some (8, 0)))), none] [] σ = f_Ta_isKey σ := by
  unfold f_Ta_isKey
  delta ev_Ta_isKey kk_Ta_isKey n_Te_wordOf n_Ta_isTheWord
  generalize f_Te_wordOf = c0
  generalize f_Ta_isTheWord = c1
  generalize f_Ta_isKey_2 = c2
  rfl
theorem d_Ta_isKey : cd_Ta_isKey.all (sv_dk cX8_isKey) = true := by decide +kernel
set_option maxRecDepth 20000 in
theorem w_Ta_isKey_2 {Γ : sv_Ga} {res : Int32 × sv_S} (X : sv_Ok Γ ev_Ta_isKey cX8_isKey sv_rZ res) : ∀ (n : Nat) (x1 : Int32) (σ : sv_S), f_Ta_isKey_2 n x1 σ = some res → sv_T Γ 2 [some (.inr (.inr (some (8, 0)))), some (.inl x1)] [] σ := by
  intro n
  induction n with
  | zero =>
    intro x1 σ h
    rw [f_Ta_isKey_2.eq_1] at h
    cases h
  | succ n ih =>
    intro x1 σ h
    refine sv_run X d_Ta_isKey (K := kk_Ta_isKey_2 n) (sv_lk_all (P := fun pc (k : sv_Lo → List sv_V → sv_S → Option (Int32 × sv_S)) => ∀ lo st σ, k lo st σ = some res → sv_T Γ pc lo st σ) ?_) _ _ _ _ _ ((e_Ta_isKey_2 n x1 σ).trans h)
    clear h
    refine List.forall_mem_cons.mpr ⟨fun lo st σ h => ?_, fun _ h => absurd h List.not_mem_nil⟩
    · dsimp only at h
      split at h
      · exact ih _ _ h
      · cases h

set_option maxRecDepth 20000 in
theorem b_Ta_isKey (Γ : sv_Ga) (res : Int32 × sv_S) (X : sv_Ok Γ ev_Ta_isKey cX8_isKey sv_rZ res) (as : List sv_V) (σ : sv_S) (h : n_Ta_isKey as σ = some res) : sv_T Γ 0 (sv_e0 2 as) [] σ := by
  unfold n_Ta_isKey at h
  split at h
  · refine sv_run X d_Ta_isKey (K := kk_Ta_isKey) (sv_lk_all (P := fun pc (k : sv_Lo → List sv_V → sv_S → Option (Int32 × sv_S)) => ∀ lo st σ, k lo st σ = some res → sv_T Γ pc lo st σ) ?_) _ _ _ _ _ ((e_Ta_isKey _).trans h)
    clear h
    refine List.forall_mem_cons.mpr ⟨fun lo st σ h => ?_, fun _ h => absurd h List.not_mem_nil⟩
    · dsimp only at h
      split at h
      · exact w_Ta_isKey_2 X _ _ _ h
      · cases h
  · cases h
theorem a_Ta_isKey (as : List sv_V) (σ : sv_S) (x : Int32 × sv_S) (h : n_Ta_isKey as σ = some x) : sv_args 2 ev_Ta_isKey.2.2.2.1 as := by
  unfold n_Ta_isKey at h
  split at h
  · exact ⟨Nat.le_of_ble_eq_true rfl, fun _ v hv => by
      simp only [List.mem_cons, List.not_mem_nil, or_false] at hv
      rcases hv with rfl <;> trivial⟩
  · cases h
theorem g_Ta_isKey (as : List sv_V) (σ : sv_S) (x : Option sv_V × sv_S) (h : sv_gI n_Ta_isKey as σ = some x) : ∃ r i as', as = sv_R r i :: as' ∧ sv_kd r i = .inl 8 := by
  obtain ⟨_, _, h, -⟩ := sv_b_some h
  unfold n_Ta_isKey at h
  split at h
  · exact ⟨_, _, _, rfl, rfl⟩
  · cases h
theorem tw_703 : Cond.methodLink RX8 60 yX9_wordOf ∈ gw_tbl := gw_at 703 (by decide +kernel) rfl
theorem tw_704 : Cond.static yX9_wordOf ∈ gw_tbl := gw_at 704 (by decide +kernel) rfl
theorem tw_705 : Cond.code yX9_wordOf cX9_wordOf 1 (some (.object "java/lang/String")) ∈ gw_tbl := gw_at 705 (by decide +kernel) rfl
theorem tw_709 : Cond.methodLink RX8 64 yX8_isTheWord ∈ gw_tbl := gw_at 709 (by decide +kernel) rfl
theorem tw_710 : Cond.instanceMethod yX8_isTheWord ∈ gw_tbl := gw_at 710 (by decide +kernel) rfl
theorem tw_711 : Cond.selects RX8 yX8_isTheWord yX8_isTheWord ∈ gw_tbl := gw_at 711 (by decide +kernel) rfl
theorem tw_712 : Cond.code yX8_isTheWord cX8_isTheWord 3 (some .boolean) ∈ gw_tbl := gw_at 712 (by decide +kernel) rfl
set_option maxRecDepth 20000 in
theorem m_Ta_isKey (l : Launch) : sv_M l yX8_isKey cX8_isKey 2 (some .boolean) (sv_gI n_Ta_isKey) 5 := by
  refine sv_mZ (E := ev_Ta_isKey) (by decide +kernel) (ln_gen fk_8 kk_8 (sv_ns _ (fun _ => rfl) _)) rfl ?_ a_Ta_isKey b_Ta_isKey
  intro p e R s m args below meth c cells slots Q base ad dC dI cA n0 S hkn hR hf pc n f hcs
  refine sv_lk_all (P := fun pc (x : Nat × sv_F) => sv_cok p l e R s m args below meth c cells slots Q base ad dC dI cA true 2 n0 pc x.1 x.2) ?_ pc (n, f) hcs
  exact List.forall_mem_cons.mpr ⟨(sv_cS S hkn (m_Te_wordOf l) ⟨Nat.le_trans (by decide) hR.1, Nat.le_trans (by decide) hR.2⟩ (by decide) hf (sv_w4 tw_703 tw_704 tw_67 tw_705) (by decide +kernel) (sv_dc3 d_Ta_isKey (pc := 18) rfl rfl)).Rf,
      List.forall_mem_cons.mpr ⟨(sv_cV S hkn (m_Ta_isTheWord l) ⟨Nat.le_trans (by decide) hR.1, Nat.le_trans (by decide) hR.2⟩ (by decide) hf rfl (g_Ta_isTheWord) (sv_w5 tw_709 tw_710 tw_711 tw_63 tw_712) (by decide +kernel) (sv_dc3 d_Ta_isKey (pc := 21) rfl rfl)).I,
      fun _ h => absurd h List.not_mem_nil⟩⟩
noncomputable def f_Ta_isDigit (a0 : Int32) (σ : sv_S) : Option (Int32 × sv_S) :=
  sv_if (a0 < (48 : Int32))
    (sv_g ((0 : Int32) = 0 ∨ (0 : Int32) = 1) (some ((0 : Int32), σ)))
    (sv_if ((57 : Int32) < a0)
      (sv_g ((0 : Int32) = 0 ∨ (0 : Int32) = 1) (some ((0 : Int32), σ)))
      (sv_g ((1 : Int32) = 0 ∨ (1 : Int32) = 1) (some ((1 : Int32), σ))))
noncomputable def n_Ta_isDigit : List sv_V → sv_S → Option (Int32 × sv_S)
  | [.inl a0], σ => f_Ta_isDigit a0 σ
  | _, _ => none
def cd_Ta_isDigit : sv_C := [(0, (.iload_n 0, (sv_N, (1, (0, []))))), (1, (.bipush 48, (.inl (48 : Int32), (3, (0, []))))), (3, (.if_icmp .lt 13, (sv_N, (6, (16, []))))), (6, (.iload_n 0, (sv_N, (7, (0, []))))), (7, (.bipush 57, (.inl (57 : Int32), (9, (0, []))))), (9, (.if_icmp .gt 7, (sv_N, (12, (16, []))))), (12, (.iconst 1, (.inl (1 : Int32), (13, (0, []))))), (13, (.goto 4, (sv_N, (16, (17, []))))), (16, (.iconst 0, (.inl (0 : Int32), (17, (0, []))))), (17, (.ireturn, (sv_N, (18, (0, [])))))]
noncomputable def ev_Ta_isDigit : sv_E := (fun i => sv_lk i fl_8, (fun i => sv_lk i kc_8, (fun _ => 0, (true, (fun pc => sv_lk pc [], none)))))
noncomputable def kk_Ta_isDigit : sv_K (Int32 × sv_S) := fun pc => sv_lk pc []
set_option maxRecDepth 20000 in
theorem e_Ta_isDigit (a0 : Int32) (σ : sv_S) : sv_ex ev_Ta_isDigit sv_rZ kk_Ta_isDigit cd_Ta_isDigit 12 0 [some (.inl a0)] [] σ = f_Ta_isDigit a0 σ := by
  unfold f_Ta_isDigit
  delta ev_Ta_isDigit kk_Ta_isDigit
  rfl
theorem d_Ta_isDigit : cd_Ta_isDigit.all (sv_dk cX8_isDigit) = true := by decide +kernel
set_option maxRecDepth 20000 in
theorem b_Ta_isDigit (Γ : sv_Ga) (res : Int32 × sv_S) (X : sv_Ok Γ ev_Ta_isDigit cX8_isDigit sv_rZ res) (as : List sv_V) (σ : sv_S) (h : n_Ta_isDigit as σ = some res) : sv_T Γ 0 (sv_e0 1 as) [] σ := by
  unfold n_Ta_isDigit at h
  split at h
  · refine sv_run X d_Ta_isDigit (K := kk_Ta_isDigit) (sv_lk_all (P := fun pc (k : sv_Lo → List sv_V → sv_S → Option (Int32 × sv_S)) => ∀ lo st σ, k lo st σ = some res → sv_T Γ pc lo st σ) ?_) _ _ _ _ _ ((e_Ta_isDigit _ _).trans h)
    clear h
    exact fun _ h => absurd h List.not_mem_nil
  · cases h
theorem a_Ta_isDigit (as : List sv_V) (σ : sv_S) (x : Int32 × sv_S) (h : n_Ta_isDigit as σ = some x) : sv_args 1 ev_Ta_isDigit.2.2.2.1 as := by
  unfold n_Ta_isDigit at h
  split at h
  · exact ⟨Nat.le_of_ble_eq_true rfl, fun _ v hv => by
      simp only [List.mem_cons, List.not_mem_nil, or_false] at hv
      rcases hv with rfl <;> trivial⟩
  · cases h

set_option maxRecDepth 20000 in
theorem m_Ta_isDigit (l : Launch) : sv_M l yX8_isDigit cX8_isDigit 1 (some .boolean) (sv_gI n_Ta_isDigit) 0 := by
  refine sv_mZ (E := ev_Ta_isDigit) (by decide +kernel) (ln_gen fk_8 kk_8 (sv_ns _ (fun _ => rfl) _)) rfl ?_ a_Ta_isDigit b_Ta_isDigit
  intro p e R s m args below meth c cells slots Q base ad dC dI cA n0 S hkn hR hf pc n f hcs
  refine sv_lk_all (P := fun pc (x : Nat × sv_F) => sv_cok p l e R s m args below meth c cells slots Q base ad dC dI cA true 1 n0 pc x.1 x.2) ?_ pc (n, f) hcs
  exact fun _ h => absurd h List.not_mem_nil
noncomputable def f_Ta_isLetter (a0 : Int32) (σ : sv_S) : Option (Int32 × sv_S) :=
  sv_if (a0 < (97 : Int32))
    (sv_g ((0 : Int32) = 0 ∨ (0 : Int32) = 1) (some ((0 : Int32), σ)))
    (sv_if ((122 : Int32) < a0)
      (sv_g ((0 : Int32) = 0 ∨ (0 : Int32) = 1) (some ((0 : Int32), σ)))
      (sv_g ((1 : Int32) = 0 ∨ (1 : Int32) = 1) (some ((1 : Int32), σ))))
noncomputable def n_Ta_isLetter : List sv_V → sv_S → Option (Int32 × sv_S)
  | [.inl a0], σ => f_Ta_isLetter a0 σ
  | _, _ => none
def cd_Ta_isLetter : sv_C := [(0, (.iload_n 0, (sv_N, (1, (0, []))))), (1, (.bipush 97, (.inl (97 : Int32), (3, (0, []))))), (3, (.if_icmp .lt 13, (sv_N, (6, (16, []))))), (6, (.iload_n 0, (sv_N, (7, (0, []))))), (7, (.bipush 122, (.inl (122 : Int32), (9, (0, []))))), (9, (.if_icmp .gt 7, (sv_N, (12, (16, []))))), (12, (.iconst 1, (.inl (1 : Int32), (13, (0, []))))), (13, (.goto 4, (sv_N, (16, (17, []))))), (16, (.iconst 0, (.inl (0 : Int32), (17, (0, []))))), (17, (.ireturn, (sv_N, (18, (0, [])))))]
noncomputable def ev_Ta_isLetter : sv_E := (fun i => sv_lk i fl_8, (fun i => sv_lk i kc_8, (fun _ => 0, (true, (fun pc => sv_lk pc [], none)))))
noncomputable def kk_Ta_isLetter : sv_K (Int32 × sv_S) := fun pc => sv_lk pc []
set_option maxRecDepth 20000 in
theorem e_Ta_isLetter (a0 : Int32) (σ : sv_S) : sv_ex ev_Ta_isLetter sv_rZ kk_Ta_isLetter cd_Ta_isLetter 12 0 [some (.inl a0)] [] σ = f_Ta_isLetter a0 σ := by
  unfold f_Ta_isLetter
  delta ev_Ta_isLetter kk_Ta_isLetter
  rfl
theorem d_Ta_isLetter : cd_Ta_isLetter.all (sv_dk cX8_isLetter) = true := by decide +kernel
set_option maxRecDepth 20000 in
theorem b_Ta_isLetter (Γ : sv_Ga) (res : Int32 × sv_S) (X : sv_Ok Γ ev_Ta_isLetter cX8_isLetter sv_rZ res) (as : List sv_V) (σ : sv_S) (h : n_Ta_isLetter as σ = some res) : sv_T Γ 0 (sv_e0 1 as) [] σ := by
  unfold n_Ta_isLetter at h
  split at h
  · refine sv_run X d_Ta_isLetter (K := kk_Ta_isLetter) (sv_lk_all (P := fun pc (k : sv_Lo → List sv_V → sv_S → Option (Int32 × sv_S)) => ∀ lo st σ, k lo st σ = some res → sv_T Γ pc lo st σ) ?_) _ _ _ _ _ ((e_Ta_isLetter _ _).trans h)
    clear h
    exact fun _ h => absurd h List.not_mem_nil
  · cases h
theorem a_Ta_isLetter (as : List sv_V) (σ : sv_S) (x : Int32 × sv_S) (h : n_Ta_isLetter as σ = some x) : sv_args 1 ev_Ta_isLetter.2.2.2.1 as := by
  unfold n_Ta_isLetter at h
  split at h
  · exact ⟨Nat.le_of_ble_eq_true rfl, fun _ v hv => by
      simp only [List.mem_cons, List.not_mem_nil, or_false] at hv
      rcases hv with rfl <;> trivial⟩
  · cases h

set_option maxRecDepth 20000 in
theorem m_Ta_isLetter (l : Launch) : sv_M l yX8_isLetter cX8_isLetter 1 (some .boolean) (sv_gI n_Ta_isLetter) 0 := by
  refine sv_mZ (E := ev_Ta_isLetter) (by decide +kernel) (ln_gen fk_8 kk_8 (sv_ns _ (fun _ => rfl) _)) rfl ?_ a_Ta_isLetter b_Ta_isLetter
  intro p e R s m args below meth c cells slots Q base ad dC dI cA n0 S hkn hR hf pc n f hcs
  refine sv_lk_all (P := fun pc (x : Nat × sv_F) => sv_cok p l e R s m args below meth c cells slots Q base ad dC dI cA true 1 n0 pc x.1 x.2) ?_ pc (n, f) hcs
  exact fun _ h => absurd h List.not_mem_nil
noncomputable def f_Ta_isWord (σ : sv_S) : Option (Int32 × sv_S) :=
  sv_if ((σ 8 0 4) = (-2 : Int32))
    (sv_g ((1 : Int32) = 0 ∨ (1 : Int32) = 1) (some ((1 : Int32), σ)))
    (sv_if ((σ 8 0 4) = (-3 : Int32))
      (sv_g ((1 : Int32) = 0 ∨ (1 : Int32) = 1) (some ((1 : Int32), σ)))
      (sv_g ((0 : Int32) = 0 ∨ (0 : Int32) = 1) (some ((0 : Int32), σ))))
noncomputable def n_Ta_isWord : List sv_V → sv_S → Option (Int32 × sv_S)
  | [.inr (.inr (some (8, 0)))], σ => f_Ta_isWord σ
  | _, _ => none
def cd_Ta_isWord : sv_C := [(0, (.aload_n 0, (sv_N, (1, (0, []))))), (1, (.getfield 46, (sv_N, (4, (0, []))))), (4, (.bipush (-2), (.inl (-2 : Int32), (6, (0, []))))), (6, (.if_icmp .eq 12, (sv_N, (9, (18, []))))), (9, (.aload_n 0, (sv_N, (10, (0, []))))), (10, (.getfield 46, (sv_N, (13, (0, []))))), (13, (.bipush (-3), (.inl (-3 : Int32), (15, (0, []))))), (15, (.if_icmp .ne 7, (sv_N, (18, (22, []))))), (18, (.iconst 1, (.inl (1 : Int32), (19, (0, []))))), (19, (.goto 4, (sv_N, (22, (23, []))))), (22, (.iconst 0, (.inl (0 : Int32), (23, (0, []))))), (23, (.ireturn, (sv_N, (24, (0, [])))))]
noncomputable def ev_Ta_isWord : sv_E := (fun i => sv_lk i fl_8, (fun i => sv_lk i kc_8, (fun _ => 0, (true, (fun pc => sv_lk pc [], none)))))
noncomputable def kk_Ta_isWord : sv_K (Int32 × sv_S) := fun pc => sv_lk pc []
set_option maxRecDepth 20000 in
theorem e_Ta_isWord (σ : sv_S) : sv_ex ev_Ta_isWord sv_rZ kk_Ta_isWord cd_Ta_isWord 14 0 [some (.inr (.inr (some (8, 0))))] [] σ = f_Ta_isWord σ := by
  unfold f_Ta_isWord
  delta ev_Ta_isWord kk_Ta_isWord
  rfl
theorem d_Ta_isWord : cd_Ta_isWord.all (sv_dk cX8_isWord) = true := by decide +kernel
set_option maxRecDepth 20000 in
theorem b_Ta_isWord (Γ : sv_Ga) (res : Int32 × sv_S) (X : sv_Ok Γ ev_Ta_isWord cX8_isWord sv_rZ res) (as : List sv_V) (σ : sv_S) (h : n_Ta_isWord as σ = some res) : sv_T Γ 0 (sv_e0 1 as) [] σ := by
  unfold n_Ta_isWord at h
  split at h
  · refine sv_run X d_Ta_isWord (K := kk_Ta_isWord) (sv_lk_all (P := fun pc (k : sv_Lo → List sv_V → sv_S → Option (Int32 × sv_S)) => ∀ lo st σ, k lo st σ = some res → sv_T Γ pc lo st σ) ?_) _ _ _ _ _ ((e_Ta_isWord _).trans h)
    clear h
    exact fun _ h => absurd h List.not_mem_nil
  · cases h
theorem a_Ta_isWord (as : List sv_V) (σ : sv_S) (x : Int32 × sv_S) (h : n_Ta_isWord as σ = some x) : sv_args 1 ev_Ta_isWord.2.2.2.1 as := by
  unfold n_Ta_isWord at h
  split at h
  · exact ⟨Nat.le_of_ble_eq_true rfl, fun _ v hv => by
      simp only [List.mem_cons, List.not_mem_nil, or_false] at hv
      rcases hv with rfl <;> trivial⟩
  · cases h
theorem g_Ta_isWord (as : List sv_V) (σ : sv_S) (x : Option sv_V × sv_S) (h : sv_gI n_Ta_isWord as σ = some x) : ∃ r i as', as = sv_R r i :: as' ∧ sv_kd r i = .inl 8 := by
  obtain ⟨_, _, h, -⟩ := sv_b_some h
  unfold n_Ta_isWord at h
  split at h
  · exact ⟨_, _, _, rfl, rfl⟩
  · cases h

set_option maxRecDepth 20000 in
theorem m_Ta_isWord (l : Launch) : sv_M l yX8_isWord cX8_isWord 1 (some .boolean) (sv_gI n_Ta_isWord) 0 := by
  refine sv_mZ (E := ev_Ta_isWord) (by decide +kernel) (ln_gen fk_8 kk_8 (sv_ns _ (fun _ => rfl) _)) rfl ?_ a_Ta_isWord b_Ta_isWord
  intro p e R s m args below meth c cells slots Q base ad dC dI cA n0 S hkn hR hf pc n f hcs
  refine sv_lk_all (P := fun pc (x : Nat × sv_F) => sv_cok p l e R s m args below meth c cells slots Q base ad dC dI cA true 1 n0 pc x.1 x.2) ?_ pc (n, f) hcs
  exact fun _ h => absurd h List.not_mem_nil
noncomputable def f_Ta_next_241 (x1 : Int32) (x2 : Int32) (σ : sv_S) : Option (sv_S) :=
    sv_if (x2 = 0)
      (some σ)
      (sv_if ((σ 8 0 2) = x1)
        (sv_b (f_Ta_isWord σ) (fun v1 σ2 =>
          sv_if (v1 = 0)
            (some σ2)
            (let σ3 := sv_up σ2 8 0 4 (-4 : Int32)
            some σ3)))
        (some σ))
noncomputable def f_Ta_next_192 (x1 : Int32) (x2 : Int32) (σ : sv_S) : Option (sv_S) :=
    sv_if (((σ 8 0 3) - (σ 8 0 2)) ≤ (4 : Int32))
      (let σ1 := sv_up σ 8 0 4 (-3 : Int32)
      f_Ta_next_241 x1 x2 σ1)
      (let σ2 := sv_up σ 8 0 4 (-4 : Int32)
      f_Ta_next_241 x1 x2 σ2)
noncomputable def f_Ta_next_154 : Nat → Int32 → Int32 → sv_S → Option (sv_S)
  | 0, _, _, _ => none
  | n + 1, x1, x2, σ =>
    sv_if ((σ 8 0 1) ≤ (σ 8 0 3))
      (f_Ta_next_192 x1 x2 σ)
      (sv_b (f_Ta_byteAt (σ 8 0 3) σ) (fun v1 σ2 =>
        sv_b (f_Ta_isDigit v1 σ2) (fun v3 σ4 =>
          sv_if (v3 = 0)
            (f_Ta_next_192 x1 x2 σ4)
            (let σ5 := sv_up σ4 8 0 3 ((σ4 8 0 3) + (1 : Int32))
            f_Ta_next_154 n x1 x2 σ5))))
noncomputable def f_Ta_next_93 : Nat → Int32 → Int32 → sv_S → Option (sv_S)
  | 0, _, _, _ => none
  | n + 1, x1, x2, σ =>
    sv_if ((σ 8 0 1) ≤ (σ 8 0 3))
      (let σ1 := sv_up σ 8 0 4 (-2 : Int32)
      f_Ta_next_241 x1 x2 σ1)
      (sv_b (f_Ta_byteAt (σ 8 0 3) σ) (fun v2 σ3 =>
        sv_b (f_Ta_isLetter v2 σ3) (fun v4 σ5 =>
          sv_if (v4 = 0)
            (let σ6 := sv_up σ5 8 0 4 (-2 : Int32)
            f_Ta_next_241 x1 x2 σ6)
            (let σ7 := sv_up σ5 8 0 3 ((σ5 8 0 3) + (1 : Int32))
            f_Ta_next_93 n x1 x2 σ7))))
noncomputable def f_Ta_next_52 (x1 : Int32) (x2 : Int32) (σ : sv_S) : Option (sv_S) :=
    let σ1 := sv_up σ 8 0 3 (σ 8 0 2)
    sv_if ((σ1 8 0 2) < (σ1 8 0 1))
      (sv_b (f_Ta_byteAt (σ1 8 0 2) σ1) (fun v2 σ3 =>
        sv_b (f_Ta_isLetter v2 σ3) (fun v4 σ5 =>
          sv_if (v4 = 0)
            (sv_b (f_Ta_byteAt (σ5 8 0 2) σ5) (fun v6 σ7 =>
              sv_b (f_Ta_isDigit v6 σ7) (fun v8 σ9 =>
                sv_if (v8 = 0)
                  (sv_b (f_Ta_byteAt (σ9 8 0 2) σ9) (fun v10 σ11 =>
                    let σ12 := sv_up σ11 8 0 4 v10
                    let σ13 := sv_up σ12 8 0 3 ((σ12 8 0 3) + (1 : Int32))
                    f_Ta_next_241 x1 x2 σ13))
                  (f_Ta_next_154 sv_fu x1 x2 σ9))))
            (f_Ta_next_93 sv_fu x1 x2 σ5))))
      (let σ14 := sv_up σ1 8 0 4 (-1 : Int32)
      f_Ta_next_241 x1 x2 σ14)
noncomputable def f_Ta_next_15 : Nat → Int32 → Int32 → sv_S → Option (sv_S)
  | 0, _, _, _ => none
  | n + 1, x1, x2, σ =>
    sv_if ((σ 8 0 1) ≤ (σ 8 0 2))
      (f_Ta_next_52 x1 x2 σ)
      (sv_b (f_Ta_byteAt (σ 8 0 2) σ) (fun v1 σ2 =>
        sv_if (v1 = (32 : Int32))
          (let σ3 := sv_up σ2 8 0 2 ((σ2 8 0 2) + (1 : Int32))
          f_Ta_next_15 n x1 x2 σ3)
          (f_Ta_next_52 x1 x2 σ2)))
noncomputable def f_Ta_next (σ : sv_S) : Option (sv_S) :=
  sv_b (f_Ta_isWord σ) (fun v1 σ2 =>
    let σ3 := sv_up σ2 8 0 2 (σ 8 0 3)
    f_Ta_next_15 sv_fu (σ 8 0 3) v1 σ3)
noncomputable def n_Ta_next : List sv_V → sv_S → Option (sv_S)
  | [.inr (.inr (some (8, 0)))], σ => f_Ta_next σ
  | _, _ => none
def cd_Ta_next : sv_C := [(0, (.aload_n 0, (sv_N, (1, (0, []))))), (1, (.getfield 43, (sv_N, (4, (0, []))))), (4, (.istore_n 1, (sv_N, (5, (0, []))))), (5, (.aload_n 0, (sv_N, (6, (0, []))))), (6, (.invokevirtual 111, (sv_N, (9, (0, []))))), (9, (.istore_n 2, (sv_N, (10, (0, []))))), (10, (.aload_n 0, (sv_N, (11, (0, []))))), (11, (.iload_n 1, (sv_N, (12, (0, []))))), (12, (.putfield 68, (sv_N, (15, (0, []))))), (15, (.aload_n 0, (sv_N, (16, (0, []))))), (16, (.getfield 68, (sv_N, (19, (0, []))))), (19, (.aload_n 0, (sv_N, (20, (0, []))))), (20, (.getfield 19, (sv_N, (23, (0, []))))), (23, (.if_icmp .ge 29, (sv_N, (26, (52, []))))), (26, (.aload_n 0, (sv_N, (27, (0, []))))), (27, (.aload_n 0, (sv_N, (28, (0, []))))), (28, (.getfield 68, (sv_N, (31, (0, []))))), (31, (.invokevirtual 76, (sv_N, (34, (0, []))))), (34, (.bipush 32, (.inl (32 : Int32), (36, (0, []))))), (36, (.if_icmp .ne 16, (sv_N, (39, (52, []))))), (39, (.aload_n 0, (sv_N, (40, (0, []))))), (40, (.dup, (sv_N, (41, (0, []))))), (41, (.getfield 68, (sv_N, (44, (0, []))))), (44, (.iconst 1, (.inl (1 : Int32), (45, (0, []))))), (45, (.iadd, (sv_N, (46, (0, []))))), (46, (.putfield 68, (sv_N, (49, (0, []))))), (49, (.goto (-34), (sv_N, (52, (15, []))))), (52, (.aload_n 0, (sv_N, (53, (0, []))))), (53, (.aload_n 0, (sv_N, (54, (0, []))))), (54, (.getfield 68, (sv_N, (57, (0, []))))), (57, (.putfield 43, (sv_N, (60, (0, []))))), (60, (.aload_n 0, (sv_N, (61, (0, []))))), (61, (.getfield 68, (sv_N, (64, (0, []))))), (64, (.aload_n 0, (sv_N, (65, (0, []))))), (65, (.getfield 19, (sv_N, (68, (0, []))))), (68, (.if_icmp .lt 11, (sv_N, (71, (79, []))))), (71, (.aload_n 0, (sv_N, (72, (0, []))))), (72, (.iconst (-1), (.inl (-1 : Int32), (73, (0, []))))), (73, (.putfield 46, (sv_N, (76, (0, []))))), (76, (.goto 165, (sv_N, (79, (241, []))))), (79, (.aload_n 0, (sv_N, (80, (0, []))))), (80, (.aload_n 0, (sv_N, (81, (0, []))))), (81, (.getfield 68, (sv_N, (84, (0, []))))), (84, (.invokevirtual 76, (sv_N, (87, (0, []))))), (87, (.invokestatic 114, (sv_N, (90, (0, []))))), (90, (.ifCond .eq 50, (sv_N, (93, (140, []))))), (93, (.aload_n 0, (sv_N, (94, (0, []))))), (94, (.getfield 43, (sv_N, (97, (0, []))))), (97, (.aload_n 0, (sv_N, (98, (0, []))))), (98, (.getfield 19, (sv_N, (101, (0, []))))), (101, (.if_icmp .ge 30, (sv_N, (104, (131, []))))), (104, (.aload_n 0, (sv_N, (105, (0, []))))), (105, (.aload_n 0, (sv_N, (106, (0, []))))), (106, (.getfield 43, (sv_N, (109, (0, []))))), (109, (.invokevirtual 76, (sv_N, (112, (0, []))))), (112, (.invokestatic 114, (sv_N, (115, (0, []))))), (115, (.ifCond .eq 16, (sv_N, (118, (131, []))))), (118, (.aload_n 0, (sv_N, (119, (0, []))))), (119, (.dup, (sv_N, (120, (0, []))))), (120, (.getfield 43, (sv_N, (123, (0, []))))), (123, (.iconst 1, (.inl (1 : Int32), (124, (0, []))))), (124, (.iadd, (sv_N, (125, (0, []))))), (125, (.putfield 43, (sv_N, (128, (0, []))))), (128, (.goto (-35), (sv_N, (131, (93, []))))), (131, (.aload_n 0, (sv_N, (132, (0, []))))), (132, (.bipush (-2), (.inl (-2 : Int32), (134, (0, []))))), (134, (.putfield 46, (sv_N, (137, (0, []))))), (137, (.goto 104, (sv_N, (140, (241, []))))), (140, (.aload_n 0, (sv_N, (141, (0, []))))), (141, (.aload_n 0, (sv_N, (142, (0, []))))), (142, (.getfield 68, (sv_N, (145, (0, []))))), (145, (.invokevirtual 76, (sv_N, (148, (0, []))))), (148, (.invokestatic 117, (sv_N, (151, (0, []))))), (151, (.ifCond .eq 68, (sv_N, (154, (219, []))))), (154, (.aload_n 0, (sv_N, (155, (0, []))))), (155, (.getfield 43, (sv_N, (158, (0, []))))), (158, (.aload_n 0, (sv_N, (159, (0, []))))), (159, (.getfield 19, (sv_N, (162, (0, []))))), (162, (.if_icmp .ge 30, (sv_N, (165, (192, []))))), (165, (.aload_n 0, (sv_N, (166, (0, []))))), (166, (.aload_n 0, (sv_N, (167, (0, []))))), (167, (.getfield 43, (sv_N, (170, (0, []))))), (170, (.invokevirtual 76, (sv_N, (173, (0, []))))), (173, (.invokestatic 117, (sv_N, (176, (0, []))))), (176, (.ifCond .eq 16, (sv_N, (179, (192, []))))), (179, (.aload_n 0, (sv_N, (180, (0, []))))), (180, (.dup, (sv_N, (181, (0, []))))), (181, (.getfield 43, (sv_N, (184, (0, []))))), (184, (.iconst 1, (.inl (1 : Int32), (185, (0, []))))), (185, (.iadd, (sv_N, (186, (0, []))))), (186, (.putfield 43, (sv_N, (189, (0, []))))), (189, (.goto (-35), (sv_N, (192, (154, []))))), (192, (.aload_n 0, (sv_N, (193, (0, []))))), (193, (.aload_n 0, (sv_N, (194, (0, []))))), (194, (.getfield 43, (sv_N, (197, (0, []))))), (197, (.aload_n 0, (sv_N, (198, (0, []))))), (198, (.getfield 68, (sv_N, (201, (0, []))))), (201, (.isub, (sv_N, (202, (0, []))))), (202, (.iconst 4, (.inl (4 : Int32), (203, (0, []))))), (203, (.if_icmp .le 8, (sv_N, (206, (211, []))))), (206, (.bipush (-4), (.inl (-4 : Int32), (208, (0, []))))), (208, (.goto 5, (sv_N, (211, (213, []))))), (211, (.bipush (-3), (.inl (-3 : Int32), (213, (0, []))))), (213, (.putfield 46, (sv_N, (216, (0, []))))), (216, (.goto 25, (sv_N, (219, (241, []))))), (219, (.aload_n 0, (sv_N, (220, (0, []))))), (220, (.aload_n 0, (sv_N, (221, (0, []))))), (221, (.aload_n 0, (sv_N, (222, (0, []))))), (222, (.getfield 68, (sv_N, (225, (0, []))))), (225, (.invokevirtual 76, (sv_N, (228, (0, []))))), (228, (.putfield 46, (sv_N, (231, (0, []))))), (231, (.aload_n 0, (sv_N, (232, (0, []))))), (232, (.dup, (sv_N, (233, (0, []))))), (233, (.getfield 43, (sv_N, (236, (0, []))))), (236, (.iconst 1, (.inl (1 : Int32), (237, (0, []))))), (237, (.iadd, (sv_N, (238, (0, []))))), (238, (.putfield 43, (sv_N, (241, (0, []))))), (241, (.iload_n 2, (sv_N, (242, (0, []))))), (242, (.ifCond .eq 24, (sv_N, (245, (266, []))))), (245, (.aload_n 0, (sv_N, (246, (0, []))))), (246, (.getfield 68, (sv_N, (249, (0, []))))), (249, (.iload_n 1, (sv_N, (250, (0, []))))), (250, (.if_icmp .ne 16, (sv_N, (253, (266, []))))), (253, (.aload_n 0, (sv_N, (254, (0, []))))), (254, (.invokevirtual 111, (sv_N, (257, (0, []))))), (257, (.ifCond .eq 9, (sv_N, (260, (266, []))))), (260, (.aload_n 0, (sv_N, (261, (0, []))))), (261, (.bipush (-4), (.inl (-4 : Int32), (263, (0, []))))), (263, (.putfield 46, (sv_N, (266, (0, []))))), (266, (.return_, (sv_N, (267, (0, [])))))]
noncomputable def ev_Ta_next : sv_E := (fun i => sv_lk i fl_8, (fun i => sv_lk i kc_8, (fun _ => 0, (true, (fun pc => sv_lk pc [(6, (1, .inl n_Ta_isWord)), (31, (2, .inl n_Ta_byteAt)), (84, (2, .inl n_Ta_byteAt)), (87, (1, .inl n_Ta_isLetter)), (109, (2, .inl n_Ta_byteAt)), (112, (1, .inl n_Ta_isLetter)), (145, (2, .inl n_Ta_byteAt)), (148, (1, .inl n_Ta_isDigit)), (170, (2, .inl n_Ta_byteAt)), (173, (1, .inl n_Ta_isDigit)), (225, (2, .inl n_Ta_byteAt)), (254, (1, .inl n_Ta_isWord))], none)))))
noncomputable def kk_Ta_next_241 : sv_K (sv_S) := fun pc => sv_lk pc []
set_option maxRecDepth 20000 in
theorem e_Ta_next_241 (x1 : Int32) (x2 : Int32) (σ : sv_S) : sv_ex ev_Ta_next sv_rV (kk_Ta_next_241) cd_Ta_next 132 241 [some (.inr (.inr (some (8, 0)))), some (.inl x1), some (.inl x2)] [] σ = f_Ta_next_241 x1 x2 σ := by
  unfold f_Ta_next_241
  delta ev_Ta_next kk_Ta_next_241 n_Ta_isWord n_Ta_byteAt n_Ta_isLetter n_Ta_isDigit
  generalize f_Ta_isWord = c0
  generalize f_Ta_byteAt = c1
  generalize f_Ta_isLetter = c2
  generalize f_Ta_isDigit = c3
  rfl
noncomputable def kk_Ta_next_192 : sv_K (sv_S) := fun pc => sv_lk pc [(241, fun lo st σ => match lo, st with
    | [some (.inr (.inr (some (8, 0)))), some (.inl x1), some (.inl x2)], [] => f_Ta_next_241 x1 x2 σ
    | _, _ => none)]
set_option maxRecDepth 20000 in
theorem e_Ta_next_192 (x1 : Int32) (x2 : Int32) (σ : sv_S) : sv_ex ev_Ta_next sv_rV (kk_Ta_next_192) cd_Ta_next 132 192 [some (.inr (.inr (some (8, 0)))), some (.inl x1), some (.inl x2)] [] σ = f_Ta_next_192 x1 x2 σ := by
  unfold f_Ta_next_192
  delta ev_Ta_next kk_Ta_next_192 n_Ta_isWord n_Ta_byteAt n_Ta_isLetter n_Ta_isDigit
  generalize f_Ta_isWord = c0
  generalize f_Ta_byteAt = c1
  generalize f_Ta_isLetter = c2
  generalize f_Ta_isDigit = c3
  generalize f_Ta_next_241 = c4
  rfl
noncomputable def kk_Ta_next_154 (n : Nat) : sv_K (sv_S) := fun pc => sv_lk pc [(154, fun lo st σ => match lo, st with
    | [some (.inr (.inr (some (8, 0)))), some (.inl x1), some (.inl x2)], [] => f_Ta_next_154 n x1 x2 σ
    | _, _ => none),
  (192, fun lo st σ => match lo, st with
    | [some (.inr (.inr (some (8, 0)))), some (.inl x1), some (.inl x2)], [] => f_Ta_next_192 x1 x2 σ
    | _, _ => none)]
set_option maxRecDepth 20000 in
theorem e_Ta_next_154 (n : Nat) (x1 : Int32) (x2 : Int32) (σ : sv_S) : sv_ex ev_Ta_next sv_rV (kk_Ta_next_154 n) cd_Ta_next 132 154 [some (.inr (.inr (some (8, 0)))), some (.inl x1), some (.inl x2)] [] σ = f_Ta_next_154 (n + 1) x1 x2 σ := by
  rw [f_Ta_next_154.eq_2]
  delta ev_Ta_next kk_Ta_next_154 n_Ta_isWord n_Ta_byteAt n_Ta_isLetter n_Ta_isDigit
  generalize f_Ta_isWord = c0
  generalize f_Ta_byteAt = c1
  generalize f_Ta_isLetter = c2
  generalize f_Ta_isDigit = c3
  generalize f_Ta_next_154 = c4
  generalize f_Ta_next_192 = c5
  rfl
noncomputable def kk_Ta_next_93 (n : Nat) : sv_K (sv_S) := fun pc => sv_lk pc [(93, fun lo st σ => match lo, st with
    | [some (.inr (.inr (some (8, 0)))), some (.inl x1), some (.inl x2)], [] => f_Ta_next_93 n x1 x2 σ
    | _, _ => none),
  (241, fun lo st σ => match lo, st with
    | [some (.inr (.inr (some (8, 0)))), some (.inl x1), some (.inl x2)], [] => f_Ta_next_241 x1 x2 σ
    | _, _ => none)]
set_option maxRecDepth 20000 in
theorem e_Ta_next_93 (n : Nat) (x1 : Int32) (x2 : Int32) (σ : sv_S) : sv_ex ev_Ta_next sv_rV (kk_Ta_next_93 n) cd_Ta_next 132 93 [some (.inr (.inr (some (8, 0)))), some (.inl x1), some (.inl x2)] [] σ = f_Ta_next_93 (n + 1) x1 x2 σ := by
  rw [f_Ta_next_93.eq_2]
  delta ev_Ta_next kk_Ta_next_93 n_Ta_isWord n_Ta_byteAt n_Ta_isLetter n_Ta_isDigit
  generalize f_Ta_isWord = c0
  generalize f_Ta_byteAt = c1
  generalize f_Ta_isLetter = c2
  generalize f_Ta_isDigit = c3
  generalize f_Ta_next_93 = c4
  generalize f_Ta_next_241 = c5
  rfl
noncomputable def kk_Ta_next_52 : sv_K (sv_S) := fun pc => sv_lk pc [(93, fun lo st σ => match lo, st with
    | [some (.inr (.inr (some (8, 0)))), some (.inl x1), some (.inl x2)], [] => f_Ta_next_93 sv_fu x1 x2 σ
    | _, _ => none),
  (154, fun lo st σ => match lo, st with
    | [some (.inr (.inr (some (8, 0)))), some (.inl x1), some (.inl x2)], [] => f_Ta_next_154 sv_fu x1 x2 σ
    | _, _ => none),
  (241, fun lo st σ => match lo, st with
    | [some (.inr (.inr (some (8, 0)))), some (.inl x1), some (.inl x2)], [] => f_Ta_next_241 x1 x2 σ
    | _, _ => none)]
set_option maxRecDepth 20000 in
theorem e_Ta_next_52 (x1 : Int32) (x2 : Int32) (σ : sv_S) : sv_ex ev_Ta_next sv_rV (kk_Ta_next_52) cd_Ta_next 132 52 [some (.inr (.inr (some (8, 0)))), some (.inl x1), some (.inl x2)] [] σ = f_Ta_next_52 x1 x2 σ := by
  unfold f_Ta_next_52
  delta ev_Ta_next kk_Ta_next_52 n_Ta_isWord n_Ta_byteAt n_Ta_isLetter n_Ta_isDigit
  generalize f_Ta_isWord = c0
  generalize f_Ta_byteAt = c1
  generalize f_Ta_isLetter = c2
  generalize f_Ta_isDigit = c3
  generalize f_Ta_next_93 = c4
  generalize f_Ta_next_154 = c5
  generalize f_Ta_next_241 = c6
  rfl
noncomputable def kk_Ta_next_15 (n : Nat) : sv_K (sv_S) := fun pc => sv_lk pc [(15, fun lo st σ => match lo, st with
    | [some (.inr (.inr (some (8, 0)))), some (.inl x1), some (.inl x2)], [] => f_Ta_next_15 n x1 x2 σ
    | _, _ => none),
  (52, fun lo st σ => match lo, st with
    | [some (.inr (.inr (some (8, 0)))), some (.inl x1), some (.inl x2)], [] => f_Ta_next_52 x1 x2 σ
    | _, _ => none)]
set_option maxRecDepth 20000 in
theorem e_Ta_next_15 (n : Nat) (x1 : Int32) (x2 : Int32) (σ : sv_S) : sv_ex ev_Ta_next sv_rV (kk_Ta_next_15 n) cd_Ta_next 132 15 [some (.inr (.inr (some (8, 0)))), some (.inl x1), some (.inl x2)] [] σ = f_Ta_next_15 (n + 1) x1 x2 σ := by
  rw [f_Ta_next_15.eq_2]
  delta ev_Ta_next kk_Ta_next_15 n_Ta_isWord n_Ta_byteAt n_Ta_isLetter n_Ta_isDigit
  generalize f_Ta_isWord = c0
  generalize f_Ta_byteAt = c1
  generalize f_Ta_isLetter = c2
  generalize f_Ta_isDigit = c3
  generalize f_Ta_next_15 = c4
  generalize f_Ta_next_52 = c5
  rfl
noncomputable def kk_Ta_next : sv_K (sv_S) := fun pc => sv_lk pc [(15, fun lo st σ => match lo, st with
    | [some (.inr (.inr (some (8, 0)))), some (.inl x1), some (.inl x2)], [] => f_Ta_next_15 sv_fu x1 x2 σ
    | _, _ => none)]
set_option maxRecDepth 20000 in
theorem e_Ta_next (σ : sv_S) : sv_ex ev_Ta_next sv_rV kk_Ta_next cd_Ta_next 132 0 [some (.inr (.inr (some (8, 0)))), none, none] [] σ = f_Ta_next σ := by
  unfold f_Ta_next
  delta ev_Ta_next kk_Ta_next n_Ta_isWord n_Ta_byteAt n_Ta_isLetter n_Ta_isDigit
  generalize f_Ta_isWord = c0
  generalize f_Ta_byteAt = c1
  generalize f_Ta_isLetter = c2
  generalize f_Ta_isDigit = c3
  generalize f_Ta_next_15 = c4
  rfl
theorem d_Ta_next : cd_Ta_next.all (sv_dk cX8_next) = true := by decide +kernel
set_option maxRecDepth 20000 in
theorem w_Ta_next_241 {Γ : sv_Ga} {res : sv_S} (X : sv_Ok Γ ev_Ta_next cX8_next sv_rV res) : ∀ (x1 : Int32) (x2 : Int32) (σ : sv_S), f_Ta_next_241 x1 x2 σ = some res → sv_T Γ 241 [some (.inr (.inr (some (8, 0)))), some (.inl x1), some (.inl x2)] [] σ := by
  intro x1 x2 σ h
  refine sv_run X d_Ta_next (K := kk_Ta_next_241) (sv_lk_all (P := fun pc (k : sv_Lo → List sv_V → sv_S → Option (sv_S)) => ∀ lo st σ, k lo st σ = some res → sv_T Γ pc lo st σ) ?_) _ _ _ _ _ ((e_Ta_next_241 x1 x2 σ).trans h)
  clear h
  exact fun _ h => absurd h List.not_mem_nil

set_option maxRecDepth 20000 in
theorem w_Ta_next_192 {Γ : sv_Ga} {res : sv_S} (X : sv_Ok Γ ev_Ta_next cX8_next sv_rV res) : ∀ (x1 : Int32) (x2 : Int32) (σ : sv_S), f_Ta_next_192 x1 x2 σ = some res → sv_T Γ 192 [some (.inr (.inr (some (8, 0)))), some (.inl x1), some (.inl x2)] [] σ := by
  intro x1 x2 σ h
  refine sv_run X d_Ta_next (K := kk_Ta_next_192) (sv_lk_all (P := fun pc (k : sv_Lo → List sv_V → sv_S → Option (sv_S)) => ∀ lo st σ, k lo st σ = some res → sv_T Γ pc lo st σ) ?_) _ _ _ _ _ ((e_Ta_next_192 x1 x2 σ).trans h)
  clear h
  refine List.forall_mem_cons.mpr ⟨fun lo st σ h => ?_, fun _ h => absurd h List.not_mem_nil⟩
  · dsimp only at h
    split at h
    · exact w_Ta_next_241 X _ _ _ h
    · cases h

set_option maxRecDepth 20000 in
theorem w_Ta_next_154 {Γ : sv_Ga} {res : sv_S} (X : sv_Ok Γ ev_Ta_next cX8_next sv_rV res) : ∀ (n : Nat) (x1 : Int32) (x2 : Int32) (σ : sv_S), f_Ta_next_154 n x1 x2 σ = some res → sv_T Γ 154 [some (.inr (.inr (some (8, 0)))), some (.inl x1), some (.inl x2)] [] σ := by
  intro n
  induction n with
  | zero =>
    intro x1 x2 σ h
    rw [f_Ta_next_154.eq_1] at h
    cases h
  | succ n ih =>
    intro x1 x2 σ h
    refine sv_run X d_Ta_next (K := kk_Ta_next_154 n) (sv_lk_all (P := fun pc (k : sv_Lo → List sv_V → sv_S → Option (sv_S)) => ∀ lo st σ, k lo st σ = some res → sv_T Γ pc lo st σ) ?_) _ _ _ _ _ ((e_Ta_next_154 n x1 x2 σ).trans h)
    clear h
    refine List.forall_mem_cons.mpr ⟨fun lo st σ h => ?_, List.forall_mem_cons.mpr ⟨fun lo st σ h => ?_, fun _ h => absurd h List.not_mem_nil⟩⟩
    · dsimp only at h
      split at h
      · exact ih _ _ _ h
      · cases h
    · dsimp only at h
      split at h
      · exact w_Ta_next_192 X _ _ _ h
      · cases h

set_option maxRecDepth 20000 in
theorem w_Ta_next_93 {Γ : sv_Ga} {res : sv_S} (X : sv_Ok Γ ev_Ta_next cX8_next sv_rV res) : ∀ (n : Nat) (x1 : Int32) (x2 : Int32) (σ : sv_S), f_Ta_next_93 n x1 x2 σ = some res → sv_T Γ 93 [some (.inr (.inr (some (8, 0)))), some (.inl x1), some (.inl x2)] [] σ := by
  intro n
  induction n with
  | zero =>
    intro x1 x2 σ h
    rw [f_Ta_next_93.eq_1] at h
    cases h
  | succ n ih =>
    intro x1 x2 σ h
    refine sv_run X d_Ta_next (K := kk_Ta_next_93 n) (sv_lk_all (P := fun pc (k : sv_Lo → List sv_V → sv_S → Option (sv_S)) => ∀ lo st σ, k lo st σ = some res → sv_T Γ pc lo st σ) ?_) _ _ _ _ _ ((e_Ta_next_93 n x1 x2 σ).trans h)
    clear h
    refine List.forall_mem_cons.mpr ⟨fun lo st σ h => ?_, List.forall_mem_cons.mpr ⟨fun lo st σ h => ?_, fun _ h => absurd h List.not_mem_nil⟩⟩
    · dsimp only at h
      split at h
      · exact ih _ _ _ h
      · cases h
    · dsimp only at h
      split at h
      · exact w_Ta_next_241 X _ _ _ h
      · cases h

set_option maxRecDepth 20000 in
theorem w_Ta_next_52 {Γ : sv_Ga} {res : sv_S} (X : sv_Ok Γ ev_Ta_next cX8_next sv_rV res) : ∀ (x1 : Int32) (x2 : Int32) (σ : sv_S), f_Ta_next_52 x1 x2 σ = some res → sv_T Γ 52 [some (.inr (.inr (some (8, 0)))), some (.inl x1), some (.inl x2)] [] σ := by
  intro x1 x2 σ h
  refine sv_run X d_Ta_next (K := kk_Ta_next_52) (sv_lk_all (P := fun pc (k : sv_Lo → List sv_V → sv_S → Option (sv_S)) => ∀ lo st σ, k lo st σ = some res → sv_T Γ pc lo st σ) ?_) _ _ _ _ _ ((e_Ta_next_52 x1 x2 σ).trans h)
  clear h
  refine List.forall_mem_cons.mpr ⟨fun lo st σ h => ?_, List.forall_mem_cons.mpr ⟨fun lo st σ h => ?_, List.forall_mem_cons.mpr ⟨fun lo st σ h => ?_, fun _ h => absurd h List.not_mem_nil⟩⟩⟩
  · dsimp only at h
    split at h
    · exact w_Ta_next_93 X _ _ _ _ h
    · cases h
  · dsimp only at h
    split at h
    · exact w_Ta_next_154 X _ _ _ _ h
    · cases h
  · dsimp only at h
    split at h
    · exact w_Ta_next_241 X _ _ _ h
    · cases h

set_option maxRecDepth 20000 in
theorem w_Ta_next_15 {Γ : sv_Ga} {res : sv_S} (X : sv_Ok Γ ev_Ta_next cX8_next sv_rV res) : ∀ (n : Nat) (x1 : Int32) (x2 : Int32) (σ : sv_S), f_Ta_next_15 n x1 x2 σ = some res → sv_T Γ 15 [some (.inr (.inr (some (8, 0)))), some (.inl x1), some (.inl x2)] [] σ := by
  intro n
  induction n with
  | zero =>
    intro x1 x2 σ h
    rw [f_Ta_next_15.eq_1] at h
    cases h
  | succ n ih =>
    intro x1 x2 σ h
    refine sv_run X d_Ta_next (K := kk_Ta_next_15 n) (sv_lk_all (P := fun pc (k : sv_Lo → List sv_V → sv_S → Option (sv_S)) => ∀ lo st σ, k lo st σ = some res → sv_T Γ pc lo st σ) ?_) _ _ _ _ _ ((e_Ta_next_15 n x1 x2 σ).trans h)
    clear h
    refine List.forall_mem_cons.mpr ⟨fun lo st σ h => ?_, List.forall_mem_cons.mpr ⟨fun lo st σ h => ?_, fun _ h => absurd h List.not_mem_nil⟩⟩
    · dsimp only at h
      split at h
      · exact ih _ _ _ h
      · cases h
    · dsimp only at h
      split at h
      · exact w_Ta_next_52 X _ _ _ h
      · cases h

set_option maxRecDepth 20000 in
theorem b_Ta_next (Γ : sv_Ga) (res : sv_S) (X : sv_Ok Γ ev_Ta_next cX8_next sv_rV res) (as : List sv_V) (σ : sv_S) (h : n_Ta_next as σ = some res) : sv_T Γ 0 (sv_e0 3 as) [] σ := by
  unfold n_Ta_next at h
  split at h
  · refine sv_run X d_Ta_next (K := kk_Ta_next) (sv_lk_all (P := fun pc (k : sv_Lo → List sv_V → sv_S → Option (sv_S)) => ∀ lo st σ, k lo st σ = some res → sv_T Γ pc lo st σ) ?_) _ _ _ _ _ ((e_Ta_next _).trans h)
    clear h
    refine List.forall_mem_cons.mpr ⟨fun lo st σ h => ?_, fun _ h => absurd h List.not_mem_nil⟩
    · dsimp only at h
      split at h
      · exact w_Ta_next_15 X _ _ _ _ h
      · cases h
  · cases h
theorem a_Ta_next (as : List sv_V) (σ : sv_S) (x : sv_S) (h : n_Ta_next as σ = some x) : sv_args 3 ev_Ta_next.2.2.2.1 as := by
  unfold n_Ta_next at h
  split at h
  · exact ⟨Nat.le_of_ble_eq_true rfl, fun _ v hv => by
      simp only [List.mem_cons, List.not_mem_nil, or_false] at hv
      rcases hv with rfl <;> trivial⟩
  · cases h
theorem g_Ta_next (as : List sv_V) (σ : sv_S) (x : Option sv_V × sv_S) (h : sv_gV n_Ta_next as σ = some x) : ∃ r i as', as = sv_R r i :: as' ∧ sv_kd r i = .inl 8 := by
  obtain ⟨_, h, -⟩ := sv_b0_some h
  unfold n_Ta_next at h
  split at h
  · exact ⟨_, _, _, rfl, rfl⟩
  · cases h
theorem tw_685 : Cond.methodLink RX8 111 yX8_isWord ∈ gw_tbl := gw_at 685 (by decide +kernel) rfl
theorem tw_686 : Cond.instanceMethod yX8_isWord ∈ gw_tbl := gw_at 686 (by decide +kernel) rfl
theorem tw_687 : Cond.selects RX8 yX8_isWord yX8_isWord ∈ gw_tbl := gw_at 687 (by decide +kernel) rfl
theorem tw_688 : Cond.code yX8_isWord cX8_isWord 1 (some .boolean) ∈ gw_tbl := gw_at 688 (by decide +kernel) rfl
theorem tw_693 : Cond.methodLink RX8 114 yX8_isLetter ∈ gw_tbl := gw_at 693 (by decide +kernel) rfl
theorem tw_694 : Cond.static yX8_isLetter ∈ gw_tbl := gw_at 694 (by decide +kernel) rfl
theorem tw_695 : Cond.code yX8_isLetter cX8_isLetter 1 (some .boolean) ∈ gw_tbl := gw_at 695 (by decide +kernel) rfl
theorem tw_696 : Cond.methodLink RX8 117 yX8_isDigit ∈ gw_tbl := gw_at 696 (by decide +kernel) rfl
theorem tw_697 : Cond.static yX8_isDigit ∈ gw_tbl := gw_at 697 (by decide +kernel) rfl
theorem tw_698 : Cond.code yX8_isDigit cX8_isDigit 1 (some .boolean) ∈ gw_tbl := gw_at 698 (by decide +kernel) rfl
set_option maxRecDepth 20000 in
theorem m_Ta_next (l : Launch) : sv_M l yX8_next cX8_next 3 none (sv_gV n_Ta_next) 1 := by
  refine sv_mV (E := ev_Ta_next) (by decide +kernel) (ln_gen fk_8 kk_8 (sv_ns _ (fun _ => rfl) _)) rfl ?_ a_Ta_next b_Ta_next
  intro p e R s m args below meth c cells slots Q base ad dC dI cA n0 S hkn hR hf pc n f hcs
  refine sv_lk_all (P := fun pc (x : Nat × sv_F) => sv_cok p l e R s m args below meth c cells slots Q base ad dC dI cA true 3 n0 pc x.1 x.2) ?_ pc (n, f) hcs
  exact List.forall_mem_cons.mpr ⟨(sv_cV S hkn (m_Ta_isWord l) ⟨Nat.le_trans (by decide) hR.1, Nat.le_trans (by decide) hR.2⟩ (by decide) hf rfl (g_Ta_isWord) (sv_w5 tw_685 tw_686 tw_687 tw_63 tw_688) (by decide +kernel) (sv_dc3 d_Ta_next (pc := 6) rfl rfl)).I,
      List.forall_mem_cons.mpr ⟨(sv_cV S hkn (m_Ta_byteAt l) ⟨Nat.le_trans (by decide) hR.1, Nat.le_trans (by decide) hR.2⟩ (by decide) hf rfl (g_Ta_byteAt) (sv_w5 tw_689 tw_690 tw_691 tw_63 tw_692) (by decide +kernel) (sv_dc3 d_Ta_next (pc := 31) rfl rfl)).I,
      List.forall_mem_cons.mpr ⟨(sv_cV S hkn (m_Ta_byteAt l) ⟨Nat.le_trans (by decide) hR.1, Nat.le_trans (by decide) hR.2⟩ (by decide) hf rfl (g_Ta_byteAt) (sv_w5 tw_689 tw_690 tw_691 tw_63 tw_692) (by decide +kernel) (sv_dc3 d_Ta_next (pc := 84) rfl rfl)).I,
      List.forall_mem_cons.mpr ⟨(sv_cS S hkn (m_Ta_isLetter l) ⟨Nat.le_trans (by decide) hR.1, Nat.le_trans (by decide) hR.2⟩ (by decide) hf (sv_w4 tw_693 tw_694 tw_63 tw_695) (by decide +kernel) (sv_dc3 d_Ta_next (pc := 87) rfl rfl)).I,
      List.forall_mem_cons.mpr ⟨(sv_cV S hkn (m_Ta_byteAt l) ⟨Nat.le_trans (by decide) hR.1, Nat.le_trans (by decide) hR.2⟩ (by decide) hf rfl (g_Ta_byteAt) (sv_w5 tw_689 tw_690 tw_691 tw_63 tw_692) (by decide +kernel) (sv_dc3 d_Ta_next (pc := 109) rfl rfl)).I,
      List.forall_mem_cons.mpr ⟨(sv_cS S hkn (m_Ta_isLetter l) ⟨Nat.le_trans (by decide) hR.1, Nat.le_trans (by decide) hR.2⟩ (by decide) hf (sv_w4 tw_693 tw_694 tw_63 tw_695) (by decide +kernel) (sv_dc3 d_Ta_next (pc := 112) rfl rfl)).I,
      List.forall_mem_cons.mpr ⟨(sv_cV S hkn (m_Ta_byteAt l) ⟨Nat.le_trans (by decide) hR.1, Nat.le_trans (by decide) hR.2⟩ (by decide) hf rfl (g_Ta_byteAt) (sv_w5 tw_689 tw_690 tw_691 tw_63 tw_692) (by decide +kernel) (sv_dc3 d_Ta_next (pc := 145) rfl rfl)).I,
      List.forall_mem_cons.mpr ⟨(sv_cS S hkn (m_Ta_isDigit l) ⟨Nat.le_trans (by decide) hR.1, Nat.le_trans (by decide) hR.2⟩ (by decide) hf (sv_w4 tw_696 tw_697 tw_63 tw_698) (by decide +kernel) (sv_dc3 d_Ta_next (pc := 148) rfl rfl)).I,
      List.forall_mem_cons.mpr ⟨(sv_cV S hkn (m_Ta_byteAt l) ⟨Nat.le_trans (by decide) hR.1, Nat.le_trans (by decide) hR.2⟩ (by decide) hf rfl (g_Ta_byteAt) (sv_w5 tw_689 tw_690 tw_691 tw_63 tw_692) (by decide +kernel) (sv_dc3 d_Ta_next (pc := 170) rfl rfl)).I,
      List.forall_mem_cons.mpr ⟨(sv_cS S hkn (m_Ta_isDigit l) ⟨Nat.le_trans (by decide) hR.1, Nat.le_trans (by decide) hR.2⟩ (by decide) hf (sv_w4 tw_696 tw_697 tw_63 tw_698) (by decide +kernel) (sv_dc3 d_Ta_next (pc := 173) rfl rfl)).I,
      List.forall_mem_cons.mpr ⟨(sv_cV S hkn (m_Ta_byteAt l) ⟨Nat.le_trans (by decide) hR.1, Nat.le_trans (by decide) hR.2⟩ (by decide) hf rfl (g_Ta_byteAt) (sv_w5 tw_689 tw_690 tw_691 tw_63 tw_692) (by decide +kernel) (sv_dc3 d_Ta_next (pc := 225) rfl rfl)).I,
      List.forall_mem_cons.mpr ⟨(sv_cV S hkn (m_Ta_isWord l) ⟨Nat.le_trans (by decide) hR.1, Nat.le_trans (by decide) hR.2⟩ (by decide) hf rfl (g_Ta_isWord) (sv_w5 tw_685 tw_686 tw_687 tw_63 tw_688) (by decide +kernel) (sv_dc3 d_Ta_next (pc := 254) rfl rfl)).I,
      fun _ h => absurd h List.not_mem_nil⟩⟩⟩⟩⟩⟩⟩⟩⟩⟩⟩⟩
noncomputable def f_Ta_write (a1 : Int32) (σ : sv_S) : Option (sv_S) :=
  sv_if ((96 : Int32) ≤ (σ 8 0 7))
    (some σ)
    (sv_g (sv_in (σ 8 0 7) 96) (let σ1 := sv_up (sv_up σ 10 0 ((σ 8 0 7).toNatClampNeg) a1) 8 0 7 (((sv_up σ 10 0 ((σ 8 0 7).toNatClampNeg) a1) 8 0 7) + (1 : Int32))
    some σ1))
noncomputable def n_Ta_write : List sv_V → sv_S → Option (sv_S)
  | [.inr (.inr (some (8, 0))), .inl a1], σ => f_Ta_write a1 σ
  | _, _ => none
def cd_Ta_write : sv_C := [(0, (.aload_n 0, (sv_N, (1, (0, []))))), (1, (.getfield 31, (sv_N, (4, (0, []))))), (4, (.bipush 96, (.inl (96 : Int32), (6, (0, []))))), (6, (.if_icmp .ge 23, (sv_N, (9, (29, []))))), (9, (.aload_n 0, (sv_N, (10, (0, []))))), (10, (.getfield 15, (sv_N, (13, (0, []))))), (13, (.aload_n 0, (sv_N, (14, (0, []))))), (14, (.getfield 31, (sv_N, (17, (0, []))))), (17, (.iload_n 1, (sv_N, (18, (0, []))))), (18, (.iastore, (sv_N, (19, (0, []))))), (19, (.aload_n 0, (sv_N, (20, (0, []))))), (20, (.dup, (sv_N, (21, (0, []))))), (21, (.getfield 31, (sv_N, (24, (0, []))))), (24, (.iconst 1, (.inl (1 : Int32), (25, (0, []))))), (25, (.iadd, (sv_N, (26, (0, []))))), (26, (.putfield 31, (sv_N, (29, (0, []))))), (29, (.return_, (sv_N, (30, (0, [])))))]
noncomputable def ev_Ta_write : sv_E := (fun i => sv_lk i fl_8, (fun i => sv_lk i kc_8, (fun _ => 0, (true, (fun pc => sv_lk pc [], none)))))
noncomputable def kk_Ta_write : sv_K (sv_S) := fun pc => sv_lk pc []
set_option maxRecDepth 20000 in
theorem e_Ta_write (a1 : Int32) (σ : sv_S) : sv_ex ev_Ta_write sv_rV kk_Ta_write cd_Ta_write 19 0 [some (.inr (.inr (some (8, 0)))), some (.inl a1)] [] σ = f_Ta_write a1 σ := by
  unfold f_Ta_write
  delta ev_Ta_write kk_Ta_write
  rfl
theorem d_Ta_write : cd_Ta_write.all (sv_dk cX8_write) = true := by decide +kernel
set_option maxRecDepth 20000 in
theorem b_Ta_write (Γ : sv_Ga) (res : sv_S) (X : sv_Ok Γ ev_Ta_write cX8_write sv_rV res) (as : List sv_V) (σ : sv_S) (h : n_Ta_write as σ = some res) : sv_T Γ 0 (sv_e0 2 as) [] σ := by
  unfold n_Ta_write at h
  split at h
  · refine sv_run X d_Ta_write (K := kk_Ta_write) (sv_lk_all (P := fun pc (k : sv_Lo → List sv_V → sv_S → Option (sv_S)) => ∀ lo st σ, k lo st σ = some res → sv_T Γ pc lo st σ) ?_) _ _ _ _ _ ((e_Ta_write _ _).trans h)
    clear h
    exact fun _ h => absurd h List.not_mem_nil
  · cases h
theorem a_Ta_write (as : List sv_V) (σ : sv_S) (x : sv_S) (h : n_Ta_write as σ = some x) : sv_args 2 ev_Ta_write.2.2.2.1 as := by
  unfold n_Ta_write at h
  split at h
  · exact ⟨Nat.le_of_ble_eq_true rfl, fun _ v hv => by
      simp only [List.mem_cons, List.not_mem_nil, or_false] at hv
      rcases hv with rfl | rfl <;> trivial⟩
  · cases h
theorem g_Ta_write (as : List sv_V) (σ : sv_S) (x : Option sv_V × sv_S) (h : sv_gV n_Ta_write as σ = some x) : ∃ r i as', as = sv_R r i :: as' ∧ sv_kd r i = .inl 8 := by
  obtain ⟨_, h, -⟩ := sv_b0_some h
  unfold n_Ta_write at h
  split at h
  · exact ⟨_, _, _, rfl, rfl⟩
  · cases h

set_option maxRecDepth 20000 in
theorem m_Ta_write (l : Launch) : sv_M l yX8_write cX8_write 2 none (sv_gV n_Ta_write) 0 := by
  refine sv_mV (E := ev_Ta_write) (by decide +kernel) (ln_gen fk_8 kk_8 (sv_ns _ (fun _ => rfl) _)) rfl ?_ a_Ta_write b_Ta_write
  intro p e R s m args below meth c cells slots Q base ad dC dI cA n0 S hkn hR hf pc n f hcs
  refine sv_lk_all (P := fun pc (x : Nat × sv_F) => sv_cok p l e R s m args below meth c cells slots Q base ad dC dI cA true 2 n0 pc x.1 x.2) ?_ pc (n, f) hcs
  exact fun _ h => absurd h List.not_mem_nil
noncomputable def f_Ta_takes (a1 : Int32) (σ : sv_S) : Option (Int32 × sv_S) :=
  sv_b0 (f_Ta_write a1 σ) (fun σ1 =>
    let σ2 := sv_up σ1 8 0 6 ((σ1 8 0 6) + (1 : Int32))
    sv_b0 (f_Ta_next σ2) (fun σ3 =>
      sv_g ((1 : Int32) = 0 ∨ (1 : Int32) = 1) (some ((1 : Int32), σ3))))
noncomputable def n_Ta_takes : List sv_V → sv_S → Option (Int32 × sv_S)
  | [.inr (.inr (some (8, 0))), .inl a1], σ => f_Ta_takes a1 σ
  | _, _ => none
def cd_Ta_takes : sv_C := [(0, (.aload_n 0, (sv_N, (1, (0, []))))), (1, (.iload_n 1, (sv_N, (2, (0, []))))), (2, (.invokevirtual 91, (sv_N, (5, (0, []))))), (5, (.aload_n 0, (sv_N, (6, (0, []))))), (6, (.dup, (sv_N, (7, (0, []))))), (7, (.getfield 28, (sv_N, (10, (0, []))))), (10, (.iconst 1, (.inl (1 : Int32), (11, (0, []))))), (11, (.iadd, (sv_N, (12, (0, []))))), (12, (.putfield 28, (sv_N, (15, (0, []))))), (15, (.aload_n 0, (sv_N, (16, (0, []))))), (16, (.invokevirtual 49, (sv_N, (19, (0, []))))), (19, (.iconst 1, (.inl (1 : Int32), (20, (0, []))))), (20, (.ireturn, (sv_N, (21, (0, [])))))]
noncomputable def ev_Ta_takes : sv_E := (fun i => sv_lk i fl_8, (fun i => sv_lk i kc_8, (fun _ => 0, (true, (fun pc => sv_lk pc [(2, (2, .inr (.inl n_Ta_write))), (16, (1, .inr (.inl n_Ta_next)))], none)))))
noncomputable def kk_Ta_takes : sv_K (Int32 × sv_S) := fun pc => sv_lk pc []
set_option maxRecDepth 20000 in
theorem e_Ta_takes (a1 : Int32) (σ : sv_S) : sv_ex ev_Ta_takes sv_rZ kk_Ta_takes cd_Ta_takes 15 0 [some (.inr (.inr (some (8, 0)))), some (.inl a1)] [] σ = f_Ta_takes a1 σ := by
  unfold f_Ta_takes
  delta ev_Ta_takes kk_Ta_takes n_Ta_write n_Ta_next
  generalize f_Ta_write = c0
  generalize f_Ta_next = c1
  rfl
theorem d_Ta_takes : cd_Ta_takes.all (sv_dk cX8_takes) = true := by decide +kernel
set_option maxRecDepth 20000 in
theorem b_Ta_takes (Γ : sv_Ga) (res : Int32 × sv_S) (X : sv_Ok Γ ev_Ta_takes cX8_takes sv_rZ res) (as : List sv_V) (σ : sv_S) (h : n_Ta_takes as σ = some res) : sv_T Γ 0 (sv_e0 2 as) [] σ := by
  unfold n_Ta_takes at h
  split at h
  · refine sv_run X d_Ta_takes (K := kk_Ta_takes) (sv_lk_all (P := fun pc (k : sv_Lo → List sv_V → sv_S → Option (Int32 × sv_S)) => ∀ lo st σ, k lo st σ = some res → sv_T Γ pc lo st σ) ?_) _ _ _ _ _ ((e_Ta_takes _ _).trans h)
    clear h
    exact fun _ h => absurd h List.not_mem_nil
  · cases h
theorem a_Ta_takes (as : List sv_V) (σ : sv_S) (x : Int32 × sv_S) (h : n_Ta_takes as σ = some x) : sv_args 2 ev_Ta_takes.2.2.2.1 as := by
  unfold n_Ta_takes at h
  split at h
  · exact ⟨Nat.le_of_ble_eq_true rfl, fun _ v hv => by
      simp only [List.mem_cons, List.not_mem_nil, or_false] at hv
      rcases hv with rfl | rfl <;> trivial⟩
  · cases h
theorem g_Ta_takes (as : List sv_V) (σ : sv_S) (x : Option sv_V × sv_S) (h : sv_gI n_Ta_takes as σ = some x) : ∃ r i as', as = sv_R r i :: as' ∧ sv_kd r i = .inl 8 := by
  obtain ⟨_, _, h, -⟩ := sv_b_some h
  unfold n_Ta_takes at h
  split at h
  · exact ⟨_, _, _, rfl, rfl⟩
  · cases h
theorem tw_681 : Cond.methodLink RX8 49 yX8_next ∈ gw_tbl := gw_at 681 (by decide +kernel) rfl
theorem tw_682 : Cond.instanceMethod yX8_next ∈ gw_tbl := gw_at 682 (by decide +kernel) rfl
theorem tw_683 : Cond.selects RX8 yX8_next yX8_next ∈ gw_tbl := gw_at 683 (by decide +kernel) rfl
theorem tw_684 : Cond.code yX8_next cX8_next 3 none ∈ gw_tbl := gw_at 684 (by decide +kernel) rfl
theorem tw_777 : Cond.methodLink RX8 91 yX8_write ∈ gw_tbl := gw_at 777 (by decide +kernel) rfl
theorem tw_778 : Cond.instanceMethod yX8_write ∈ gw_tbl := gw_at 778 (by decide +kernel) rfl
theorem tw_779 : Cond.selects RX8 yX8_write yX8_write ∈ gw_tbl := gw_at 779 (by decide +kernel) rfl
theorem tw_780 : Cond.code yX8_write cX8_write 2 none ∈ gw_tbl := gw_at 780 (by decide +kernel) rfl
set_option maxRecDepth 20000 in
theorem m_Ta_takes (l : Launch) : sv_M l yX8_takes cX8_takes 2 (some .boolean) (sv_gI n_Ta_takes) 2 := by
  refine sv_mZ (E := ev_Ta_takes) (by decide +kernel) (ln_gen fk_8 kk_8 (sv_ns _ (fun _ => rfl) _)) rfl ?_ a_Ta_takes b_Ta_takes
  intro p e R s m args below meth c cells slots Q base ad dC dI cA n0 S hkn hR hf pc n f hcs
  refine sv_lk_all (P := fun pc (x : Nat × sv_F) => sv_cok p l e R s m args below meth c cells slots Q base ad dC dI cA true 2 n0 pc x.1 x.2) ?_ pc (n, f) hcs
  exact List.forall_mem_cons.mpr ⟨(sv_cV S hkn (m_Ta_write l) ⟨Nat.le_trans (by decide) hR.1, Nat.le_trans (by decide) hR.2⟩ (by decide) hf rfl (g_Ta_write) (sv_w5 tw_777 tw_778 tw_779 tw_63 tw_780) (by decide +kernel) (sv_dc3 d_Ta_takes (pc := 2) rfl rfl)).V,
      List.forall_mem_cons.mpr ⟨(sv_cV S hkn (m_Ta_next l) ⟨Nat.le_trans (by decide) hR.1, Nat.le_trans (by decide) hR.2⟩ (by decide) hf rfl (g_Ta_next) (sv_w5 tw_681 tw_682 tw_683 tw_63 tw_684) (by decide +kernel) (sv_dc3 d_Ta_takes (pc := 16) rfl rfl)).V,
      fun _ h => absurd h List.not_mem_nil⟩⟩
noncomputable def f_Te_namesOf (a0 : Int32) (σ : sv_S) : Option (Nat × sv_S) :=
  sv_if (a0.toInt = 0)
    (some (3, σ))
    (sv_if (a0.toInt = 1)
    (some (4, σ))
    (some (5, σ)))
noncomputable def n_Te_namesOf : List sv_V → sv_S → Option (Nat × sv_S)
  | [.inl a0], σ => f_Te_namesOf a0 σ
  | _, _ => none
def cd_Te_namesOf : sv_C := [(0, (.iload_n 0, (sv_N, (1, (0, []))))), (1, (.lookupswitch 33 #[(0, 27), (1, 30)], (sv_N, (1, (34, [(0, 28), (1, 31)]))))), (28, (.ldc 31, (sv_N, (30, (0, []))))), (30, (.areturn, (sv_N, (31, (0, []))))), (31, (.ldc 33, (sv_N, (33, (0, []))))), (33, (.areturn, (sv_N, (34, (0, []))))), (34, (.ldc 35, (sv_N, (36, (0, []))))), (36, (.areturn, (sv_N, (37, (0, [])))))]
noncomputable def ev_Te_namesOf : sv_E := (fun i => sv_lk i fl_9, (fun i => sv_lk i kc_9, (fun _ => 0, (true, (fun pc => sv_lk pc [], none)))))
noncomputable def kk_Te_namesOf : sv_K (Nat × sv_S) := fun pc => sv_lk pc []
set_option maxRecDepth 20000 in
theorem e_Te_namesOf (a0 : Int32) (σ : sv_S) : sv_ex ev_Te_namesOf (sv_rR 23) kk_Te_namesOf cd_Te_namesOf 10 0 [some (.inl a0)] [] σ = f_Te_namesOf a0 σ := by
  unfold f_Te_namesOf
  delta ev_Te_namesOf kk_Te_namesOf
  rfl
theorem d_Te_namesOf : cd_Te_namesOf.all (sv_dk cX9_namesOf) = true := by decide +kernel
set_option maxRecDepth 20000 in
theorem b_Te_namesOf (Γ : sv_Ga) (res : Nat × sv_S) (X : sv_Ok Γ ev_Te_namesOf cX9_namesOf (sv_rR 23) res) (as : List sv_V) (σ : sv_S) (h : n_Te_namesOf as σ = some res) : sv_T Γ 0 (sv_e0 1 as) [] σ := by
  unfold n_Te_namesOf at h
  split at h
  · refine sv_run X d_Te_namesOf (K := kk_Te_namesOf) (sv_lk_all (P := fun pc (k : sv_Lo → List sv_V → sv_S → Option (Nat × sv_S)) => ∀ lo st σ, k lo st σ = some res → sv_T Γ pc lo st σ) ?_) _ _ _ _ _ ((e_Te_namesOf _ _).trans h)
    clear h
    exact fun _ h => absurd h List.not_mem_nil
  · cases h
theorem a_Te_namesOf (as : List sv_V) (σ : sv_S) (x : Nat × sv_S) (h : n_Te_namesOf as σ = some x) : sv_args 1 ev_Te_namesOf.2.2.2.1 as := by
  unfold n_Te_namesOf at h
  split at h
  · exact ⟨Nat.le_of_ble_eq_true rfl, fun _ v hv => by
      simp only [List.mem_cons, List.not_mem_nil, or_false] at hv
      rcases hv with rfl <;> trivial⟩
  · cases h

set_option maxRecDepth 20000 in
theorem m_Te_namesOf (l : Launch) : sv_M l yX9_namesOf cX9_namesOf 1 (some (.object "java/lang/String")) (sv_gR 23 n_Te_namesOf) 0 := by
  refine sv_mR (E := ev_Te_namesOf) (by decide +kernel) (ln_gen fk_9 kk_9 (sv_ns _ (fun _ => rfl) _)) rfl ?_ a_Te_namesOf b_Te_namesOf
  intro p e R s m args below meth c cells slots Q base ad dC dI cA n0 S hkn hR hf pc n f hcs
  refine sv_lk_all (P := fun pc (x : Nat × sv_F) => sv_cok p l e R s m args below meth c cells slots Q base ad dC dI cA true 1 n0 pc x.1 x.2) ?_ pc (n, f) hcs
  exact fun _ h => absurd h List.not_mem_nil
noncomputable def f_Ta_isName_36 (y0 : Int32) (σ : sv_S) : Option (Int32 × sv_S) :=
    sv_if (y0 < 0)
      (sv_g ((0 : Int32) = 0 ∨ (0 : Int32) = 1) (some ((0 : Int32), σ)))
      (sv_b (f_Ta_takes ((10000 : Int32) + y0) σ) (fun v1 σ2 =>
        sv_if (v1 = 0)
          (sv_g ((0 : Int32) = 0 ∨ (0 : Int32) = 1) (some ((0 : Int32), σ2)))
          (sv_g ((1 : Int32) = 0 ∨ (1 : Int32) = 1) (some ((1 : Int32), σ2)))))
noncomputable def f_Ta_isName (σ : sv_S) : Option (Int32 × sv_S) :=
  sv_if (((σ 8 0 3) - (σ 8 0 2)) = (1 : Int32))
    (sv_b (f_Te_namesOf (σ 8 0 5) σ) (fun i1 σ2 =>
      sv_b (f_Ta_byteAt (σ2 8 0 2) σ2) (fun v3 σ4 =>
        sv_b (f_Js_indexOf i1 ((v3.toUInt32 % 65536).toInt32) σ4) (fun v5 σ6 =>
          f_Ta_isName_36 v5 σ6))))
    (f_Ta_isName_36 (-1 : Int32) σ)
noncomputable def n_Ta_isName : List sv_V → sv_S → Option (Int32 × sv_S)
  | [.inr (.inr (some (8, 0)))], σ => f_Ta_isName σ
  | _, _ => none
def cd_Ta_isName : sv_C := [(0, (.aload_n 0, (sv_N, (1, (0, []))))), (1, (.getfield 43, (sv_N, (4, (0, []))))), (4, (.aload_n 0, (sv_N, (5, (0, []))))), (5, (.getfield 68, (sv_N, (8, (0, []))))), (8, (.isub, (sv_N, (9, (0, []))))), (9, (.iconst 1, (.inl (1 : Int32), (10, (0, []))))), (10, (.if_icmp .ne 25, (sv_N, (13, (35, []))))), (13, (.aload_n 0, (sv_N, (14, (0, []))))), (14, (.getfield 25, (sv_N, (17, (0, []))))), (17, (.invokestatic 105, (sv_N, (20, (0, []))))), (20, (.aload_n 0, (sv_N, (21, (0, []))))), (21, (.aload_n 0, (sv_N, (22, (0, []))))), (22, (.getfield 68, (sv_N, (25, (0, []))))), (25, (.invokevirtual 76, (sv_N, (28, (0, []))))), (28, (.i2c, (sv_N, (29, (0, []))))), (29, (.invokevirtual 108, (sv_N, (32, (0, []))))), (32, (.goto 4, (sv_N, (35, (36, []))))), (35, (.iconst (-1), (.inl (-1 : Int32), (36, (0, []))))), (36, (.istore_n 1, (sv_N, (37, (0, []))))), (37, (.iload_n 1, (sv_N, (38, (0, []))))), (38, (.ifCond .lt 19, (sv_N, (41, (57, []))))), (41, (.aload_n 0, (sv_N, (42, (0, []))))), (42, (.sipush 10000, (.inl (10000 : Int32), (45, (0, []))))), (45, (.iload_n 1, (sv_N, (46, (0, []))))), (46, (.iadd, (sv_N, (47, (0, []))))), (47, (.invokevirtual 98, (sv_N, (50, (0, []))))), (50, (.ifCond .eq 7, (sv_N, (53, (57, []))))), (53, (.iconst 1, (.inl (1 : Int32), (54, (0, []))))), (54, (.goto 4, (sv_N, (57, (58, []))))), (57, (.iconst 0, (.inl (0 : Int32), (58, (0, []))))), (58, (.ireturn, (sv_N, (59, (0, [])))))]
noncomputable def ev_Ta_isName : sv_E := (fun i => sv_lk i fl_8, (fun i => sv_lk i kc_8, (fun _ => 0, (true, (fun pc => sv_lk pc [(17, (1, .inr (.inr (.inl (23, n_Te_namesOf))))), (25, (2, .inl n_Ta_byteAt)), (29, (2, .inl n_Js_indexOf)), (47, (2, .inl n_Ta_takes))], none)))))
noncomputable def kk_Ta_isName_36 : sv_K (Int32 × sv_S) := fun pc => sv_lk pc []
set_option maxRecDepth 20000 in
theorem e_Ta_isName_36 (y0 : Int32) (z1 : Option sv_V) (σ : sv_S) : sv_ex ev_Ta_isName sv_rZ (kk_Ta_isName_36) cd_Ta_isName 33 36 [some (.inr (.inr (some (8, 0)))), z1] [.inl y0] σ = f_Ta_isName_36 y0 σ := by
  unfold f_Ta_isName_36
  delta ev_Ta_isName kk_Ta_isName_36 n_Te_namesOf n_Ta_byteAt n_Js_indexOf n_Ta_takes
  generalize f_Te_namesOf = c0
  generalize f_Ta_byteAt = c1
  generalize f_Js_indexOf = c2
  generalize f_Ta_takes = c3
  rfl
noncomputable def kk_Ta_isName : sv_K (Int32 × sv_S) := fun pc => sv_lk pc [(36, fun lo st σ => match lo, st with
    | [some (.inr (.inr (some (8, 0)))), _], [.inl y0] => f_Ta_isName_36 y0 σ
    | _, _ => none)]
set_option maxRecDepth 20000 in
theorem e_Ta_isName (σ : sv_S) : sv_ex ev_Ta_isName sv_rZ kk_Ta_isName cd_Ta_isName 33 0 [some (.inr (.inr (some (8, 0)))), none] [] σ = f_Ta_isName σ := by
  unfold f_Ta_isName
  delta ev_Ta_isName kk_Ta_isName n_Te_namesOf n_Ta_byteAt n_Js_indexOf n_Ta_takes
  generalize f_Te_namesOf = c0
  generalize f_Ta_byteAt = c1
  generalize f_Js_indexOf = c2
  generalize f_Ta_takes = c3
  generalize f_Ta_isName_36 = c4
  rfl
theorem d_Ta_isName : cd_Ta_isName.all (sv_dk cX8_isName) = true := by decide +kernel
set_option maxRecDepth 20000 in
theorem w_Ta_isName_36 {Γ : sv_Ga} {res : Int32 × sv_S} (X : sv_Ok Γ ev_Ta_isName cX8_isName sv_rZ res) : ∀ (y0 : Int32) (z1 : Option sv_V) (σ : sv_S), f_Ta_isName_36 y0 σ = some res → sv_T Γ 36 [some (.inr (.inr (some (8, 0)))), z1] [.inl y0] σ := by
  intro y0 z1 σ h
  refine sv_run X d_Ta_isName (K := kk_Ta_isName_36) (sv_lk_all (P := fun pc (k : sv_Lo → List sv_V → sv_S → Option (Int32 × sv_S)) => ∀ lo st σ, k lo st σ = some res → sv_T Γ pc lo st σ) ?_) _ _ _ _ _ ((e_Ta_isName_36 y0 z1 σ).trans h)
  clear h
  exact fun _ h => absurd h List.not_mem_nil

set_option maxRecDepth 20000 in
theorem b_Ta_isName (Γ : sv_Ga) (res : Int32 × sv_S) (X : sv_Ok Γ ev_Ta_isName cX8_isName sv_rZ res) (as : List sv_V) (σ : sv_S) (h : n_Ta_isName as σ = some res) : sv_T Γ 0 (sv_e0 2 as) [] σ := by
  unfold n_Ta_isName at h
  split at h
  · refine sv_run X d_Ta_isName (K := kk_Ta_isName) (sv_lk_all (P := fun pc (k : sv_Lo → List sv_V → sv_S → Option (Int32 × sv_S)) => ∀ lo st σ, k lo st σ = some res → sv_T Γ pc lo st σ) ?_) _ _ _ _ _ ((e_Ta_isName _).trans h)
    clear h
    refine List.forall_mem_cons.mpr ⟨fun lo st σ h => ?_, fun _ h => absurd h List.not_mem_nil⟩
    · dsimp only at h
      split at h
      · exact w_Ta_isName_36 X _ _ _ h
      · cases h
  · cases h
theorem a_Ta_isName (as : List sv_V) (σ : sv_S) (x : Int32 × sv_S) (h : n_Ta_isName as σ = some x) : sv_args 2 ev_Ta_isName.2.2.2.1 as := by
  unfold n_Ta_isName at h
  split at h
  · exact ⟨Nat.le_of_ble_eq_true rfl, fun _ v hv => by
      simp only [List.mem_cons, List.not_mem_nil, or_false] at hv
      rcases hv with rfl <;> trivial⟩
  · cases h
theorem g_Ta_isName (as : List sv_V) (σ : sv_S) (x : Option sv_V × sv_S) (h : sv_gI n_Ta_isName as σ = some x) : ∃ r i as', as = sv_R r i :: as' ∧ sv_kd r i = .inl 8 := by
  obtain ⟨_, _, h, -⟩ := sv_b_some h
  unfold n_Ta_isName at h
  split at h
  · exact ⟨_, _, _, rfl, rfl⟩
  · cases h
theorem tw_773 : Cond.methodLink RX8 98 yX8_takes ∈ gw_tbl := gw_at 773 (by decide +kernel) rfl
theorem tw_774 : Cond.instanceMethod yX8_takes ∈ gw_tbl := gw_at 774 (by decide +kernel) rfl
theorem tw_775 : Cond.selects RX8 yX8_takes yX8_takes ∈ gw_tbl := gw_at 775 (by decide +kernel) rfl
theorem tw_776 : Cond.code yX8_takes cX8_takes 2 (some .boolean) ∈ gw_tbl := gw_at 776 (by decide +kernel) rfl
theorem tw_785 : Cond.methodLink RX8 105 yX9_namesOf ∈ gw_tbl := gw_at 785 (by decide +kernel) rfl
theorem tw_786 : Cond.static yX9_namesOf ∈ gw_tbl := gw_at 786 (by decide +kernel) rfl
theorem tw_787 : Cond.code yX9_namesOf cX9_namesOf 1 (some (.object "java/lang/String")) ∈ gw_tbl := gw_at 787 (by decide +kernel) rfl
theorem tw_791 : Cond.methodLink RX8 108 yJ0_indexOf_0f7a4 ∈ gw_tbl := gw_at 791 (by decide +kernel) rfl
theorem tw_792 : Cond.instanceMethod yJ0_indexOf_0f7a4 ∈ gw_tbl := gw_at 792 (by decide +kernel) rfl
theorem tw_793 : Cond.selects RJ0 yJ0_indexOf_0f7a4 yJ0_indexOf_0f7a4 ∈ gw_tbl := gw_at 793 (by decide +kernel) rfl
theorem tw_794 : Cond.code yJ0_indexOf_0f7a4 cJ0_indexOf_0f7a4 2 (some .int) ∈ gw_tbl := gw_at 794 (by decide +kernel) rfl
set_option maxRecDepth 20000 in
theorem m_Ta_isName (l : Launch) : sv_M l yX8_isName cX8_isName 2 (some .boolean) (sv_gI n_Ta_isName) 4 := by
  refine sv_mZ (E := ev_Ta_isName) (by decide +kernel) (ln_gen fk_8 kk_8 (sv_ns _ (fun _ => rfl) _)) rfl ?_ a_Ta_isName b_Ta_isName
  intro p e R s m args below meth c cells slots Q base ad dC dI cA n0 S hkn hR hf pc n f hcs
  refine sv_lk_all (P := fun pc (x : Nat × sv_F) => sv_cok p l e R s m args below meth c cells slots Q base ad dC dI cA true 2 n0 pc x.1 x.2) ?_ pc (n, f) hcs
  exact List.forall_mem_cons.mpr ⟨(sv_cS S hkn (m_Te_namesOf l) ⟨Nat.le_trans (by decide) hR.1, Nat.le_trans (by decide) hR.2⟩ (by decide) hf (sv_w4 tw_785 tw_786 tw_67 tw_787) (by decide +kernel) (sv_dc3 d_Ta_isName (pc := 17) rfl rfl)).Rf,
      List.forall_mem_cons.mpr ⟨(sv_cV S hkn (m_Ta_byteAt l) ⟨Nat.le_trans (by decide) hR.1, Nat.le_trans (by decide) hR.2⟩ (by decide) hf rfl (g_Ta_byteAt) (sv_w5 tw_689 tw_690 tw_691 tw_63 tw_692) (by decide +kernel) (sv_dc3 d_Ta_isName (pc := 25) rfl rfl)).I,
      List.forall_mem_cons.mpr ⟨(sv_cJ S hkn (m_Js_indexOf l) ⟨Nat.le_trans (by decide) hR.1, Nat.le_trans (by decide) hR.2⟩ (by decide) hf gj_indexOf (sv_w5 tw_791 tw_792 tw_793 tw_69 tw_794) (by decide +kernel) (sv_dc3 d_Ta_isName (pc := 29) rfl rfl)).I,
      List.forall_mem_cons.mpr ⟨(sv_cV S hkn (m_Ta_takes l) ⟨Nat.le_trans (by decide) hR.1, Nat.le_trans (by decide) hR.2⟩ (by decide) hf rfl (g_Ta_takes) (sv_w5 tw_773 tw_774 tw_775 tw_63 tw_776) (by decide +kernel) (sv_dc3 d_Ta_isName (pc := 47) rfl rfl)).I,
      fun _ h => absurd h List.not_mem_nil⟩⟩⟩⟩
noncomputable def f_Ta_number_7 : Nat → Int32 → Int32 → sv_S → Option (Int32 × sv_S)
  | 0, _, _, _ => none
  | n + 1, x1, x2, σ =>
    sv_if ((σ 8 0 3) ≤ x2)
      (some (x1, σ))
      (sv_b (f_Ta_byteAt x2 σ) (fun v1 σ2 =>
        f_Ta_number_7 n (((x1 * (10 : Int32)) + v1) - (48 : Int32)) (x2 + (1 : Int32)) σ2))
noncomputable def f_Ta_number (σ : sv_S) : Option (Int32 × sv_S) :=
  f_Ta_number_7 sv_fu (0 : Int32) (σ 8 0 2) σ
noncomputable def n_Ta_number : List sv_V → sv_S → Option (Int32 × sv_S)
  | [.inr (.inr (some (8, 0)))], σ => f_Ta_number σ
  | _, _ => none
def cd_Ta_number : sv_C := [(0, (.iconst 0, (.inl (0 : Int32), (1, (0, []))))), (1, (.istore_n 1, (sv_N, (2, (0, []))))), (2, (.aload_n 0, (sv_N, (3, (0, []))))), (3, (.getfield 68, (sv_N, (6, (0, []))))), (6, (.istore_n 2, (sv_N, (7, (0, []))))), (7, (.iload_n 2, (sv_N, (8, (0, []))))), (8, (.aload_n 0, (sv_N, (9, (0, []))))), (9, (.getfield 43, (sv_N, (12, (0, []))))), (12, (.if_icmp .ge 23, (sv_N, (15, (35, []))))), (15, (.iload_n 1, (sv_N, (16, (0, []))))), (16, (.bipush 10, (.inl (10 : Int32), (18, (0, []))))), (18, (.imul, (sv_N, (19, (0, []))))), (19, (.aload_n 0, (sv_N, (20, (0, []))))), (20, (.iload_n 2, (sv_N, (21, (0, []))))), (21, (.invokevirtual 76, (sv_N, (24, (0, []))))), (24, (.iadd, (sv_N, (25, (0, []))))), (25, (.bipush 48, (.inl (48 : Int32), (27, (0, []))))), (27, (.isub, (sv_N, (28, (0, []))))), (28, (.istore_n 1, (sv_N, (29, (0, []))))), (29, (.iinc 2 1, (.inl (1 : Int32), (32, (0, []))))), (32, (.goto (-25), (sv_N, (35, (7, []))))), (35, (.iload_n 1, (sv_N, (36, (0, []))))), (36, (.ireturn, (sv_N, (37, (0, [])))))]
noncomputable def ev_Ta_number : sv_E := (fun i => sv_lk i fl_8, (fun i => sv_lk i kc_8, (fun _ => 0, (true, (fun pc => sv_lk pc [(21, (2, .inl n_Ta_byteAt))], none)))))
noncomputable def kk_Ta_number_7 (n : Nat) : sv_K (Int32 × sv_S) := fun pc => sv_lk pc [(7, fun lo st σ => match lo, st with
    | [some (.inr (.inr (some (8, 0)))), some (.inl x1), some (.inl x2)], [] => f_Ta_number_7 n x1 x2 σ
    | _, _ => none)]
set_option maxRecDepth 20000 in
theorem e_Ta_number_7 (n : Nat) (x1 : Int32) (x2 : Int32) (σ : sv_S) : sv_ex ev_Ta_number sv_rI (kk_Ta_number_7 n) cd_Ta_number 25 7 [some (.inr (.inr (some (8, 0)))), some (.inl x1), some (.inl x2)] [] σ = f_Ta_number_7 (n + 1) x1 x2 σ := by
  rw [f_Ta_number_7.eq_2]
  delta ev_Ta_number kk_Ta_number_7 n_Ta_byteAt
  generalize f_Ta_byteAt = c0
  generalize f_Ta_number_7 = c1
  rfl
noncomputable def kk_Ta_number : sv_K (Int32 × sv_S) := fun pc => sv_lk pc [(7, fun lo st σ => match lo, st with
    | [some (.inr (.inr (some (8, 0)))), some (.inl x1), some (.inl x2)], [] => f_Ta_number_7 sv_fu x1 x2 σ
    | _, _ => none)]
set_option maxRecDepth 20000 in
theorem e_Ta_number (σ : sv_S) : sv_ex ev_Ta_number sv_rI kk_Ta_number cd_Ta_number 25 0 [some (.inr (.inr (some (8, 0)))), none, none] [] σ = f_Ta_number σ := by
  unfold f_Ta_number
  delta ev_Ta_number kk_Ta_number n_Ta_byteAt
  generalize f_Ta_byteAt = c0
  generalize f_Ta_number_7 = c1
  rfl
theorem d_Ta_number : cd_Ta_number.all (sv_dk cX8_number) = true := by decide +kernel
set_option maxRecDepth 20000 in
theorem w_Ta_number_7 {Γ : sv_Ga} {res : Int32 × sv_S} (X : sv_Ok Γ ev_Ta_number cX8_number sv_rI res) : ∀ (n : Nat) (x1 : Int32) (x2 : Int32) (σ : sv_S), f_Ta_number_7 n x1 x2 σ = some res → sv_T Γ 7 [some (.inr (.inr (some (8, 0)))), some (.inl x1), some (.inl x2)] [] σ := by
  intro n
  induction n with
  | zero =>
    intro x1 x2 σ h
    rw [f_Ta_number_7.eq_1] at h
    cases h
  | succ n ih =>
    intro x1 x2 σ h
    refine sv_run X d_Ta_number (K := kk_Ta_number_7 n) (sv_lk_all (P := fun pc (k : sv_Lo → List sv_V → sv_S → Option (Int32 × sv_S)) => ∀ lo st σ, k lo st σ = some res → sv_T Γ pc lo st σ) ?_) _ _ _ _ _ ((e_Ta_number_7 n x1 x2 σ).trans h)
    clear h
    refine List.forall_mem_cons.mpr ⟨fun lo st σ h => ?_, fun _ h => absurd h List.not_mem_nil⟩
    · dsimp only at h
      split at h
      · exact ih _ _ _ h
      · cases h

set_option maxRecDepth 20000 in
theorem b_Ta_number (Γ : sv_Ga) (res : Int32 × sv_S) (X : sv_Ok Γ ev_Ta_number cX8_number sv_rI res) (as : List sv_V) (σ : sv_S) (h : n_Ta_number as σ = some res) : sv_T Γ 0 (sv_e0 3 as) [] σ := by
  unfold n_Ta_number at h
  split at h
  · refine sv_run X d_Ta_number (K := kk_Ta_number) (sv_lk_all (P := fun pc (k : sv_Lo → List sv_V → sv_S → Option (Int32 × sv_S)) => ∀ lo st σ, k lo st σ = some res → sv_T Γ pc lo st σ) ?_) _ _ _ _ _ ((e_Ta_number _).trans h)
    clear h
    refine List.forall_mem_cons.mpr ⟨fun lo st σ h => ?_, fun _ h => absurd h List.not_mem_nil⟩
    · dsimp only at h
      split at h
      · exact w_Ta_number_7 X _ _ _ _ h
      · cases h
  · cases h
theorem a_Ta_number (as : List sv_V) (σ : sv_S) (x : Int32 × sv_S) (h : n_Ta_number as σ = some x) : sv_args 3 ev_Ta_number.2.2.2.1 as := by
  unfold n_Ta_number at h
  split at h
  · exact ⟨Nat.le_of_ble_eq_true rfl, fun _ v hv => by
      simp only [List.mem_cons, List.not_mem_nil, or_false] at hv
      rcases hv with rfl <;> trivial⟩
  · cases h
theorem g_Ta_number (as : List sv_V) (σ : sv_S) (x : Option sv_V × sv_S) (h : sv_gI n_Ta_number as σ = some x) : ∃ r i as', as = sv_R r i :: as' ∧ sv_kd r i = .inl 8 := by
  obtain ⟨_, _, h, -⟩ := sv_b_some h
  unfold n_Ta_number at h
  split at h
  · exact ⟨_, _, _, rfl, rfl⟩
  · cases h

set_option maxRecDepth 20000 in
theorem m_Ta_number (l : Launch) : sv_M l yX8_number cX8_number 3 (some .int) (sv_gI n_Ta_number) 1 := by
  refine sv_mI (E := ev_Ta_number) (by decide +kernel) (ln_gen fk_8 kk_8 (sv_ns _ (fun _ => rfl) _)) rfl ?_ a_Ta_number b_Ta_number
  intro p e R s m args below meth c cells slots Q base ad dC dI cA n0 S hkn hR hf pc n f hcs
  refine sv_lk_all (P := fun pc (x : Nat × sv_F) => sv_cok p l e R s m args below meth c cells slots Q base ad dC dI cA true 3 n0 pc x.1 x.2) ?_ pc (n, f) hcs
  exact List.forall_mem_cons.mpr ⟨(sv_cV S hkn (m_Ta_byteAt l) ⟨Nat.le_trans (by decide) hR.1, Nat.le_trans (by decide) hR.2⟩ (by decide) hf rfl (g_Ta_byteAt) (sv_w5 tw_689 tw_690 tw_691 tw_63 tw_692) (by decide +kernel) (sv_dc3 d_Ta_number (pc := 21) rfl rfl)).I,
      fun _ h => absurd h List.not_mem_nil⟩
noncomputable def f_Ta_levelOf (a0 : Int32) (σ : sv_S) : Option (Int32 × sv_S) :=
  sv_if (a0.toInt = 38)
    (some ((1 : Int32), σ))
    (sv_if (a0.toInt = 42)
    (some ((4 : Int32), σ))
    (sv_if (a0.toInt = 43)
    (some ((3 : Int32), σ))
    (sv_if (a0.toInt = 45)
    (some ((3 : Int32), σ))
    (sv_if (a0.toInt = 47)
    (some ((4 : Int32), σ))
    (sv_if (a0.toInt = 60)
    (some ((2 : Int32), σ))
    (sv_if (a0.toInt = 61)
    (some ((2 : Int32), σ))
    (sv_if (a0.toInt = 62)
    (some ((2 : Int32), σ))
    (sv_if (a0.toInt = 124)
    (some ((0 : Int32), σ))
    (some ((5 : Int32), σ))))))))))
noncomputable def n_Ta_levelOf : List sv_V → sv_S → Option (Int32 × sv_S)
  | [.inl a0], σ => f_Ta_levelOf a0 σ
  | _, _ => none
def cd_Ta_levelOf : sv_C := [(0, (.iload_n 0, (sv_N, (1, (0, []))))), (1, (.lookupswitch 93 #[(38, 85), (42, 91), (43, 89), (45, 89), (47, 91), (60, 87), (61, 87), (62, 87), (124, 83)], (sv_N, (1, (94, [(38, 86), (42, 92), (43, 90), (45, 90), (47, 92), (60, 88), (61, 88), (62, 88), (124, 84)]))))), (84, (.iconst 0, (.inl (0 : Int32), (85, (0, []))))), (85, (.ireturn, (sv_N, (86, (0, []))))), (86, (.iconst 1, (.inl (1 : Int32), (87, (0, []))))), (87, (.ireturn, (sv_N, (88, (0, []))))), (88, (.iconst 2, (.inl (2 : Int32), (89, (0, []))))), (89, (.ireturn, (sv_N, (90, (0, []))))), (90, (.iconst 3, (.inl (3 : Int32), (91, (0, []))))), (91, (.ireturn, (sv_N, (92, (0, []))))), (92, (.iconst 4, (.inl (4 : Int32), (93, (0, []))))), (93, (.ireturn, (sv_N, (94, (0, []))))), (94, (.iconst 5, (.inl (5 : Int32), (95, (0, []))))), (95, (.ireturn, (sv_N, (96, (0, [])))))]
noncomputable def ev_Ta_levelOf : sv_E := (fun i => sv_lk i fl_8, (fun i => sv_lk i kc_8, (fun _ => 0, (true, (fun pc => sv_lk pc [], none)))))
noncomputable def kk_Ta_levelOf : sv_K (Int32 × sv_S) := fun pc => sv_lk pc []
set_option maxRecDepth 20000 in
theorem e_Ta_levelOf (a0 : Int32) (σ : sv_S) : sv_ex ev_Ta_levelOf sv_rI kk_Ta_levelOf cd_Ta_levelOf 16 0 [some (.inl a0)] [] σ = f_Ta_levelOf a0 σ := by
  unfold f_Ta_levelOf
  delta ev_Ta_levelOf kk_Ta_levelOf
  rfl
theorem d_Ta_levelOf : cd_Ta_levelOf.all (sv_dk cX8_levelOf) = true := by decide +kernel
set_option maxRecDepth 20000 in
theorem b_Ta_levelOf (Γ : sv_Ga) (res : Int32 × sv_S) (X : sv_Ok Γ ev_Ta_levelOf cX8_levelOf sv_rI res) (as : List sv_V) (σ : sv_S) (h : n_Ta_levelOf as σ = some res) : sv_T Γ 0 (sv_e0 1 as) [] σ := by
  unfold n_Ta_levelOf at h
  split at h
  · refine sv_run X d_Ta_levelOf (K := kk_Ta_levelOf) (sv_lk_all (P := fun pc (k : sv_Lo → List sv_V → sv_S → Option (Int32 × sv_S)) => ∀ lo st σ, k lo st σ = some res → sv_T Γ pc lo st σ) ?_) _ _ _ _ _ ((e_Ta_levelOf _ _).trans h)
    clear h
    exact fun _ h => absurd h List.not_mem_nil
  · cases h
theorem a_Ta_levelOf (as : List sv_V) (σ : sv_S) (x : Int32 × sv_S) (h : n_Ta_levelOf as σ = some x) : sv_args 1 ev_Ta_levelOf.2.2.2.1 as := by
  unfold n_Ta_levelOf at h
  split at h
  · exact ⟨Nat.le_of_ble_eq_true rfl, fun _ v hv => by
      simp only [List.mem_cons, List.not_mem_nil, or_false] at hv
      rcases hv with rfl <;> trivial⟩
  · cases h

set_option maxRecDepth 20000 in
theorem m_Ta_levelOf (l : Launch) : sv_M l yX8_levelOf cX8_levelOf 1 (some .int) (sv_gI n_Ta_levelOf) 0 := by
  refine sv_mI (E := ev_Ta_levelOf) (by decide +kernel) (ln_gen fk_8 kk_8 (sv_ns _ (fun _ => rfl) _)) rfl ?_ a_Ta_levelOf b_Ta_levelOf
  intro p e R s m args below meth c cells slots Q base ad dC dI cA n0 S hkn hR hf pc n f hcs
  refine sv_lk_all (P := fun pc (x : Nat × sv_F) => sv_cok p l e R s m args below meth c cells slots Q base ad dC dI cA true 1 n0 pc x.1 x.2) ?_ pc (n, f) hcs
  exact fun _ h => absurd h List.not_mem_nil
noncomputable def n_h_isSide (o1 : Int32 → Int32 → Int32 → sv_S → Option (Int32 × sv_S)) : List sv_V → sv_S → Option (Int32 × sv_S)
  | [.inr (.inr (some (8, 0))), .inl a1, .inl a2, .inl a3], σ => o1 a1 a2 a3 σ
  | _, _ => none
noncomputable def n_h_isPiece (o2 : Int32 → Int32 → sv_S → Option (Int32 × sv_S)) : List sv_V → sv_S → Option (Int32 × sv_S)
  | [.inr (.inr (some (8, 0))), .inl a1, .inl a2], σ => o2 a1 a2 σ
  | _, _ => none
theorem gh_isSide (o1 : Int32 → Int32 → Int32 → sv_S → Option (Int32 × sv_S)) (as : List sv_V) (σ : sv_S) (x : Option sv_V × sv_S) (h : sv_gI (n_h_isSide o1) as σ = some x) : ∃ r i as', as = sv_R r i :: as' ∧ sv_kd r i = .inl 8 := by
  obtain ⟨_, _, h, -⟩ := sv_b_some h
  unfold n_h_isSide at h
  split at h
  · exact ⟨_, _, _, rfl, rfl⟩
  · cases h
theorem gh_isPiece (o2 : Int32 → Int32 → sv_S → Option (Int32 × sv_S)) (as : List sv_V) (σ : sv_S) (x : Option sv_V × sv_S) (h : sv_gI (n_h_isPiece o2) as σ = some x) : ∃ r i as', as = sv_R r i :: as' ∧ sv_kd r i = .inl 8 := by
  obtain ⟨_, _, h, -⟩ := sv_b_some h
  unfold n_h_isPiece at h
  split at h
  · exact ⟨_, _, _, rfl, rfl⟩
  · cases h
noncomputable def f_Ta_isSide_29 (o1 : Int32 → Int32 → Int32 → sv_S → Option (Int32 × sv_S)) (o2 : Int32 → Int32 → sv_S → Option (Int32 × sv_S)) : Nat → Int32 → Int32 → Int32 → Int32 → sv_S → Option (Int32 × sv_S)
  | 0, _, _, _, _, _ => none
  | n + 1, x1, x2, x3, x4, σ =>
    sv_if ((96 : Int32) ≤ x4)
      (sv_g ((1 : Int32) = 0 ∨ (1 : Int32) = 1) (some ((1 : Int32), σ)))
      (sv_b (f_Ta_levelOf (σ 8 0 4) σ) (fun v1 σ2 =>
        sv_if (v1 = x1)
          (sv_b0 (f_Ta_next σ2) (fun σ3 =>
            sv_b (o1 (x1 + (1 : Int32)) x2 x3 σ3) (fun v4 σ5 =>
              sv_if (v4 = 0)
                (sv_g ((0 : Int32) = 0 ∨ (0 : Int32) = 1) (some ((0 : Int32), σ5)))
                (sv_b0 (f_Ta_write ((20000 : Int32) + (σ2 8 0 4)) σ5) (fun σ6 =>
                  sv_if (x1 = (2 : Int32))
                    (sv_g ((1 : Int32) = 0 ∨ (1 : Int32) = 1) (some ((1 : Int32), σ6)))
                    (f_Ta_isSide_29 o1 o2 n x1 x2 x3 (x4 + (1 : Int32)) σ6))))))
          (sv_g ((1 : Int32) = 0 ∨ (1 : Int32) = 1) (some ((1 : Int32), σ2)))))
noncomputable def f_Ta_isSide (o1 : Int32 → Int32 → Int32 → sv_S → Option (Int32 × sv_S)) (o2 : Int32 → Int32 → sv_S → Option (Int32 × sv_S)) (a1 : Int32) (a2 : Int32) (a3 : Int32) (σ : sv_S) : Option (Int32 × sv_S) :=
  sv_if (a1 < (5 : Int32))
    (sv_b (o1 (a1 + (1 : Int32)) a2 a3 σ) (fun v1 σ2 =>
      sv_if (v1 = 0)
        (sv_g ((0 : Int32) = 0 ∨ (0 : Int32) = 1) (some ((0 : Int32), σ2)))
        (f_Ta_isSide_29 o1 o2 sv_fu a1 a2 a3 (0 : Int32) σ2)))
    (sv_b (o2 a2 a3 σ) (fun v3 σ4 =>
      sv_g (v3 = 0 ∨ v3 = 1) (some (v3, σ4))))
noncomputable def n_Ta_isSide (o1 : Int32 → Int32 → Int32 → sv_S → Option (Int32 × sv_S)) (o2 : Int32 → Int32 → sv_S → Option (Int32 × sv_S)) : List sv_V → sv_S → Option (Int32 × sv_S)
  | [.inr (.inr (some (8, 0))), .inl a1, .inl a2, .inl a3], σ => f_Ta_isSide o1 o2 a1 a2 a3 σ
  | _, _ => none
def cd_Ta_isSide : sv_C := [(0, (.iload_n 1, (sv_N, (1, (0, []))))), (1, (.iconst 5, (.inl (5 : Int32), (2, (0, []))))), (2, (.if_icmp .lt 10, (sv_N, (5, (12, []))))), (5, (.aload_n 0, (sv_N, (6, (0, []))))), (6, (.iload_n 2, (sv_N, (7, (0, []))))), (7, (.iload_n 3, (sv_N, (8, (0, []))))), (8, (.invokevirtual 84, (sv_N, (11, (0, []))))), (11, (.ireturn, (sv_N, (12, (0, []))))), (12, (.aload_n 0, (sv_N, (13, (0, []))))), (13, (.iload_n 1, (sv_N, (14, (0, []))))), (14, (.iconst 1, (.inl (1 : Int32), (15, (0, []))))), (15, (.iadd, (sv_N, (16, (0, []))))), (16, (.iload_n 2, (sv_N, (17, (0, []))))), (17, (.iload_n 3, (sv_N, (18, (0, []))))), (18, (.invokevirtual 56, (sv_N, (21, (0, []))))), (21, (.ifCond .ne 5, (sv_N, (24, (26, []))))), (24, (.iconst 0, (.inl (0 : Int32), (25, (0, []))))), (25, (.ireturn, (sv_N, (26, (0, []))))), (26, (.iconst 0, (.inl (0 : Int32), (27, (0, []))))), (27, (.istore 4, (sv_N, (29, (0, []))))), (29, (.iload 4, (sv_N, (31, (0, []))))), (31, (.bipush 96, (.inl (96 : Int32), (33, (0, []))))), (33, (.if_icmp .ge 61, (sv_N, (36, (94, []))))), (36, (.aload_n 0, (sv_N, (37, (0, []))))), (37, (.getfield 46, (sv_N, (40, (0, []))))), (40, (.invokestatic 88, (sv_N, (43, (0, []))))), (43, (.iload_n 1, (sv_N, (44, (0, []))))), (44, (.if_icmp .ne 50, (sv_N, (47, (94, []))))), (47, (.aload_n 0, (sv_N, (48, (0, []))))), (48, (.getfield 46, (sv_N, (51, (0, []))))), (51, (.istore 5, (sv_N, (53, (0, []))))), (53, (.aload_n 0, (sv_N, (54, (0, []))))), (54, (.invokevirtual 49, (sv_N, (57, (0, []))))), (57, (.aload_n 0, (sv_N, (58, (0, []))))), (58, (.iload_n 1, (sv_N, (59, (0, []))))), (59, (.iconst 1, (.inl (1 : Int32), (60, (0, []))))), (60, (.iadd, (sv_N, (61, (0, []))))), (61, (.iload_n 2, (sv_N, (62, (0, []))))), (62, (.iload_n 3, (sv_N, (63, (0, []))))), (63, (.invokevirtual 56, (sv_N, (66, (0, []))))), (66, (.ifCond .ne 5, (sv_N, (69, (71, []))))), (69, (.iconst 0, (.inl (0 : Int32), (70, (0, []))))), (70, (.ireturn, (sv_N, (71, (0, []))))), (71, (.aload_n 0, (sv_N, (72, (0, []))))), (72, (.sipush 20000, (.inl (20000 : Int32), (75, (0, []))))), (75, (.iload 5, (sv_N, (77, (0, []))))), (77, (.iadd, (sv_N, (78, (0, []))))), (78, (.invokevirtual 91, (sv_N, (81, (0, []))))), (81, (.iload_n 1, (sv_N, (82, (0, []))))), (82, (.iconst 2, (.inl (2 : Int32), (83, (0, []))))), (83, (.if_icmp .ne 5, (sv_N, (86, (88, []))))), (86, (.iconst 1, (.inl (1 : Int32), (87, (0, []))))), (87, (.ireturn, (sv_N, (88, (0, []))))), (88, (.iinc 4 1, (.inl (1 : Int32), (91, (0, []))))), (91, (.goto (-62), (sv_N, (94, (29, []))))), (94, (.iconst 1, (.inl (1 : Int32), (95, (0, []))))), (95, (.ireturn, (sv_N, (96, (0, [])))))]
noncomputable def ev_Ta_isSide (o1 : Int32 → Int32 → Int32 → sv_S → Option (Int32 × sv_S)) (o2 : Int32 → Int32 → sv_S → Option (Int32 × sv_S)) : sv_E := (fun i => sv_lk i fl_8, (fun i => sv_lk i kc_8, (fun _ => 0, (true, (fun pc => sv_lk pc [(8, (3, .inl (n_h_isPiece o2))), (18, (4, .inl (n_h_isSide o1))), (40, (1, .inl n_Ta_levelOf)), (54, (1, .inr (.inl n_Ta_next))), (63, (4, .inl (n_h_isSide o1))), (78, (2, .inr (.inl n_Ta_write)))], none)))))
noncomputable def kk_Ta_isSide_29 (o1 : Int32 → Int32 → Int32 → sv_S → Option (Int32 × sv_S)) (o2 : Int32 → Int32 → sv_S → Option (Int32 × sv_S)) (n : Nat) : sv_K (Int32 × sv_S) := fun pc => sv_lk pc [(29, fun lo st σ => match lo, st with
    | [some (.inr (.inr (some (8, 0)))), some (.inl x1), some (.inl x2), some (.inl x3), some (.inl x4), _], [] => f_Ta_isSide_29 o1 o2 n x1 x2 x3 x4 σ
    | _, _ => none)]
set_option maxRecDepth 20000 in
theorem e_Ta_isSide_29 (o1 : Int32 → Int32 → Int32 → sv_S → Option (Int32 × sv_S)) (o2 : Int32 → Int32 → sv_S → Option (Int32 × sv_S)) (n : Nat) (x1 : Int32) (x2 : Int32) (x3 : Int32) (x4 : Int32) (z5 : Option sv_V) (σ : sv_S) : sv_ex (ev_Ta_isSide o1 o2) sv_rZ (kk_Ta_isSide_29 o1 o2 n) cd_Ta_isSide 59 29 [some (.inr (.inr (some (8, 0)))), some (.inl x1), some (.inl x2), some (.inl x3), some (.inl x4), z5] [] σ = f_Ta_isSide_29 o1 o2 (n + 1) x1 x2 x3 x4 σ := by
  rw [f_Ta_isSide_29.eq_2]
  delta ev_Ta_isSide kk_Ta_isSide_29 n_h_isPiece n_h_isSide n_Ta_levelOf n_Ta_next n_Ta_write
  generalize f_Ta_levelOf = c0
  generalize f_Ta_next = c1
  generalize f_Ta_write = c2
  generalize f_Ta_isSide_29 = c3
  rfl
noncomputable def kk_Ta_isSide (o1 : Int32 → Int32 → Int32 → sv_S → Option (Int32 × sv_S)) (o2 : Int32 → Int32 → sv_S → Option (Int32 × sv_S)) : sv_K (Int32 × sv_S) := fun pc => sv_lk pc [(29, fun lo st σ => match lo, st with
    | [some (.inr (.inr (some (8, 0)))), some (.inl x1), some (.inl x2), some (.inl x3), some (.inl x4), _], [] => f_Ta_isSide_29 o1 o2 sv_fu x1 x2 x3 x4 σ
    | _, _ => none)]
set_option maxRecDepth 20000 in
theorem e_Ta_isSide (o1 : Int32 → Int32 → Int32 → sv_S → Option (Int32 × sv_S)) (o2 : Int32 → Int32 → sv_S → Option (Int32 × sv_S)) (a1 : Int32) (a2 : Int32) (a3 : Int32) (σ : sv_S) : sv_ex (ev_Ta_isSide o1 o2) sv_rZ (kk_Ta_isSide o1 o2) cd_Ta_isSide 59 0 [some (.inr (.inr (some (8, 0)))), some (.inl a1), some (.inl a2), some (.inl a3), none, none] [] σ = f_Ta_isSide o1 o2 a1 a2 a3 σ := by
  unfold f_Ta_isSide
  delta ev_Ta_isSide kk_Ta_isSide n_h_isPiece n_h_isSide n_Ta_levelOf n_Ta_next n_Ta_write
  generalize f_Ta_levelOf = c0
  generalize f_Ta_next = c1
  generalize f_Ta_write = c2
  generalize f_Ta_isSide_29 = c3
  rfl
theorem d_Ta_isSide : cd_Ta_isSide.all (sv_dk cX8_isSide) = true := by decide +kernel
set_option maxRecDepth 20000 in
theorem w_Ta_isSide_29 {Γ : sv_Ga} {res : Int32 × sv_S} (o1 : Int32 → Int32 → Int32 → sv_S → Option (Int32 × sv_S)) (o2 : Int32 → Int32 → sv_S → Option (Int32 × sv_S)) (X : sv_Ok Γ (ev_Ta_isSide o1 o2) cX8_isSide sv_rZ res) : ∀ (n : Nat) (x1 : Int32) (x2 : Int32) (x3 : Int32) (x4 : Int32) (z5 : Option sv_V) (σ : sv_S), f_Ta_isSide_29 o1 o2 n x1 x2 x3 x4 σ = some res → sv_T Γ 29 [some (.inr (.inr (some (8, 0)))), some (.inl x1), some (.inl x2), some (.inl x3), some (.inl x4), z5] [] σ := by
  intro n
  induction n with
  | zero =>
    intro x1 x2 x3 x4 z5 σ h
    rw [f_Ta_isSide_29.eq_1] at h
    cases h
  | succ n ih =>
    intro x1 x2 x3 x4 z5 σ h
    refine sv_run X d_Ta_isSide (K := kk_Ta_isSide_29 o1 o2 n) (sv_lk_all (P := fun pc (k : sv_Lo → List sv_V → sv_S → Option (Int32 × sv_S)) => ∀ lo st σ, k lo st σ = some res → sv_T Γ pc lo st σ) ?_) _ _ _ _ _ ((e_Ta_isSide_29 o1 o2 n x1 x2 x3 x4 z5 σ).trans h)
    clear h
    refine List.forall_mem_cons.mpr ⟨fun lo st σ h => ?_, fun _ h => absurd h List.not_mem_nil⟩
    · dsimp only at h
      split at h
      · exact ih _ _ _ _ _ _ h
      · cases h

set_option maxRecDepth 20000 in
theorem b_Ta_isSide (o1 : Int32 → Int32 → Int32 → sv_S → Option (Int32 × sv_S)) (o2 : Int32 → Int32 → sv_S → Option (Int32 × sv_S)) (Γ : sv_Ga) (res : Int32 × sv_S) (X : sv_Ok Γ (ev_Ta_isSide o1 o2) cX8_isSide sv_rZ res) (as : List sv_V) (σ : sv_S) (h : n_Ta_isSide o1 o2 as σ = some res) : sv_T Γ 0 (sv_e0 6 as) [] σ := by
  unfold n_Ta_isSide at h
  split at h
  · refine sv_run X d_Ta_isSide (K := kk_Ta_isSide o1 o2) (sv_lk_all (P := fun pc (k : sv_Lo → List sv_V → sv_S → Option (Int32 × sv_S)) => ∀ lo st σ, k lo st σ = some res → sv_T Γ pc lo st σ) ?_) _ _ _ _ _ ((e_Ta_isSide o1 o2 _ _ _ _).trans h)
    clear h
    refine List.forall_mem_cons.mpr ⟨fun lo st σ h => ?_, fun _ h => absurd h List.not_mem_nil⟩
    · dsimp only at h
      split at h
      · exact w_Ta_isSide_29 o1 o2 X _ _ _ _ _ _ _ h
      · cases h
  · cases h
theorem a_Ta_isSide (o1 : Int32 → Int32 → Int32 → sv_S → Option (Int32 × sv_S)) (o2 : Int32 → Int32 → sv_S → Option (Int32 × sv_S)) (as : List sv_V) (σ : sv_S) (x : Int32 × sv_S) (h : n_Ta_isSide o1 o2 as σ = some x) : sv_args 6 (ev_Ta_isSide o1 o2).2.2.2.1 as := by
  unfold n_Ta_isSide at h
  split at h
  · exact ⟨Nat.le_of_ble_eq_true rfl, fun _ v hv => by
      simp only [List.mem_cons, List.not_mem_nil, or_false] at hv
      rcases hv with rfl | rfl | rfl | rfl <;> trivial⟩
  · cases h
theorem g_Ta_isSide (o1 : Int32 → Int32 → Int32 → sv_S → Option (Int32 × sv_S)) (o2 : Int32 → Int32 → sv_S → Option (Int32 × sv_S)) (as : List sv_V) (σ : sv_S) (x : Option sv_V × sv_S) (h : sv_gI (n_Ta_isSide o1 o2) as σ = some x) : ∃ r i as', as = sv_R r i :: as' ∧ sv_kd r i = .inl 8 := by
  obtain ⟨_, _, h, -⟩ := sv_b_some h
  unfold n_Ta_isSide at h
  split at h
  · exact ⟨_, _, _, rfl, rfl⟩
  · cases h
theorem tw_5 : Cond.selects RX8 yX8_isSide yX8_isSide ∈ gw_tbl := gw_at 5 (by decide +kernel) rfl
theorem tw_6 : Cond.selects RX8 yX8_isPiece yX8_isPiece ∈ gw_tbl := gw_at 6 (by decide +kernel) rfl
theorem tw_761 : Cond.methodLink RX8 56 yX8_isSide ∈ gw_tbl := gw_at 761 (by decide +kernel) rfl
theorem tw_763 : Cond.instanceMethod yX8_isSide ∈ gw_tbl := gw_at 763 (by decide +kernel) rfl
theorem tw_764 : Cond.code yX8_isSide cX8_isSide 6 (some .boolean) ∈ gw_tbl := gw_at 764 (by decide +kernel) rfl
theorem tw_765 : Cond.methodLink RX8 84 yX8_isPiece ∈ gw_tbl := gw_at 765 (by decide +kernel) rfl
theorem tw_767 : Cond.instanceMethod yX8_isPiece ∈ gw_tbl := gw_at 767 (by decide +kernel) rfl
theorem tw_768 : Cond.code yX8_isPiece cX8_isPiece 3 (some .boolean) ∈ gw_tbl := gw_at 768 (by decide +kernel) rfl
theorem tw_846 : Cond.methodLink RX8 88 yX8_levelOf ∈ gw_tbl := gw_at 846 (by decide +kernel) rfl
theorem tw_847 : Cond.static yX8_levelOf ∈ gw_tbl := gw_at 847 (by decide +kernel) rfl
theorem tw_848 : Cond.code yX8_levelOf cX8_levelOf 1 (some .int) ∈ gw_tbl := gw_at 848 (by decide +kernel) rfl
set_option maxRecDepth 20000 in
theorem m_Ta_isSide (l : Launch) (o1 : Int32 → Int32 → Int32 → sv_S → Option (Int32 × sv_S)) (o2 : Int32 → Int32 → sv_S → Option (Int32 × sv_S)) (h : Nat) (ho1 : sv_M l yX8_isSide cX8_isSide 6 (some .boolean) (sv_gI (n_h_isSide o1)) h) (ho2 : sv_M l yX8_isPiece cX8_isPiece 3 (some .boolean) (sv_gI (n_h_isPiece o2)) h) : sv_M l yX8_isSide cX8_isSide 6 (some .boolean) (sv_gI (n_Ta_isSide o1 o2)) (h + 10) := by
  refine sv_mZ (E := (ev_Ta_isSide o1 o2)) (by decide +kernel) (ln_gen fk_8 kk_8 (sv_ns _ (fun _ => rfl) _)) rfl ?_ (a_Ta_isSide o1 o2) (b_Ta_isSide o1 o2)
  intro p e R s m args below meth c cells slots Q base ad dC dI cA n0 S hkn hR hf pc n f hcs
  refine sv_lk_all (P := fun pc (x : Nat × sv_F) => sv_cok p l e R s m args below meth c cells slots Q base ad dC dI cA true 6 n0 pc x.1 x.2) ?_ pc (n, f) hcs
  exact List.forall_mem_cons.mpr ⟨(sv_cV S hkn ho2 ⟨Nat.le_trans (by omega) hR.1, Nat.le_trans (by omega) hR.2⟩ (by decide) hf rfl (gh_isPiece o2) (sv_w5 tw_765 tw_767 tw_6 tw_63 tw_768) (by decide +kernel) (sv_dc3 d_Ta_isSide (pc := 8) rfl rfl)).I,
      List.forall_mem_cons.mpr ⟨(sv_cV S hkn ho1 ⟨Nat.le_trans (by omega) hR.1, Nat.le_trans (by omega) hR.2⟩ (by decide) hf rfl (gh_isSide o1) (sv_w5 tw_761 tw_763 tw_5 tw_63 tw_764) (by decide +kernel) (sv_dc3 d_Ta_isSide (pc := 18) rfl rfl)).I,
      List.forall_mem_cons.mpr ⟨(sv_cS S hkn (m_Ta_levelOf l) ⟨Nat.le_trans (by omega) hR.1, Nat.le_trans (by omega) hR.2⟩ (by decide) hf (sv_w4 tw_846 tw_847 tw_63 tw_848) (by decide +kernel) (sv_dc3 d_Ta_isSide (pc := 40) rfl rfl)).I,
      List.forall_mem_cons.mpr ⟨(sv_cV S hkn (m_Ta_next l) ⟨Nat.le_trans (by omega) hR.1, Nat.le_trans (by omega) hR.2⟩ (by decide) hf rfl (g_Ta_next) (sv_w5 tw_681 tw_682 tw_683 tw_63 tw_684) (by decide +kernel) (sv_dc3 d_Ta_isSide (pc := 54) rfl rfl)).V,
      List.forall_mem_cons.mpr ⟨(sv_cV S hkn ho1 ⟨Nat.le_trans (by omega) hR.1, Nat.le_trans (by omega) hR.2⟩ (by decide) hf rfl (gh_isSide o1) (sv_w5 tw_761 tw_763 tw_5 tw_63 tw_764) (by decide +kernel) (sv_dc3 d_Ta_isSide (pc := 63) rfl rfl)).I,
      List.forall_mem_cons.mpr ⟨(sv_cV S hkn (m_Ta_write l) ⟨Nat.le_trans (by omega) hR.1, Nat.le_trans (by omega) hR.2⟩ (by decide) hf rfl (g_Ta_write) (sv_w5 tw_777 tw_778 tw_779 tw_63 tw_780) (by decide +kernel) (sv_dc3 d_Ta_isSide (pc := 78) rfl rfl)).V,
      fun _ h => absurd h List.not_mem_nil⟩⟩⟩⟩⟩⟩
noncomputable def f_Ta_isPiece (o1 : Int32 → Int32 → Int32 → sv_S → Option (Int32 × sv_S)) (o2 : Int32 → Int32 → sv_S → Option (Int32 × sv_S)) (a1 : Int32) (a2 : Int32) (σ : sv_S) : Option (Int32 × sv_S) :=
  sv_if ((σ 8 0 4).toInt = (-3))
    (sv_b (f_Ta_number σ) (fun v1 σ2 =>
      sv_b (f_Ta_takes v1 σ2) (fun v3 σ4 =>
        sv_g (v3 = 0 ∨ v3 = 1) (some (v3, σ4)))))
    (sv_if ((σ 8 0 4).toInt = (-2))
    (sv_b (f_Ta_isName σ) (fun v5 σ6 =>
      sv_g (v5 = 0 ∨ v5 = 1) (some (v5, σ6))))
    (sv_if ((σ 8 0 4).toInt = 33)
    (sv_if (a2 < (8 : Int32))
      (sv_b0 (f_Ta_next σ) (fun σ7 =>
        sv_b (o2 a1 (a2 + (1 : Int32)) σ7) (fun v8 σ9 =>
          sv_if (v8 = 0)
            (sv_g ((0 : Int32) = 0 ∨ (0 : Int32) = 1) (some ((0 : Int32), σ9)))
            (sv_b0 (f_Ta_write (20033 : Int32) σ9) (fun σ10 =>
              sv_g ((1 : Int32) = 0 ∨ (1 : Int32) = 1) (some ((1 : Int32), σ10)))))))
      (sv_g ((0 : Int32) = 0 ∨ (0 : Int32) = 1) (some ((0 : Int32), σ))))
    (sv_if ((σ 8 0 4).toInt = 40)
    (sv_if (a1 < (8 : Int32))
      (sv_b0 (f_Ta_next σ) (fun σ11 =>
        sv_b (o1 (0 : Int32) (a1 + (1 : Int32)) a2 σ11) (fun v12 σ13 =>
          sv_if (v12 = 0)
            (sv_g ((0 : Int32) = 0 ∨ (0 : Int32) = 1) (some ((0 : Int32), σ13)))
            (sv_if ((σ13 8 0 4) = (41 : Int32))
              (sv_b0 (f_Ta_next σ13) (fun σ14 =>
                sv_g ((1 : Int32) = 0 ∨ (1 : Int32) = 1) (some ((1 : Int32), σ14))))
              (sv_g ((0 : Int32) = 0 ∨ (0 : Int32) = 1) (some ((0 : Int32), σ13)))))))
      (sv_g ((0 : Int32) = 0 ∨ (0 : Int32) = 1) (some ((0 : Int32), σ))))
    (sv_g ((0 : Int32) = 0 ∨ (0 : Int32) = 1) (some ((0 : Int32), σ))))))
noncomputable def n_Ta_isPiece (o1 : Int32 → Int32 → Int32 → sv_S → Option (Int32 × sv_S)) (o2 : Int32 → Int32 → sv_S → Option (Int32 × sv_S)) : List sv_V → sv_S → Option (Int32 × sv_S)
  | [.inr (.inr (some (8, 0))), .inl a1, .inl a2], σ => f_Ta_isPiece o1 o2 a1 a2 σ
  | _, _ => none
def cd_Ta_isPiece : sv_C := [(0, (.aload_n 0, (sv_N, (1, (0, []))))), (1, (.getfield 46, (sv_N, (4, (0, []))))), (4, (.lookupswitch 133 #[(-3, 44), (-2, 53), (33, 58), (40, 92)], (sv_N, (4, (137, [(-3, 48), (-2, 57), (33, 62), (40, 96)]))))), (48, (.aload_n 0, (sv_N, (49, (0, []))))), (49, (.aload_n 0, (sv_N, (50, (0, []))))), (50, (.invokevirtual 95, (sv_N, (53, (0, []))))), (53, (.invokevirtual 98, (sv_N, (56, (0, []))))), (56, (.ireturn, (sv_N, (57, (0, []))))), (57, (.aload_n 0, (sv_N, (58, (0, []))))), (58, (.invokevirtual 102, (sv_N, (61, (0, []))))), (61, (.ireturn, (sv_N, (62, (0, []))))), (62, (.iload_n 2, (sv_N, (63, (0, []))))), (63, (.bipush 8, (.inl (8 : Int32), (65, (0, []))))), (65, (.if_icmp .lt 5, (sv_N, (68, (70, []))))), (68, (.iconst 0, (.inl (0 : Int32), (69, (0, []))))), (69, (.ireturn, (sv_N, (70, (0, []))))), (70, (.aload_n 0, (sv_N, (71, (0, []))))), (71, (.invokevirtual 49, (sv_N, (74, (0, []))))), (74, (.aload_n 0, (sv_N, (75, (0, []))))), (75, (.iload_n 1, (sv_N, (76, (0, []))))), (76, (.iload_n 2, (sv_N, (77, (0, []))))), (77, (.iconst 1, (.inl (1 : Int32), (78, (0, []))))), (78, (.iadd, (sv_N, (79, (0, []))))), (79, (.invokevirtual 84, (sv_N, (82, (0, []))))), (82, (.ifCond .ne 5, (sv_N, (85, (87, []))))), (85, (.iconst 0, (.inl (0 : Int32), (86, (0, []))))), (86, (.ireturn, (sv_N, (87, (0, []))))), (87, (.aload_n 0, (sv_N, (88, (0, []))))), (88, (.sipush 20033, (.inl (20033 : Int32), (91, (0, []))))), (91, (.invokevirtual 91, (sv_N, (94, (0, []))))), (94, (.iconst 1, (.inl (1 : Int32), (95, (0, []))))), (95, (.ireturn, (sv_N, (96, (0, []))))), (96, (.iload_n 1, (sv_N, (97, (0, []))))), (97, (.bipush 8, (.inl (8 : Int32), (99, (0, []))))), (99, (.if_icmp .lt 5, (sv_N, (102, (104, []))))), (102, (.iconst 0, (.inl (0 : Int32), (103, (0, []))))), (103, (.ireturn, (sv_N, (104, (0, []))))), (104, (.aload_n 0, (sv_N, (105, (0, []))))), (105, (.invokevirtual 49, (sv_N, (108, (0, []))))), (108, (.aload_n 0, (sv_N, (109, (0, []))))), (109, (.iconst 0, (.inl (0 : Int32), (110, (0, []))))), (110, (.iload_n 1, (sv_N, (111, (0, []))))), (111, (.iconst 1, (.inl (1 : Int32), (112, (0, []))))), (112, (.iadd, (sv_N, (113, (0, []))))), (113, (.iload_n 2, (sv_N, (114, (0, []))))), (114, (.invokevirtual 56, (sv_N, (117, (0, []))))), (117, (.ifCond .eq 12, (sv_N, (120, (129, []))))), (120, (.aload_n 0, (sv_N, (121, (0, []))))), (121, (.getfield 46, (sv_N, (124, (0, []))))), (124, (.bipush 41, (.inl (41 : Int32), (126, (0, []))))), (126, (.if_icmp .eq 5, (sv_N, (129, (131, []))))), (129, (.iconst 0, (.inl (0 : Int32), (130, (0, []))))), (130, (.ireturn, (sv_N, (131, (0, []))))), (131, (.aload_n 0, (sv_N, (132, (0, []))))), (132, (.invokevirtual 49, (sv_N, (135, (0, []))))), (135, (.iconst 1, (.inl (1 : Int32), (136, (0, []))))), (136, (.ireturn, (sv_N, (137, (0, []))))), (137, (.iconst 0, (.inl (0 : Int32), (138, (0, []))))), (138, (.ireturn, (sv_N, (139, (0, [])))))]
noncomputable def ev_Ta_isPiece (o1 : Int32 → Int32 → Int32 → sv_S → Option (Int32 × sv_S)) (o2 : Int32 → Int32 → sv_S → Option (Int32 × sv_S)) : sv_E := (fun i => sv_lk i fl_8, (fun i => sv_lk i kc_8, (fun _ => 0, (true, (fun pc => sv_lk pc [(50, (1, .inl n_Ta_number)), (53, (2, .inl n_Ta_takes)), (58, (1, .inl n_Ta_isName)), (71, (1, .inr (.inl n_Ta_next))), (79, (3, .inl (n_h_isPiece o2))), (91, (2, .inr (.inl n_Ta_write))), (105, (1, .inr (.inl n_Ta_next))), (114, (4, .inl (n_h_isSide o1))), (132, (1, .inr (.inl n_Ta_next)))], none)))))
noncomputable def kk_Ta_isPiece (o1 : Int32 → Int32 → Int32 → sv_S → Option (Int32 × sv_S)) (o2 : Int32 → Int32 → sv_S → Option (Int32 × sv_S)) : sv_K (Int32 × sv_S) := fun pc => sv_lk pc []
set_option maxRecDepth 20000 in
theorem e_Ta_isPiece (o1 : Int32 → Int32 → Int32 → sv_S → Option (Int32 × sv_S)) (o2 : Int32 → Int32 → sv_S → Option (Int32 × sv_S)) (a1 : Int32) (a2 : Int32) (σ : sv_S) : sv_ex (ev_Ta_isPiece o1 o2) sv_rZ (kk_Ta_isPiece o1 o2) cd_Ta_isPiece 61 0 [some (.inr (.inr (some (8, 0)))), some (.inl a1), some (.inl a2)] [] σ = f_Ta_isPiece o1 o2 a1 a2 σ := by
  unfold f_Ta_isPiece
  delta ev_Ta_isPiece kk_Ta_isPiece n_Ta_number n_Ta_takes n_Ta_isName n_Ta_next n_h_isPiece n_Ta_write n_h_isSide
  generalize f_Ta_number = c0
  generalize f_Ta_takes = c1
  generalize f_Ta_isName = c2
  generalize f_Ta_next = c3
  generalize f_Ta_write = c4
  rfl
theorem d_Ta_isPiece : cd_Ta_isPiece.all (sv_dk cX8_isPiece) = true := by decide +kernel
set_option maxRecDepth 20000 in
theorem b_Ta_isPiece (o1 : Int32 → Int32 → Int32 → sv_S → Option (Int32 × sv_S)) (o2 : Int32 → Int32 → sv_S → Option (Int32 × sv_S)) (Γ : sv_Ga) (res : Int32 × sv_S) (X : sv_Ok Γ (ev_Ta_isPiece o1 o2) cX8_isPiece sv_rZ res) (as : List sv_V) (σ : sv_S) (h : n_Ta_isPiece o1 o2 as σ = some res) : sv_T Γ 0 (sv_e0 3 as) [] σ := by
  unfold n_Ta_isPiece at h
  split at h
  · refine sv_run X d_Ta_isPiece (K := kk_Ta_isPiece o1 o2) (sv_lk_all (P := fun pc (k : sv_Lo → List sv_V → sv_S → Option (Int32 × sv_S)) => ∀ lo st σ, k lo st σ = some res → sv_T Γ pc lo st σ) ?_) _ _ _ _ _ ((e_Ta_isPiece o1 o2 _ _ _).trans h)
    clear h
    exact fun _ h => absurd h List.not_mem_nil
  · cases h
theorem a_Ta_isPiece (o1 : Int32 → Int32 → Int32 → sv_S → Option (Int32 × sv_S)) (o2 : Int32 → Int32 → sv_S → Option (Int32 × sv_S)) (as : List sv_V) (σ : sv_S) (x : Int32 × sv_S) (h : n_Ta_isPiece o1 o2 as σ = some x) : sv_args 3 (ev_Ta_isPiece o1 o2).2.2.2.1 as := by
  unfold n_Ta_isPiece at h
  split at h
  · exact ⟨Nat.le_of_ble_eq_true rfl, fun _ v hv => by
      simp only [List.mem_cons, List.not_mem_nil, or_false] at hv
      rcases hv with rfl | rfl | rfl <;> trivial⟩
  · cases h
theorem g_Ta_isPiece (o1 : Int32 → Int32 → Int32 → sv_S → Option (Int32 × sv_S)) (o2 : Int32 → Int32 → sv_S → Option (Int32 × sv_S)) (as : List sv_V) (σ : sv_S) (x : Option sv_V × sv_S) (h : sv_gI (n_Ta_isPiece o1 o2) as σ = some x) : ∃ r i as', as = sv_R r i :: as' ∧ sv_kd r i = .inl 8 := by
  obtain ⟨_, _, h, -⟩ := sv_b_some h
  unfold n_Ta_isPiece at h
  split at h
  · exact ⟨_, _, _, rfl, rfl⟩
  · cases h
theorem tw_769 : Cond.methodLink RX8 95 yX8_number ∈ gw_tbl := gw_at 769 (by decide +kernel) rfl
theorem tw_770 : Cond.instanceMethod yX8_number ∈ gw_tbl := gw_at 770 (by decide +kernel) rfl
theorem tw_771 : Cond.selects RX8 yX8_number yX8_number ∈ gw_tbl := gw_at 771 (by decide +kernel) rfl
theorem tw_772 : Cond.code yX8_number cX8_number 3 (some .int) ∈ gw_tbl := gw_at 772 (by decide +kernel) rfl
theorem tw_781 : Cond.methodLink RX8 102 yX8_isName ∈ gw_tbl := gw_at 781 (by decide +kernel) rfl
theorem tw_782 : Cond.instanceMethod yX8_isName ∈ gw_tbl := gw_at 782 (by decide +kernel) rfl
theorem tw_783 : Cond.selects RX8 yX8_isName yX8_isName ∈ gw_tbl := gw_at 783 (by decide +kernel) rfl
theorem tw_784 : Cond.code yX8_isName cX8_isName 2 (some .boolean) ∈ gw_tbl := gw_at 784 (by decide +kernel) rfl
set_option maxRecDepth 20000 in
theorem m_Ta_isPiece (l : Launch) (o1 : Int32 → Int32 → Int32 → sv_S → Option (Int32 × sv_S)) (o2 : Int32 → Int32 → sv_S → Option (Int32 × sv_S)) (h : Nat) (ho1 : sv_M l yX8_isSide cX8_isSide 6 (some .boolean) (sv_gI (n_h_isSide o1)) h) (ho2 : sv_M l yX8_isPiece cX8_isPiece 3 (some .boolean) (sv_gI (n_h_isPiece o2)) h) : sv_M l yX8_isPiece cX8_isPiece 3 (some .boolean) (sv_gI (n_Ta_isPiece o1 o2)) (h + 10) := by
  refine sv_mZ (E := (ev_Ta_isPiece o1 o2)) (by decide +kernel) (ln_gen fk_8 kk_8 (sv_ns _ (fun _ => rfl) _)) rfl ?_ (a_Ta_isPiece o1 o2) (b_Ta_isPiece o1 o2)
  intro p e R s m args below meth c cells slots Q base ad dC dI cA n0 S hkn hR hf pc n f hcs
  refine sv_lk_all (P := fun pc (x : Nat × sv_F) => sv_cok p l e R s m args below meth c cells slots Q base ad dC dI cA true 3 n0 pc x.1 x.2) ?_ pc (n, f) hcs
  exact List.forall_mem_cons.mpr ⟨(sv_cV S hkn (m_Ta_number l) ⟨Nat.le_trans (by omega) hR.1, Nat.le_trans (by omega) hR.2⟩ (by decide) hf rfl (g_Ta_number) (sv_w5 tw_769 tw_770 tw_771 tw_63 tw_772) (by decide +kernel) (sv_dc3 d_Ta_isPiece (pc := 50) rfl rfl)).I,
      List.forall_mem_cons.mpr ⟨(sv_cV S hkn (m_Ta_takes l) ⟨Nat.le_trans (by omega) hR.1, Nat.le_trans (by omega) hR.2⟩ (by decide) hf rfl (g_Ta_takes) (sv_w5 tw_773 tw_774 tw_775 tw_63 tw_776) (by decide +kernel) (sv_dc3 d_Ta_isPiece (pc := 53) rfl rfl)).I,
      List.forall_mem_cons.mpr ⟨(sv_cV S hkn (m_Ta_isName l) ⟨Nat.le_trans (by omega) hR.1, Nat.le_trans (by omega) hR.2⟩ (by decide) hf rfl (g_Ta_isName) (sv_w5 tw_781 tw_782 tw_783 tw_63 tw_784) (by decide +kernel) (sv_dc3 d_Ta_isPiece (pc := 58) rfl rfl)).I,
      List.forall_mem_cons.mpr ⟨(sv_cV S hkn (m_Ta_next l) ⟨Nat.le_trans (by omega) hR.1, Nat.le_trans (by omega) hR.2⟩ (by decide) hf rfl (g_Ta_next) (sv_w5 tw_681 tw_682 tw_683 tw_63 tw_684) (by decide +kernel) (sv_dc3 d_Ta_isPiece (pc := 71) rfl rfl)).V,
      List.forall_mem_cons.mpr ⟨(sv_cV S hkn ho2 ⟨Nat.le_trans (by omega) hR.1, Nat.le_trans (by omega) hR.2⟩ (by decide) hf rfl (gh_isPiece o2) (sv_w5 tw_765 tw_767 tw_6 tw_63 tw_768) (by decide +kernel) (sv_dc3 d_Ta_isPiece (pc := 79) rfl rfl)).I,
      List.forall_mem_cons.mpr ⟨(sv_cV S hkn (m_Ta_write l) ⟨Nat.le_trans (by omega) hR.1, Nat.le_trans (by omega) hR.2⟩ (by decide) hf rfl (g_Ta_write) (sv_w5 tw_777 tw_778 tw_779 tw_63 tw_780) (by decide +kernel) (sv_dc3 d_Ta_isPiece (pc := 91) rfl rfl)).V,
      List.forall_mem_cons.mpr ⟨(sv_cV S hkn (m_Ta_next l) ⟨Nat.le_trans (by omega) hR.1, Nat.le_trans (by omega) hR.2⟩ (by decide) hf rfl (g_Ta_next) (sv_w5 tw_681 tw_682 tw_683 tw_63 tw_684) (by decide +kernel) (sv_dc3 d_Ta_isPiece (pc := 105) rfl rfl)).V,
      List.forall_mem_cons.mpr ⟨(sv_cV S hkn ho1 ⟨Nat.le_trans (by omega) hR.1, Nat.le_trans (by omega) hR.2⟩ (by decide) hf rfl (gh_isSide o1) (sv_w5 tw_761 tw_763 tw_5 tw_63 tw_764) (by decide +kernel) (sv_dc3 d_Ta_isPiece (pc := 114) rfl rfl)).I,
      List.forall_mem_cons.mpr ⟨(sv_cV S hkn (m_Ta_next l) ⟨Nat.le_trans (by omega) hR.1, Nat.le_trans (by omega) hR.2⟩ (by decide) hf rfl (g_Ta_next) (sv_w5 tw_681 tw_682 tw_683 tw_63 tw_684) (by decide +kernel) (sv_dc3 d_Ta_isPiece (pc := 132) rfl rfl)).V,
      fun _ h => absurd h List.not_mem_nil⟩⟩⟩⟩⟩⟩⟩⟩⟩
/-- isSide and isPiece to a depth -/
noncomputable def r_Ta : Nat → (Int32 → Int32 → Int32 → sv_S → Option (Int32 × sv_S)) × (Int32 → Int32 → sv_S → Option (Int32 × sv_S))
  | 0 => (fun _ _ _ _ => none, fun _ _ _ => none)
  | d + 1 => (f_Ta_isSide (r_Ta d).1 (r_Ta d).2, f_Ta_isPiece (r_Ta d).1 (r_Ta d).2)
theorem sv_M.up {l : Launch} {y : MethodName} {b : ByteArray} {n h h' : Nat} {ret : Option FieldType} {G : sv_D} (hM : sv_M l y b n ret G h) (e : h = h') : sv_M l y b n ret G h' := e ▸ hM
theorem mr_Ta (l : Launch) : ∀ d : Nat, sv_M l yX8_isSide cX8_isSide 6 (some .boolean) (sv_gI (n_h_isSide (r_Ta d).1)) (10 * d) ∧ sv_M l yX8_isPiece cX8_isPiece 3 (some .boolean) (sv_gI (n_h_isPiece (r_Ta d).2)) (10 * d) := by
  intro d
  induction d with
  | zero =>
    refine ⟨?_, ?_⟩
    · intro base ad dC dI cA as σ r σ' hG
      obtain ⟨_, _, h, -⟩ := sv_b_some hG
      unfold n_h_isSide at h
      split at h <;> cases h
    · intro base ad dC dI cA as σ r σ' hG
      obtain ⟨_, _, h, -⟩ := sv_b_some hG
      unfold n_h_isPiece at h
      split at h <;> cases h
  | succ d ih => exact ⟨m_Ta_isSide l _ _ (10 * d) ih.1 ih.2, m_Ta_isPiece l _ _ (10 * d) ih.1 ih.2⟩
noncomputable def f_Ta_isText (σ : sv_S) : Option (Int32 × sv_S) :=
  let σ1 := sv_up σ 8 0 3 (0 : Int32)
  let σ2 := sv_up σ1 8 0 4 (-1 : Int32)
  let σ3 := sv_up σ2 8 0 6 (0 : Int32)
  let σ4 := sv_up σ3 8 0 7 (0 : Int32)
  sv_b0 (f_Ta_next σ4) (fun σ5 =>
    sv_b (f_Ta_isKey σ5) (fun v6 σ7 =>
      sv_if (v6 = 0)
        (sv_g ((0 : Int32) = 0 ∨ (0 : Int32) = 1) (some ((0 : Int32), σ7)))
        (sv_b0 (f_Ta_next σ7) (fun σ8 =>
          sv_b ((r_Ta 80).1 (0 : Int32) (0 : Int32) (0 : Int32) σ8) (fun v9 σ10 =>
            sv_if (v9 = 0)
              (sv_g ((0 : Int32) = 0 ∨ (0 : Int32) = 1) (some ((0 : Int32), σ10)))
              (sv_if ((σ10 8 0 4) = (-1 : Int32))
                (sv_g ((1 : Int32) = 0 ∨ (1 : Int32) = 1) (some ((1 : Int32), σ10)))
                (sv_g ((0 : Int32) = 0 ∨ (0 : Int32) = 1) (some ((0 : Int32), σ10)))))))))
noncomputable def n_Ta_isText : List sv_V → sv_S → Option (Int32 × sv_S)
  | [.inr (.inr (some (8, 0)))], σ => f_Ta_isText σ
  | _, _ => none
def cd_Ta_isText : sv_C := [(0, (.aload_n 0, (sv_N, (1, (0, []))))), (1, (.iconst 0, (.inl (0 : Int32), (2, (0, []))))), (2, (.putfield 43, (sv_N, (5, (0, []))))), (5, (.aload_n 0, (sv_N, (6, (0, []))))), (6, (.iconst (-1), (.inl (-1 : Int32), (7, (0, []))))), (7, (.putfield 46, (sv_N, (10, (0, []))))), (10, (.aload_n 0, (sv_N, (11, (0, []))))), (11, (.iconst 0, (.inl (0 : Int32), (12, (0, []))))), (12, (.putfield 28, (sv_N, (15, (0, []))))), (15, (.aload_n 0, (sv_N, (16, (0, []))))), (16, (.iconst 0, (.inl (0 : Int32), (17, (0, []))))), (17, (.putfield 31, (sv_N, (20, (0, []))))), (20, (.aload_n 0, (sv_N, (21, (0, []))))), (21, (.invokevirtual 49, (sv_N, (24, (0, []))))), (24, (.aload_n 0, (sv_N, (25, (0, []))))), (25, (.invokevirtual 52, (sv_N, (28, (0, []))))), (28, (.ifCond .ne 5, (sv_N, (31, (33, []))))), (31, (.iconst 0, (.inl (0 : Int32), (32, (0, []))))), (32, (.ireturn, (sv_N, (33, (0, []))))), (33, (.aload_n 0, (sv_N, (34, (0, []))))), (34, (.invokevirtual 49, (sv_N, (37, (0, []))))), (37, (.aload_n 0, (sv_N, (38, (0, []))))), (38, (.iconst 0, (.inl (0 : Int32), (39, (0, []))))), (39, (.iconst 0, (.inl (0 : Int32), (40, (0, []))))), (40, (.iconst 0, (.inl (0 : Int32), (41, (0, []))))), (41, (.invokevirtual 56, (sv_N, (44, (0, []))))), (44, (.ifCond .eq 15, (sv_N, (47, (59, []))))), (47, (.aload_n 0, (sv_N, (48, (0, []))))), (48, (.getfield 46, (sv_N, (51, (0, []))))), (51, (.iconst (-1), (.inl (-1 : Int32), (52, (0, []))))), (52, (.if_icmp .ne 7, (sv_N, (55, (59, []))))), (55, (.iconst 1, (.inl (1 : Int32), (56, (0, []))))), (56, (.goto 4, (sv_N, (59, (60, []))))), (59, (.iconst 0, (.inl (0 : Int32), (60, (0, []))))), (60, (.ireturn, (sv_N, (61, (0, [])))))]
noncomputable def ev_Ta_isText : sv_E := (fun i => sv_lk i fl_8, (fun i => sv_lk i kc_8, (fun _ => 0, (true, (fun pc => sv_lk pc [(21, (1, .inr (.inl n_Ta_next))), (25, (1, .inl n_Ta_isKey)), (34, (1, .inr (.inl n_Ta_next))), (41, (4, .inl (n_h_isSide (r_Ta 80).1)))], none)))))
noncomputable def kk_Ta_isText : sv_K (Int32 × sv_S) := fun pc => sv_lk pc []
set_option maxRecDepth 20000 in
theorem e_Ta_isText (σ : sv_S) : sv_ex ev_Ta_isText sv_rZ kk_Ta_isText cd_Ta_isText 37 0 [some (.inr (.inr (some (8, 0))))] [] σ = f_Ta_isText σ := by
  unfold f_Ta_isText
  delta ev_Ta_isText kk_Ta_isText n_Ta_next n_Ta_isKey n_h_isSide
  generalize f_Ta_next = c0
  generalize f_Ta_isKey = c1
  generalize r_Ta = c2
  rfl
theorem d_Ta_isText : cd_Ta_isText.all (sv_dk cX8_isText) = true := by decide +kernel
set_option maxRecDepth 20000 in
theorem b_Ta_isText (Γ : sv_Ga) (res : Int32 × sv_S) (X : sv_Ok Γ ev_Ta_isText cX8_isText sv_rZ res) (as : List sv_V) (σ : sv_S) (h : n_Ta_isText as σ = some res) : sv_T Γ 0 (sv_e0 1 as) [] σ := by
  unfold n_Ta_isText at h
  split at h
  · refine sv_run X d_Ta_isText (K := kk_Ta_isText) (sv_lk_all (P := fun pc (k : sv_Lo → List sv_V → sv_S → Option (Int32 × sv_S)) => ∀ lo st σ, k lo st σ = some res → sv_T Γ pc lo st σ) ?_) _ _ _ _ _ ((e_Ta_isText _).trans h)
    clear h
    exact fun _ h => absurd h List.not_mem_nil
  · cases h
theorem a_Ta_isText (as : List sv_V) (σ : sv_S) (x : Int32 × sv_S) (h : n_Ta_isText as σ = some x) : sv_args 1 ev_Ta_isText.2.2.2.1 as := by
  unfold n_Ta_isText at h
  split at h
  · exact ⟨Nat.le_of_ble_eq_true rfl, fun _ v hv => by
      simp only [List.mem_cons, List.not_mem_nil, or_false] at hv
      rcases hv with rfl <;> trivial⟩
  · cases h
theorem g_Ta_isText (as : List sv_V) (σ : sv_S) (x : Option sv_V × sv_S) (h : sv_gI n_Ta_isText as σ = some x) : ∃ r i as', as = sv_R r i :: as' ∧ sv_kd r i = .inl 8 := by
  obtain ⟨_, _, h, -⟩ := sv_b_some h
  unfold n_Ta_isText at h
  split at h
  · exact ⟨_, _, _, rfl, rfl⟩
  · cases h
theorem tw_699 : Cond.methodLink RX8 52 yX8_isKey ∈ gw_tbl := gw_at 699 (by decide +kernel) rfl
theorem tw_700 : Cond.instanceMethod yX8_isKey ∈ gw_tbl := gw_at 700 (by decide +kernel) rfl
theorem tw_701 : Cond.selects RX8 yX8_isKey yX8_isKey ∈ gw_tbl := gw_at 701 (by decide +kernel) rfl
theorem tw_702 : Cond.code yX8_isKey cX8_isKey 2 (some .boolean) ∈ gw_tbl := gw_at 702 (by decide +kernel) rfl
set_option maxRecDepth 20000 in
theorem m_Ta_isText (l : Launch) : sv_M l yX8_isText cX8_isText 1 (some .boolean) (sv_gI n_Ta_isText) 801 := by
  refine sv_mZ (E := ev_Ta_isText) (by decide +kernel) (ln_gen fk_8 kk_8 (sv_ns _ (fun _ => rfl) _)) rfl ?_ a_Ta_isText b_Ta_isText
  intro p e R s m args below meth c cells slots Q base ad dC dI cA n0 S hkn hR hf pc n f hcs
  refine sv_lk_all (P := fun pc (x : Nat × sv_F) => sv_cok p l e R s m args below meth c cells slots Q base ad dC dI cA true 1 n0 pc x.1 x.2) ?_ pc (n, f) hcs
  exact List.forall_mem_cons.mpr ⟨(sv_cV S hkn (m_Ta_next l) ⟨Nat.le_trans (by decide) hR.1, Nat.le_trans (by decide) hR.2⟩ (by decide) hf rfl (g_Ta_next) (sv_w5 tw_681 tw_682 tw_683 tw_63 tw_684) (by decide +kernel) (sv_dc3 d_Ta_isText (pc := 21) rfl rfl)).V,
      List.forall_mem_cons.mpr ⟨(sv_cV S hkn (m_Ta_isKey l) ⟨Nat.le_trans (by decide) hR.1, Nat.le_trans (by decide) hR.2⟩ (by decide) hf rfl (g_Ta_isKey) (sv_w5 tw_699 tw_700 tw_701 tw_63 tw_702) (by decide +kernel) (sv_dc3 d_Ta_isText (pc := 25) rfl rfl)).I,
      List.forall_mem_cons.mpr ⟨(sv_cV S hkn (m_Ta_next l) ⟨Nat.le_trans (by decide) hR.1, Nat.le_trans (by decide) hR.2⟩ (by decide) hf rfl (g_Ta_next) (sv_w5 tw_681 tw_682 tw_683 tw_63 tw_684) (by decide +kernel) (sv_dc3 d_Ta_isText (pc := 34) rfl rfl)).V,
      List.forall_mem_cons.mpr ⟨(sv_cV S hkn ((mr_Ta l 80).1) ⟨Nat.le_trans (by decide) hR.1, Nat.le_trans (by decide) hR.2⟩ (by decide) hf rfl ((gh_isSide _)) (sv_w5 tw_761 tw_763 tw_5 tw_63 tw_764) (by decide +kernel) (sv_dc3 d_Ta_isText (pc := 41) rfl rfl)).I,
      fun _ h => absurd h List.not_mem_nil⟩⟩⟩⟩
