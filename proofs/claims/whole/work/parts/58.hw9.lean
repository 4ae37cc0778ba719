/-! ===== the constructor of Text ===== -/
theorem tw_870 : Cond.methodLink "OneStroke$Text" 3 ⟨"java/lang/Object", "<init>", "()V"⟩ ∈ gw_tbl := gw_at 870 (by decide +kernel) rfl
theorem tw_871 : Cond.fieldLink "OneStroke$Text" 9 "OneStroke$Text" "key" "I" ∈ gw_tbl := gw_at 871 (by decide +kernel) rfl
theorem tw_874 : Cond.fieldLink "OneStroke$Text" 15 "OneStroke$Text" "operands" "I" ∈ gw_tbl := gw_at 874 (by decide +kernel) rfl
theorem tw_876 : Cond.fieldLink "OneStroke$Text" 18 "OneStroke$Text" "codes" "[I" ∈ gw_tbl := gw_at 876 (by decide +kernel) rfl
theorem tw_877 : Cond.fieldLink "OneStroke$Text" 22 "OneStroke$Text" "stack" "[I" ∈ gw_tbl := gw_at 877 (by decide +kernel) rfl
def hcd_X9_init : hw_Cd := [(0, (.aload_n 0, (1, 0))), (1, (.invokespecial 3, (3, 0))), (4, (.aload_n 0, (1, 0))), (5, (.iload_n 1, (1, 0))), (6, (.putfield 9, (3, 0))), (9, (.aload_n 0, (1, 0))), (10, (.iload_n 2, (1, 0))), (11, (.putfield 15, (3, 0))), (14, (.aload_n 0, (1, 0))), (15, (.aload_n 3, (1, 0))), (16, (.putfield 18, (3, 0))), (19, (.aload_n 0, (1, 0))), (20, (.iload_n 2, (1, 0))), (21, (.newarray .int, (2, 0))), (23, (.putfield 22, (3, 0))), (26, (.return_, (1, 0)))]
def hx_X9_init : hw_T := ([(9, (9, (0, (true, true)))), (15, (9, (1, (true, true)))), (18, (9, (2, (false, true)))), (22, (9, (3, (false, true))))], ([], ([], (3, []))))
def hf_X9_init : hw_F := fun as w => match as with
  | [.inr (.inr (some q0)), .inl n0, .inl n1, .inr (.inr (some p2))] => hw_ex hx_X9_init 1 96 hcd_X9_init 3000 0 (sv_e0 4 [.inr (.inr (some q0)), .inl n0, .inl n1, .inr (.inr (some p2))]) [] w 0 0
  | _ => none
theorem hg_X9_init (as : List sv_V) (w x : List hw_E) (h : hf_X9_init as w = some x) : ∃ r j as', as = sv_R r j :: as' := by
  unfold hf_X9_init at h
  split at h
  · exact ⟨_, _, _, rfl⟩
  · cases h
set_option maxRecDepth 20000 in
theorem hm_X9_init (l : Launch) : hw_M l yX9_init cX9_init 4 hf_X9_init 1 1 96 := by
  refine hw_mk (X := hx_X9_init) (cd := hcd_X9_init) (fu := 3000) (by decide) (by decide) (by decide +kernel) (fun as w x h => ?_) ?_
  · unfold hf_X9_init at h
    split at h
    · exact ⟨⟨by show 4 ≤ 4; decide, fun v hv => by simp only [List.mem_cons, List.not_mem_nil, or_false] at hv; rcases hv with rfl | rfl | rfl | rfl <;> trivial⟩, h⟩
    · cases h
  · intro p e R s m args below meth c Q base dC dI cA S hkn hnm hR hMC
    refine ⟨fun idx ci k i f hh => ?_, fun idx ci hh => ?_, fun idx t C hh => ?_, fun idx hh h1 => ?_, fun pc n mc ms F hh => ?_⟩
    · exact sv_lk_all (L := [(9, (9, (0, (true, true)))), (15, (9, (1, (true, true)))), (18, (9, (2, (false, true)))), (22, (9, (3, (false, true))))]) (P := fun idx (x : Nat × (Nat × (Bool × Bool))) => ∃ q : vw_C, vwCl[x.1]? = some q ∧ x.2.1 < q.2.2 ∧ Cond.fieldLink yX9_init.cls idx (q.2.1 x.2.1).1 (q.2.1 x.2.1).2.1 (q.2.1 x.2.1).2.2.1 ∈ gw_tbl ∧ (q.2.1 x.2.1).2.2.2 = x.2.2.2 ∧ (x.2.2.2 = true → (q.2.1 x.2.1).1 = yX9_init.cls ∧ meth.name = "<init>") ∧ (x.2.2.1 = true → parseFieldDescriptor (q.2.1 x.2.1).2.2.1 = some .int) ∧ (x.2.2.1 = false → ∃ ty, parseFieldDescriptor (q.2.1 x.2.1).2.2.1 = some ty ∧ ∀ a, narrow ty (.ref a) = .ref a ∧ fits ty (.ref a) = true)) (List.forall_mem_cons.mpr ⟨⟨(RX9, TX9, 4), rfl, (by decide), tw_871, rfl, (fun _ => ⟨rfl, hnm⟩), (fun _ => by decide +kernel), (fun h => by cases h)⟩, List.forall_mem_cons.mpr ⟨⟨(RX9, TX9, 4), rfl, (by decide), tw_874, rfl, (fun _ => ⟨rfl, hnm⟩), (fun _ => by decide +kernel), (fun h => by cases h)⟩, List.forall_mem_cons.mpr ⟨⟨(RX9, TX9, 4), rfl, (by decide), tw_876, rfl, (fun _ => ⟨rfl, hnm⟩), (fun h => by cases h), (fun _ => ⟨tyX9 2, tyX9_ok 2 (by decide), fun _ => ⟨rfl, rfl⟩⟩)⟩, List.forall_mem_cons.mpr ⟨⟨(RX9, TX9, 4), rfl, (by decide), tw_877, rfl, (fun _ => ⟨rfl, hnm⟩), (fun h => by cases h), (fun _ => ⟨tyX9 3, tyX9_ok 3 (by decide), fun _ => ⟨rfl, rfl⟩⟩)⟩, fun _ h => absurd h List.not_mem_nil⟩⟩⟩⟩) idx (ci, (k, (i, f))) hh
    · exact sv_lk_all (L := []) (P := fun idx (ci : Nat) => ∃ (q : vw_C) (tyf : Nat → FieldType), vwCl[ci]? = some q ∧ (∀ k, k < q.2.2 → parseFieldDescriptor (q.2.1 k).2.2.1 = some (tyf k)) ∧ (∀ k, k < q.2.2 → defaultValue (tyf k) = hw_z ci k) ∧ Cond.classLink yX9_init.cls idx q.1 ∈ gw_tbl ∧ Cond.instantiable q.1 q.2.2 ∈ gw_tbl ∧ Cond.initialized q.1 ∈ gw_tbl) (fun _ h => absurd h List.not_mem_nil) idx ci hh
    · exact sv_lk_all (L := []) (P := fun idx (x : Nat × String) => (sv_tys cA)[x.1]? = some (cA x.1, .object x.2) ∧ Cond.classLink yX9_init.cls idx x.2 ∈ gw_tbl ∧ x.2 ∈ hw_over) (fun _ h => absurd h List.not_mem_nil) idx (t, C) hh
    · have e := Nat.eq_of_beq_eq_true hh
      have e : idx = 3 := e
      subst e
      exact ⟨tw_870, tw_80, tw_81⟩
    · exact sv_lk_all (L := []) (P := fun pc (x : Nat × (Nat × (Nat × hw_F))) => hw_cok p l e R s m args below meth c Q base dC dI cA 4 1 96 pc x.1 x.2.1 x.2.2.1 x.2.2.2) (fun _ h => absurd h List.not_mem_nil) pc (n, (mc, (ms, F))) hh
