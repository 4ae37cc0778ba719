/-! ===== the constructors ===== -/
theorem tw_100 : Cond.instanceMethod ⟨"OneStroke$Eager", "<init>", "()V"⟩ ∈ gw_tbl := gw_at 100 (by decide +kernel) rfl
theorem tw_1000 : Cond.fieldLink "OneStrokeModel" 37 "OneStrokeModel" "heldSize" "[I" ∈ gw_tbl := gw_at 1000 (by decide +kernel) rfl
theorem tw_1001 : Cond.fieldLink "OneStrokeModel" 40 "OneStrokeModel" "heldRow" "[I" ∈ gw_tbl := gw_at 1001 (by decide +kernel) rfl
theorem tw_1002 : Cond.fieldLink "OneStrokeModel" 43 "OneStrokeModel" "was" "[I" ∈ gw_tbl := gw_at 1002 (by decide +kernel) rfl
theorem tw_1003 : Cond.fieldLink "OneStrokeModel" 46 "OneStrokeModel" "close" "[I" ∈ gw_tbl := gw_at 1003 (by decide +kernel) rfl
theorem tw_1004 : Cond.fieldLink "OneStrokeModel" 49 "OneStrokeModel" "firstIn" "[I" ∈ gw_tbl := gw_at 1004 (by decide +kernel) rfl
theorem tw_1006 : Cond.fieldLink "OneStrokeModel" 52 "OneStrokeModel" "tape" "[I" ∈ gw_tbl := gw_at 1006 (by decide +kernel) rfl
theorem tw_101 : Cond.code yX2_init cX2_init 1 none ∈ gw_tbl := gw_at 101 (by decide +kernel) rfl
theorem tw_1018 : Cond.fieldLink "OneStrokeModel" 55 "OneStrokeModel" "named" "[I" ∈ gw_tbl := gw_at 1018 (by decide +kernel) rfl
theorem tw_1019 : Cond.fieldLink "OneStrokeModel" 58 "OneStrokeModel" "pile" "[I" ∈ gw_tbl := gw_at 1019 (by decide +kernel) rfl
theorem tw_1020 : Cond.fieldLink "OneStrokeModel" 61 "OneStrokeModel" "carried" "[I" ∈ gw_tbl := gw_at 1020 (by decide +kernel) rfl
theorem tw_1021 : Cond.fieldLink "OneStrokeModel" 64 "OneStrokeModel" "waits" "[I" ∈ gw_tbl := gw_at 1021 (by decide +kernel) rfl
theorem tw_1023 : Cond.fieldLink "OneStrokeModel" 67 "OneStrokeModel" "rowDue" "[I" ∈ gw_tbl := gw_at 1023 (by decide +kernel) rfl
theorem tw_104 : Cond.classLink "OneStroke" 16 "OneStroke$Late" ∈ gw_tbl := gw_at 104 (by decide +kernel) rfl
theorem tw_105 : Cond.instantiable "OneStroke$Late" 0 ∈ gw_tbl := gw_at 105 (by decide +kernel) rfl
theorem tw_107 : Cond.instanceMethod ⟨"OneStroke$Late", "<init>", "()V"⟩ ∈ gw_tbl := gw_at 107 (by decide +kernel) rfl
theorem tw_108 : Cond.code yX4_init cX4_init 1 none ∈ gw_tbl := gw_at 108 (by decide +kernel) rfl
theorem tw_111 : Cond.classLink "OneStroke" 19 "OneStroke$Traitor" ∈ gw_tbl := gw_at 111 (by decide +kernel) rfl
theorem tw_112 : Cond.instantiable "OneStroke$Traitor" 0 ∈ gw_tbl := gw_at 112 (by decide +kernel) rfl
theorem tw_114 : Cond.instanceMethod ⟨"OneStroke$Traitor", "<init>", "()V"⟩ ∈ gw_tbl := gw_at 114 (by decide +kernel) rfl
theorem tw_115 : Cond.code yX10_init cX10_init 1 none ∈ gw_tbl := gw_at 115 (by decide +kernel) rfl
theorem tw_118 : Cond.classLink "OneStroke" 22 "OneStroke$Deaf" ∈ gw_tbl := gw_at 118 (by decide +kernel) rfl
theorem tw_119 : Cond.instantiable "OneStroke$Deaf" 0 ∈ gw_tbl := gw_at 119 (by decide +kernel) rfl
theorem tw_121 : Cond.instanceMethod ⟨"OneStroke$Deaf", "<init>", "()V"⟩ ∈ gw_tbl := gw_at 121 (by decide +kernel) rfl
theorem tw_122 : Cond.code yX0_init cX0_init 1 none ∈ gw_tbl := gw_at 122 (by decide +kernel) rfl
theorem tw_125 : Cond.classLink "OneStroke" 25 "OneStroke$Line" ∈ gw_tbl := gw_at 125 (by decide +kernel) rfl
theorem tw_126 : Cond.instantiable "OneStroke$Line" 9 ∈ gw_tbl := gw_at 126 (by decide +kernel) rfl
theorem tw_127 : Cond.methodLink "OneStroke" 27 ⟨"OneStroke$Line", "<init>", "([LOneStroke$Kind;)V"⟩ ∈ gw_tbl := gw_at 127 (by decide +kernel) rfl
theorem tw_128 : Cond.instanceMethod ⟨"OneStroke$Line", "<init>", "([LOneStroke$Kind;)V"⟩ ∈ gw_tbl := gw_at 128 (by decide +kernel) rfl
theorem tw_129 : Cond.code yX5_init cX5_init 3 none ∈ gw_tbl := gw_at 129 (by decide +kernel) rfl
theorem tw_130 : Cond.methodLink "OneStroke$Line" 3 ⟨"java/lang/Object", "<init>", "()V"⟩ ∈ gw_tbl := gw_at 130 (by decide +kernel) rfl
theorem tw_131 : Cond.classLink "OneStroke$Line" 15 "OneStroke$Drummer" ∈ gw_tbl := gw_at 131 (by decide +kernel) rfl
theorem tw_133 : Cond.instantiable "OneStroke$Drummer" 8 ∈ gw_tbl := gw_at 133 (by decide +kernel) rfl
theorem tw_135 : Cond.instanceMethod ⟨"OneStroke$Drummer", "<init>", "()V"⟩ ∈ gw_tbl := gw_at 135 (by decide +kernel) rfl
theorem tw_136 : Cond.code yX1_init cX1_init 1 none ∈ gw_tbl := gw_at 136 (by decide +kernel) rfl
theorem tw_137 : Cond.methodLink "OneStroke$Drummer" 3 ⟨"java/lang/Object", "<init>", "()V"⟩ ∈ gw_tbl := gw_at 137 (by decide +kernel) rfl
theorem tw_177 : Cond.classLink "OneStroke$Line" 22 "OneStroke$Text" ∈ gw_tbl := gw_at 177 (by decide +kernel) rfl
theorem tw_179 : Cond.methodLink "OneStroke$Line" 32 ⟨"java/util/Arrays", "fill", "([II)V"⟩ ∈ gw_tbl := gw_at 179 (by decide +kernel) rfl
theorem tw_182 : Cond.fieldLink "OneStroke$Line" 9 "OneStroke$Line" "kinds" "[LOneStroke$Kind;" ∈ gw_tbl := gw_at 182 (by decide +kernel) rfl
theorem tw_183 : Cond.fieldLink "OneStroke$Line" 17 "OneStroke$Line" "drummers" "[LOneStroke$Drummer;" ∈ gw_tbl := gw_at 183 (by decide +kernel) rfl
theorem tw_185 : Cond.fieldLink "OneStroke$Line" 24 "OneStroke$Line" "texts" "[LOneStroke$Text;" ∈ gw_tbl := gw_at 185 (by decide +kernel) rfl
theorem tw_187 : Cond.fieldLink "OneStroke$Line" 28 "OneStroke$Line" "laws" "[I" ∈ gw_tbl := gw_at 187 (by decide +kernel) rfl
theorem tw_195 : Cond.fieldLink "OneStroke$Line" 38 "OneStroke$Line" "z" "I" ∈ gw_tbl := gw_at 195 (by decide +kernel) rfl
theorem tw_219 : Cond.classLink "OneStroke" 42 "OneStroke$Tape" ∈ gw_tbl := gw_at 219 (by decide +kernel) rfl
theorem tw_220 : Cond.instantiable "OneStroke$Tape" 9 ∈ gw_tbl := gw_at 220 (by decide +kernel) rfl
theorem tw_221 : Cond.methodLink "OneStroke" 44 ⟨"OneStroke$Tape", "<init>", "()V"⟩ ∈ gw_tbl := gw_at 221 (by decide +kernel) rfl
theorem tw_222 : Cond.instanceMethod ⟨"OneStroke$Tape", "<init>", "()V"⟩ ∈ gw_tbl := gw_at 222 (by decide +kernel) rfl
theorem tw_223 : Cond.code yX8_init cX8_init 1 none ∈ gw_tbl := gw_at 223 (by decide +kernel) rfl
theorem tw_224 : Cond.methodLink "OneStroke$Tape" 3 ⟨"java/lang/Object", "<init>", "()V"⟩ ∈ gw_tbl := gw_at 224 (by decide +kernel) rfl
theorem tw_225 : Cond.fieldLink "OneStroke$Tape" 9 "OneStroke$Tape" "bytes" "[B" ∈ gw_tbl := gw_at 225 (by decide +kernel) rfl
theorem tw_235 : Cond.fieldLink "OneStroke$Tape" 15 "OneStroke$Tape" "codes" "[I" ∈ gw_tbl := gw_at 235 (by decide +kernel) rfl
theorem tw_256 : Cond.classLink "OneStroke" 49 "OneStroke$Sheet" ∈ gw_tbl := gw_at 256 (by decide +kernel) rfl
theorem tw_258 : Cond.instantiable "OneStroke$Sheet" 3 ∈ gw_tbl := gw_at 258 (by decide +kernel) rfl
theorem tw_259 : Cond.methodLink "OneStroke" 55 ⟨"OneStroke$Sheet", "<init>", "()V"⟩ ∈ gw_tbl := gw_at 259 (by decide +kernel) rfl
theorem tw_260 : Cond.instanceMethod ⟨"OneStroke$Sheet", "<init>", "()V"⟩ ∈ gw_tbl := gw_at 260 (by decide +kernel) rfl
theorem tw_261 : Cond.code yX6_init cX6_init 1 none ∈ gw_tbl := gw_at 261 (by decide +kernel) rfl
theorem tw_262 : Cond.methodLink "OneStroke$Sheet" 3 ⟨"java/lang/Object", "<init>", "()V"⟩ ∈ gw_tbl := gw_at 262 (by decide +kernel) rfl
theorem tw_263 : Cond.fieldLink "OneStroke$Sheet" 9 "OneStroke$Sheet" "sort" "I" ∈ gw_tbl := gw_at 263 (by decide +kernel) rfl
theorem tw_267 : Cond.fieldLink "OneStroke$Sheet" 15 "OneStroke$Sheet" "places" "[I" ∈ gw_tbl := gw_at 267 (by decide +kernel) rfl
theorem tw_276 : Cond.classLink "OneStroke" 63 "OneStroke$Drummer" ∈ gw_tbl := gw_at 276 (by decide +kernel) rfl
theorem tw_278 : Cond.fieldLink "OneStroke" 30 "OneStroke" "now" "LOneStroke$Line;" ∈ gw_tbl := gw_at 278 (by decide +kernel) rfl
theorem tw_279 : Cond.fieldLink "OneStroke" 36 "OneStroke" "image" "LOneStroke$Line;" ∈ gw_tbl := gw_at 279 (by decide +kernel) rfl
theorem tw_280 : Cond.fieldLink "OneStroke" 39 "OneStroke" "thought" "LOneStroke$Line;" ∈ gw_tbl := gw_at 280 (by decide +kernel) rfl
theorem tw_282 : Cond.fieldLink "OneStroke" 45 "OneStroke" "tape" "LOneStroke$Tape;" ∈ gw_tbl := gw_at 282 (by decide +kernel) rfl
theorem tw_283 : Cond.fieldLink "OneStroke" 51 "OneStroke" "sheets" "[LOneStroke$Sheet;" ∈ gw_tbl := gw_at 283 (by decide +kernel) rfl
theorem tw_284 : Cond.fieldLink "OneStroke" 56 "OneStroke" "held" "[I" ∈ gw_tbl := gw_at 284 (by decide +kernel) rfl
theorem tw_285 : Cond.fieldLink "OneStroke" 60 "OneStroke" "heldNumbers" "[I" ∈ gw_tbl := gw_at 285 (by decide +kernel) rfl
theorem tw_286 : Cond.fieldLink "OneStroke" 65 "OneStroke" "heldDrummers" "[LOneStroke$Drummer;" ∈ gw_tbl := gw_at 286 (by decide +kernel) rfl
theorem tw_287 : Cond.fieldLink "OneStroke" 69 "OneStroke" "heldSheets" "[LOneStroke$Sheet;" ∈ gw_tbl := gw_at 287 (by decide +kernel) rfl
theorem tw_288 : Cond.fieldLink "OneStroke" 73 "OneStroke" "waiting" "[I" ∈ gw_tbl := gw_at 288 (by decide +kernel) rfl
theorem tw_290 : Cond.fieldLink "OneStroke" 76 "OneStroke" "found" "[I" ∈ gw_tbl := gw_at 290 (by decide +kernel) rfl
theorem tw_79 : Cond.methodLink "OneStroke" 1 ⟨"java/lang/Object", "<init>", "()V"⟩ ∈ gw_tbl := gw_at 79 (by decide +kernel) rfl
theorem tw_80 : Cond.instanceMethod ⟨"java/lang/Object", "<init>", "()V"⟩ ∈ gw_tbl := gw_at 80 (by decide +kernel) rfl
theorem tw_81 : Cond.code Lib.objectInit ⟨#[0xb1]⟩ 1 none ∈ gw_tbl := gw_at 81 (by decide +kernel) rfl
theorem tw_82 : Cond.classLink "OneStroke" 7 "OneStroke$Kind" ∈ gw_tbl := gw_at 82 (by decide +kernel) rfl
theorem tw_84 : Cond.instantiable "OneStroke$Kind" 0 ∈ gw_tbl := gw_at 84 (by decide +kernel) rfl
theorem tw_86 : Cond.instanceMethod ⟨"OneStroke$Kind", "<init>", "()V"⟩ ∈ gw_tbl := gw_at 86 (by decide +kernel) rfl
theorem tw_87 : Cond.code yX3_init cX3_init 1 none ∈ gw_tbl := gw_at 87 (by decide +kernel) rfl
theorem tw_88 : Cond.methodLink "OneStroke$Kind" 3 ⟨"java/lang/Object", "<init>", "()V"⟩ ∈ gw_tbl := gw_at 88 (by decide +kernel) rfl
theorem tw_90 : Cond.classLink "OneStroke" 10 "OneStroke$Sleepy" ∈ gw_tbl := gw_at 90 (by decide +kernel) rfl
theorem tw_91 : Cond.instantiable "OneStroke$Sleepy" 0 ∈ gw_tbl := gw_at 91 (by decide +kernel) rfl
theorem tw_93 : Cond.instanceMethod ⟨"OneStroke$Sleepy", "<init>", "()V"⟩ ∈ gw_tbl := gw_at 93 (by decide +kernel) rfl
theorem tw_94 : Cond.code yX7_init cX7_init 1 none ∈ gw_tbl := gw_at 94 (by decide +kernel) rfl
theorem tw_97 : Cond.classLink "OneStroke" 13 "OneStroke$Eager" ∈ gw_tbl := gw_at 97 (by decide +kernel) rfl
theorem tw_98 : Cond.instantiable "OneStroke$Eager" 0 ∈ gw_tbl := gw_at 98 (by decide +kernel) rfl
theorem tw_989 : Cond.methodLink "OneStrokeModel" 1 ⟨"java/lang/Object", "<init>", "()V"⟩ ∈ gw_tbl := gw_at 989 (by decide +kernel) rfl
theorem tw_990 : Cond.fieldLink "OneStrokeModel" 7 "OneStrokeModel" "s" "[I" ∈ gw_tbl := gw_at 990 (by decide +kernel) rfl
theorem tw_991 : Cond.fieldLink "OneStrokeModel" 13 "OneStrokeModel" "image" "[I" ∈ gw_tbl := gw_at 991 (by decide +kernel) rfl
theorem tw_992 : Cond.fieldLink "OneStrokeModel" 16 "OneStrokeModel" "aside" "[I" ∈ gw_tbl := gw_at 992 (by decide +kernel) rfl
theorem tw_994 : Cond.fieldLink "OneStrokeModel" 19 "OneStrokeModel" "tSort" "[I" ∈ gw_tbl := gw_at 994 (by decide +kernel) rfl
theorem tw_995 : Cond.fieldLink "OneStrokeModel" 22 "OneStrokeModel" "tSize" "[I" ∈ gw_tbl := gw_at 995 (by decide +kernel) rfl
theorem tw_996 : Cond.fieldLink "OneStrokeModel" 25 "OneStrokeModel" "tNumber" "[I" ∈ gw_tbl := gw_at 996 (by decide +kernel) rfl
theorem tw_997 : Cond.fieldLink "OneStrokeModel" 28 "OneStrokeModel" "held" "[I" ∈ gw_tbl := gw_at 997 (by decide +kernel) rfl
theorem tw_998 : Cond.fieldLink "OneStrokeModel" 31 "OneStrokeModel" "heldNumber" "[I" ∈ gw_tbl := gw_at 998 (by decide +kernel) rfl
theorem tw_999 : Cond.fieldLink "OneStrokeModel" 34 "OneStrokeModel" "heldWorth" "[I" ∈ gw_tbl := gw_at 999 (by decide +kernel) rfl
def hcd_X3_init : hw_Cd := [(0, (.aload_n 0, (1, 0))), (1, (.invokespecial 3, (3, 0))), (4, (.return_, (1, 0)))]
def hx_X3_init : hw_T := ([], ([], ([], (3, []))))
def hf_X3_init : hw_F := fun as w => match as with
  | [.inr (.inr (some q0))] => hw_ex hx_X3_init 0 0 hcd_X3_init 3000 0 (sv_e0 1 [.inr (.inr (some q0))]) [] w 0 0
  | _ => none
theorem hg_X3_init (as : List sv_V) (w x : List hw_E) (h : hf_X3_init as w = some x) : ∃ r j as', as = sv_R r j :: as' := by
  unfold hf_X3_init at h
  split at h
  · exact ⟨_, _, _, rfl⟩
  · cases h
set_option maxRecDepth 20000 in
theorem hm_X3_init (l : Launch) : hw_M l yX3_init cX3_init 1 hf_X3_init 1 0 0 := by
  refine hw_mk (X := hx_X3_init) (cd := hcd_X3_init) (fu := 3000) (by decide) (by decide) (by decide +kernel) (fun as w x h => ?_) ?_
  · unfold hf_X3_init at h
    split at h
    · exact ⟨⟨by show 1 ≤ 1; decide, fun v hv => by simp only [List.mem_cons, List.not_mem_nil, or_false] at hv; rcases hv with rfl <;> trivial⟩, h⟩
    · cases h
  · intro p e R s m args below meth c Q base dC dI cA S hkn hnm hR hMC
    refine ⟨fun idx ci k i f hh => ?_, fun idx ci hh => ?_, fun idx t C hh => ?_, fun idx hh h1 => ?_, fun pc n mc ms F hh => ?_⟩
    · exact sv_lk_all (L := []) (P := fun idx (x : Nat × (Nat × (Bool × Bool))) => ∃ q : vw_C, vwCl[x.1]? = some q ∧ x.2.1 < q.2.2 ∧ Cond.fieldLink yX3_init.cls idx (q.2.1 x.2.1).1 (q.2.1 x.2.1).2.1 (q.2.1 x.2.1).2.2.1 ∈ gw_tbl ∧ (q.2.1 x.2.1).2.2.2 = x.2.2.2 ∧ (x.2.2.2 = true → (q.2.1 x.2.1).1 = yX3_init.cls ∧ meth.name = "<init>") ∧ (x.2.2.1 = true → parseFieldDescriptor (q.2.1 x.2.1).2.2.1 = some .int) ∧ (x.2.2.1 = false → ∃ ty, parseFieldDescriptor (q.2.1 x.2.1).2.2.1 = some ty ∧ ∀ a, narrow ty (.ref a) = .ref a ∧ fits ty (.ref a) = true)) (fun _ h => absurd h List.not_mem_nil) idx (ci, (k, (i, f))) hh
    · exact sv_lk_all (L := []) (P := fun idx (ci : Nat) => ∃ (q : vw_C) (tyf : Nat → FieldType), vwCl[ci]? = some q ∧ (∀ k, k < q.2.2 → parseFieldDescriptor (q.2.1 k).2.2.1 = some (tyf k)) ∧ (∀ k, k < q.2.2 → defaultValue (tyf k) = hw_z ci k) ∧ Cond.classLink yX3_init.cls idx q.1 ∈ gw_tbl ∧ Cond.instantiable q.1 q.2.2 ∈ gw_tbl ∧ Cond.initialized q.1 ∈ gw_tbl) (fun _ h => absurd h List.not_mem_nil) idx ci hh
    · exact sv_lk_all (L := []) (P := fun idx (x : Nat × String) => (sv_tys cA)[x.1]? = some (cA x.1, .object x.2) ∧ Cond.classLink yX3_init.cls idx x.2 ∈ gw_tbl ∧ x.2 ∈ hw_over) (fun _ h => absurd h List.not_mem_nil) idx (t, C) hh
    · have e := Nat.eq_of_beq_eq_true hh
      have e : idx = 3 := e
      subst e
      exact ⟨tw_88, tw_80, tw_81⟩
    · exact sv_lk_all (L := []) (P := fun pc (x : Nat × (Nat × (Nat × hw_F))) => hw_cok p l e R s m args below meth c Q base dC dI cA 1 0 0 pc x.1 x.2.1 x.2.2.1 x.2.2.2) (fun _ h => absurd h List.not_mem_nil) pc (n, (mc, (ms, F))) hh
def hcd_X7_init : hw_Cd := [(0, (.aload_n 0, (1, 0))), (1, (.invokespecial 1, (3, 0))), (4, (.return_, (1, 0)))]
def hx_X7_init : hw_T := ([], ([], ([], (0, [(1, (1, (0, (0, hf_X3_init))))]))))
def hf_X7_init : hw_F := fun as w => match as with
  | [.inr (.inr (some q0))] => hw_ex hx_X7_init 0 0 hcd_X7_init 3000 0 (sv_e0 1 [.inr (.inr (some q0))]) [] w 0 0
  | _ => none
theorem hg_X7_init (as : List sv_V) (w x : List hw_E) (h : hf_X7_init as w = some x) : ∃ r j as', as = sv_R r j :: as' := by
  unfold hf_X7_init at h
  split at h
  · exact ⟨_, _, _, rfl⟩
  · cases h
set_option maxRecDepth 20000 in
theorem hm_X7_init (l : Launch) : hw_M l yX7_init cX7_init 1 hf_X7_init 2 0 0 := by
  refine hw_mk (X := hx_X7_init) (cd := hcd_X7_init) (fu := 3000) (by decide) (by decide) (by decide +kernel) (fun as w x h => ?_) ?_
  · unfold hf_X7_init at h
    split at h
    · exact ⟨⟨by show 1 ≤ 1; decide, fun v hv => by simp only [List.mem_cons, List.not_mem_nil, or_false] at hv; rcases hv with rfl <;> trivial⟩, h⟩
    · cases h
  · intro p e R s m args below meth c Q base dC dI cA S hkn hnm hR hMC
    refine ⟨fun idx ci k i f hh => ?_, fun idx ci hh => ?_, fun idx t C hh => ?_, fun idx hh h1 => ?_, fun pc n mc ms F hh => ?_⟩
    · exact sv_lk_all (L := []) (P := fun idx (x : Nat × (Nat × (Bool × Bool))) => ∃ q : vw_C, vwCl[x.1]? = some q ∧ x.2.1 < q.2.2 ∧ Cond.fieldLink yX7_init.cls idx (q.2.1 x.2.1).1 (q.2.1 x.2.1).2.1 (q.2.1 x.2.1).2.2.1 ∈ gw_tbl ∧ (q.2.1 x.2.1).2.2.2 = x.2.2.2 ∧ (x.2.2.2 = true → (q.2.1 x.2.1).1 = yX7_init.cls ∧ meth.name = "<init>") ∧ (x.2.2.1 = true → parseFieldDescriptor (q.2.1 x.2.1).2.2.1 = some .int) ∧ (x.2.2.1 = false → ∃ ty, parseFieldDescriptor (q.2.1 x.2.1).2.2.1 = some ty ∧ ∀ a, narrow ty (.ref a) = .ref a ∧ fits ty (.ref a) = true)) (fun _ h => absurd h List.not_mem_nil) idx (ci, (k, (i, f))) hh
    · exact sv_lk_all (L := []) (P := fun idx (ci : Nat) => ∃ (q : vw_C) (tyf : Nat → FieldType), vwCl[ci]? = some q ∧ (∀ k, k < q.2.2 → parseFieldDescriptor (q.2.1 k).2.2.1 = some (tyf k)) ∧ (∀ k, k < q.2.2 → defaultValue (tyf k) = hw_z ci k) ∧ Cond.classLink yX7_init.cls idx q.1 ∈ gw_tbl ∧ Cond.instantiable q.1 q.2.2 ∈ gw_tbl ∧ Cond.initialized q.1 ∈ gw_tbl) (fun _ h => absurd h List.not_mem_nil) idx ci hh
    · exact sv_lk_all (L := []) (P := fun idx (x : Nat × String) => (sv_tys cA)[x.1]? = some (cA x.1, .object x.2) ∧ Cond.classLink yX7_init.cls idx x.2 ∈ gw_tbl ∧ x.2 ∈ hw_over) (fun _ h => absurd h List.not_mem_nil) idx (t, C) hh
    · have e : idx = 0 := Nat.eq_of_beq_eq_true hh
      omega
    · exact sv_lk_all (L := [(1, (1, (0, (0, hf_X3_init))))]) (P := fun pc (x : Nat × (Nat × (Nat × hw_F))) => hw_cok p l e R s m args below meth c Q base dC dI cA 1 0 0 pc x.1 x.2.1 x.2.2.1 x.2.2.2) (List.forall_mem_cons.mpr ⟨hw_cIN (idx := 1) (n := 0) S hkn (hm_X3_init l) ⟨Nat.le_trans (by decide) hR.1, Nat.le_trans (by decide) hR.2⟩ (by decide) hMC hg_X3_init (by simp [hw_nest]; decide) (sv_w3 tw_86 tw_54 tw_87) rfl ⟨(by decide), (by decide), (by decide +kernel)⟩ (by decide +kernel), fun _ h => absurd h List.not_mem_nil⟩) pc (n, (mc, (ms, F))) hh
def hcd_X2_init : hw_Cd := [(0, (.aload_n 0, (1, 0))), (1, (.invokespecial 3, (3, 0))), (4, (.return_, (1, 0)))]
def hx_X2_init : hw_T := ([], ([], ([], (0, [(1, (1, (0, (0, hf_X3_init))))]))))
def hf_X2_init : hw_F := fun as w => match as with
  | [.inr (.inr (some q0))] => hw_ex hx_X2_init 0 0 hcd_X2_init 3000 0 (sv_e0 1 [.inr (.inr (some q0))]) [] w 0 0
  | _ => none
theorem hg_X2_init (as : List sv_V) (w x : List hw_E) (h : hf_X2_init as w = some x) : ∃ r j as', as = sv_R r j :: as' := by
  unfold hf_X2_init at h
  split at h
  · exact ⟨_, _, _, rfl⟩
  · cases h
set_option maxRecDepth 20000 in
theorem hm_X2_init (l : Launch) : hw_M l yX2_init cX2_init 1 hf_X2_init 2 0 0 := by
  refine hw_mk (X := hx_X2_init) (cd := hcd_X2_init) (fu := 3000) (by decide) (by decide) (by decide +kernel) (fun as w x h => ?_) ?_
  · unfold hf_X2_init at h
    split at h
    · exact ⟨⟨by show 1 ≤ 1; decide, fun v hv => by simp only [List.mem_cons, List.not_mem_nil, or_false] at hv; rcases hv with rfl <;> trivial⟩, h⟩
    · cases h
  · intro p e R s m args below meth c Q base dC dI cA S hkn hnm hR hMC
    refine ⟨fun idx ci k i f hh => ?_, fun idx ci hh => ?_, fun idx t C hh => ?_, fun idx hh h1 => ?_, fun pc n mc ms F hh => ?_⟩
    · exact sv_lk_all (L := []) (P := fun idx (x : Nat × (Nat × (Bool × Bool))) => ∃ q : vw_C, vwCl[x.1]? = some q ∧ x.2.1 < q.2.2 ∧ Cond.fieldLink yX2_init.cls idx (q.2.1 x.2.1).1 (q.2.1 x.2.1).2.1 (q.2.1 x.2.1).2.2.1 ∈ gw_tbl ∧ (q.2.1 x.2.1).2.2.2 = x.2.2.2 ∧ (x.2.2.2 = true → (q.2.1 x.2.1).1 = yX2_init.cls ∧ meth.name = "<init>") ∧ (x.2.2.1 = true → parseFieldDescriptor (q.2.1 x.2.1).2.2.1 = some .int) ∧ (x.2.2.1 = false → ∃ ty, parseFieldDescriptor (q.2.1 x.2.1).2.2.1 = some ty ∧ ∀ a, narrow ty (.ref a) = .ref a ∧ fits ty (.ref a) = true)) (fun _ h => absurd h List.not_mem_nil) idx (ci, (k, (i, f))) hh
    · exact sv_lk_all (L := []) (P := fun idx (ci : Nat) => ∃ (q : vw_C) (tyf : Nat → FieldType), vwCl[ci]? = some q ∧ (∀ k, k < q.2.2 → parseFieldDescriptor (q.2.1 k).2.2.1 = some (tyf k)) ∧ (∀ k, k < q.2.2 → defaultValue (tyf k) = hw_z ci k) ∧ Cond.classLink yX2_init.cls idx q.1 ∈ gw_tbl ∧ Cond.instantiable q.1 q.2.2 ∈ gw_tbl ∧ Cond.initialized q.1 ∈ gw_tbl) (fun _ h => absurd h List.not_mem_nil) idx ci hh
    · exact sv_lk_all (L := []) (P := fun idx (x : Nat × String) => (sv_tys cA)[x.1]? = some (cA x.1, .object x.2) ∧ Cond.classLink yX2_init.cls idx x.2 ∈ gw_tbl ∧ x.2 ∈ hw_over) (fun _ h => absurd h List.not_mem_nil) idx (t, C) hh
    · have e : idx = 0 := Nat.eq_of_beq_eq_true hh
      omega
    · exact sv_lk_all (L := [(1, (1, (0, (0, hf_X3_init))))]) (P := fun pc (x : Nat × (Nat × (Nat × hw_F))) => hw_cok p l e R s m args below meth c Q base dC dI cA 1 0 0 pc x.1 x.2.1 x.2.2.1 x.2.2.2) (List.forall_mem_cons.mpr ⟨hw_cIN (idx := 3) (n := 0) S hkn (hm_X3_init l) ⟨Nat.le_trans (by decide) hR.1, Nat.le_trans (by decide) hR.2⟩ (by decide) hMC hg_X3_init (by simp [hw_nest]; decide) (sv_w3 tw_86 tw_54 tw_87) rfl ⟨(by decide), (by decide), (by decide +kernel)⟩ (by decide +kernel), fun _ h => absurd h List.not_mem_nil⟩) pc (n, (mc, (ms, F))) hh
def hcd_X0_init : hw_Cd := [(0, (.aload_n 0, (1, 0))), (1, (.invokespecial 1, (3, 0))), (4, (.return_, (1, 0)))]
def hx_X0_init : hw_T := ([], ([], ([], (0, [(1, (1, (0, (0, hf_X3_init))))]))))
def hf_X0_init : hw_F := fun as w => match as with
  | [.inr (.inr (some q0))] => hw_ex hx_X0_init 0 0 hcd_X0_init 3000 0 (sv_e0 1 [.inr (.inr (some q0))]) [] w 0 0
  | _ => none
theorem hg_X0_init (as : List sv_V) (w x : List hw_E) (h : hf_X0_init as w = some x) : ∃ r j as', as = sv_R r j :: as' := by
  unfold hf_X0_init at h
  split at h
  · exact ⟨_, _, _, rfl⟩
  · cases h
set_option maxRecDepth 20000 in
theorem hm_X0_init (l : Launch) : hw_M l yX0_init cX0_init 1 hf_X0_init 2 0 0 := by
  refine hw_mk (X := hx_X0_init) (cd := hcd_X0_init) (fu := 3000) (by decide) (by decide) (by decide +kernel) (fun as w x h => ?_) ?_
  · unfold hf_X0_init at h
    split at h
    · exact ⟨⟨by show 1 ≤ 1; decide, fun v hv => by simp only [List.mem_cons, List.not_mem_nil, or_false] at hv; rcases hv with rfl <;> trivial⟩, h⟩
    · cases h
  · intro p e R s m args below meth c Q base dC dI cA S hkn hnm hR hMC
    refine ⟨fun idx ci k i f hh => ?_, fun idx ci hh => ?_, fun idx t C hh => ?_, fun idx hh h1 => ?_, fun pc n mc ms F hh => ?_⟩
    · exact sv_lk_all (L := []) (P := fun idx (x : Nat × (Nat × (Bool × Bool))) => ∃ q : vw_C, vwCl[x.1]? = some q ∧ x.2.1 < q.2.2 ∧ Cond.fieldLink yX0_init.cls idx (q.2.1 x.2.1).1 (q.2.1 x.2.1).2.1 (q.2.1 x.2.1).2.2.1 ∈ gw_tbl ∧ (q.2.1 x.2.1).2.2.2 = x.2.2.2 ∧ (x.2.2.2 = true → (q.2.1 x.2.1).1 = yX0_init.cls ∧ meth.name = "<init>") ∧ (x.2.2.1 = true → parseFieldDescriptor (q.2.1 x.2.1).2.2.1 = some .int) ∧ (x.2.2.1 = false → ∃ ty, parseFieldDescriptor (q.2.1 x.2.1).2.2.1 = some ty ∧ ∀ a, narrow ty (.ref a) = .ref a ∧ fits ty (.ref a) = true)) (fun _ h => absurd h List.not_mem_nil) idx (ci, (k, (i, f))) hh
    · exact sv_lk_all (L := []) (P := fun idx (ci : Nat) => ∃ (q : vw_C) (tyf : Nat → FieldType), vwCl[ci]? = some q ∧ (∀ k, k < q.2.2 → parseFieldDescriptor (q.2.1 k).2.2.1 = some (tyf k)) ∧ (∀ k, k < q.2.2 → defaultValue (tyf k) = hw_z ci k) ∧ Cond.classLink yX0_init.cls idx q.1 ∈ gw_tbl ∧ Cond.instantiable q.1 q.2.2 ∈ gw_tbl ∧ Cond.initialized q.1 ∈ gw_tbl) (fun _ h => absurd h List.not_mem_nil) idx ci hh
    · exact sv_lk_all (L := []) (P := fun idx (x : Nat × String) => (sv_tys cA)[x.1]? = some (cA x.1, .object x.2) ∧ Cond.classLink yX0_init.cls idx x.2 ∈ gw_tbl ∧ x.2 ∈ hw_over) (fun _ h => absurd h List.not_mem_nil) idx (t, C) hh
    · have e : idx = 0 := Nat.eq_of_beq_eq_true hh
      omega
    · exact sv_lk_all (L := [(1, (1, (0, (0, hf_X3_init))))]) (P := fun pc (x : Nat × (Nat × (Nat × hw_F))) => hw_cok p l e R s m args below meth c Q base dC dI cA 1 0 0 pc x.1 x.2.1 x.2.2.1 x.2.2.2) (List.forall_mem_cons.mpr ⟨hw_cIN (idx := 1) (n := 0) S hkn (hm_X3_init l) ⟨Nat.le_trans (by decide) hR.1, Nat.le_trans (by decide) hR.2⟩ (by decide) hMC hg_X3_init (by simp [hw_nest]; decide) (sv_w3 tw_86 tw_54 tw_87) rfl ⟨(by decide), (by decide), (by decide +kernel)⟩ (by decide +kernel), fun _ h => absurd h List.not_mem_nil⟩) pc (n, (mc, (ms, F))) hh
def hcd_X4_init : hw_Cd := [(0, (.aload_n 0, (1, 0))), (1, (.invokespecial 1, (3, 0))), (4, (.return_, (1, 0)))]
def hx_X4_init : hw_T := ([], ([], ([], (0, [(1, (1, (0, (0, hf_X7_init))))]))))
def hf_X4_init : hw_F := fun as w => match as with
  | [.inr (.inr (some q0))] => hw_ex hx_X4_init 0 0 hcd_X4_init 3000 0 (sv_e0 1 [.inr (.inr (some q0))]) [] w 0 0
  | _ => none
theorem hg_X4_init (as : List sv_V) (w x : List hw_E) (h : hf_X4_init as w = some x) : ∃ r j as', as = sv_R r j :: as' := by
  unfold hf_X4_init at h
  split at h
  · exact ⟨_, _, _, rfl⟩
  · cases h
set_option maxRecDepth 20000 in
theorem hm_X4_init (l : Launch) : hw_M l yX4_init cX4_init 1 hf_X4_init 3 0 0 := by
  refine hw_mk (X := hx_X4_init) (cd := hcd_X4_init) (fu := 3000) (by decide) (by decide) (by decide +kernel) (fun as w x h => ?_) ?_
  · unfold hf_X4_init at h
    split at h
    · exact ⟨⟨by show 1 ≤ 1; decide, fun v hv => by simp only [List.mem_cons, List.not_mem_nil, or_false] at hv; rcases hv with rfl <;> trivial⟩, h⟩
    · cases h
  · intro p e R s m args below meth c Q base dC dI cA S hkn hnm hR hMC
    refine ⟨fun idx ci k i f hh => ?_, fun idx ci hh => ?_, fun idx t C hh => ?_, fun idx hh h1 => ?_, fun pc n mc ms F hh => ?_⟩
    · exact sv_lk_all (L := []) (P := fun idx (x : Nat × (Nat × (Bool × Bool))) => ∃ q : vw_C, vwCl[x.1]? = some q ∧ x.2.1 < q.2.2 ∧ Cond.fieldLink yX4_init.cls idx (q.2.1 x.2.1).1 (q.2.1 x.2.1).2.1 (q.2.1 x.2.1).2.2.1 ∈ gw_tbl ∧ (q.2.1 x.2.1).2.2.2 = x.2.2.2 ∧ (x.2.2.2 = true → (q.2.1 x.2.1).1 = yX4_init.cls ∧ meth.name = "<init>") ∧ (x.2.2.1 = true → parseFieldDescriptor (q.2.1 x.2.1).2.2.1 = some .int) ∧ (x.2.2.1 = false → ∃ ty, parseFieldDescriptor (q.2.1 x.2.1).2.2.1 = some ty ∧ ∀ a, narrow ty (.ref a) = .ref a ∧ fits ty (.ref a) = true)) (fun _ h => absurd h List.not_mem_nil) idx (ci, (k, (i, f))) hh
    · exact sv_lk_all (L := []) (P := fun idx (ci : Nat) => ∃ (q : vw_C) (tyf : Nat → FieldType), vwCl[ci]? = some q ∧ (∀ k, k < q.2.2 → parseFieldDescriptor (q.2.1 k).2.2.1 = some (tyf k)) ∧ (∀ k, k < q.2.2 → defaultValue (tyf k) = hw_z ci k) ∧ Cond.classLink yX4_init.cls idx q.1 ∈ gw_tbl ∧ Cond.instantiable q.1 q.2.2 ∈ gw_tbl ∧ Cond.initialized q.1 ∈ gw_tbl) (fun _ h => absurd h List.not_mem_nil) idx ci hh
    · exact sv_lk_all (L := []) (P := fun idx (x : Nat × String) => (sv_tys cA)[x.1]? = some (cA x.1, .object x.2) ∧ Cond.classLink yX4_init.cls idx x.2 ∈ gw_tbl ∧ x.2 ∈ hw_over) (fun _ h => absurd h List.not_mem_nil) idx (t, C) hh
    · have e : idx = 0 := Nat.eq_of_beq_eq_true hh
      omega
    · exact sv_lk_all (L := [(1, (1, (0, (0, hf_X7_init))))]) (P := fun pc (x : Nat × (Nat × (Nat × hw_F))) => hw_cok p l e R s m args below meth c Q base dC dI cA 1 0 0 pc x.1 x.2.1 x.2.2.1 x.2.2.2) (List.forall_mem_cons.mpr ⟨hw_cIN (idx := 1) (n := 0) S hkn (hm_X7_init l) ⟨Nat.le_trans (by decide) hR.1, Nat.le_trans (by decide) hR.2⟩ (by decide) hMC hg_X7_init (by simp [hw_nest]; decide) (sv_w3 tw_93 tw_55 tw_94) rfl ⟨(by decide), (by decide), (by decide +kernel)⟩ (by decide +kernel), fun _ h => absurd h List.not_mem_nil⟩) pc (n, (mc, (ms, F))) hh
def hcd_X10_init : hw_Cd := [(0, (.aload_n 0, (1, 0))), (1, (.invokespecial 3, (3, 0))), (4, (.return_, (1, 0)))]
def hx_X10_init : hw_T := ([], ([], ([], (0, [(1, (1, (0, (0, hf_X2_init))))]))))
def hf_X10_init : hw_F := fun as w => match as with
  | [.inr (.inr (some q0))] => hw_ex hx_X10_init 0 0 hcd_X10_init 3000 0 (sv_e0 1 [.inr (.inr (some q0))]) [] w 0 0
  | _ => none
theorem hg_X10_init (as : List sv_V) (w x : List hw_E) (h : hf_X10_init as w = some x) : ∃ r j as', as = sv_R r j :: as' := by
  unfold hf_X10_init at h
  split at h
  · exact ⟨_, _, _, rfl⟩
  · cases h
set_option maxRecDepth 20000 in
theorem hm_X10_init (l : Launch) : hw_M l yX10_init cX10_init 1 hf_X10_init 3 0 0 := by
  refine hw_mk (X := hx_X10_init) (cd := hcd_X10_init) (fu := 3000) (by decide) (by decide) (by decide +kernel) (fun as w x h => ?_) ?_
  · unfold hf_X10_init at h
    split at h
    · exact ⟨⟨by show 1 ≤ 1; decide, fun v hv => by simp only [List.mem_cons, List.not_mem_nil, or_false] at hv; rcases hv with rfl <;> trivial⟩, h⟩
    · cases h
  · intro p e R s m args below meth c Q base dC dI cA S hkn hnm hR hMC
    refine ⟨fun idx ci k i f hh => ?_, fun idx ci hh => ?_, fun idx t C hh => ?_, fun idx hh h1 => ?_, fun pc n mc ms F hh => ?_⟩
    · exact sv_lk_all (L := []) (P := fun idx (x : Nat × (Nat × (Bool × Bool))) => ∃ q : vw_C, vwCl[x.1]? = some q ∧ x.2.1 < q.2.2 ∧ Cond.fieldLink yX10_init.cls idx (q.2.1 x.2.1).1 (q.2.1 x.2.1).2.1 (q.2.1 x.2.1).2.2.1 ∈ gw_tbl ∧ (q.2.1 x.2.1).2.2.2 = x.2.2.2 ∧ (x.2.2.2 = true → (q.2.1 x.2.1).1 = yX10_init.cls ∧ meth.name = "<init>") ∧ (x.2.2.1 = true → parseFieldDescriptor (q.2.1 x.2.1).2.2.1 = some .int) ∧ (x.2.2.1 = false → ∃ ty, parseFieldDescriptor (q.2.1 x.2.1).2.2.1 = some ty ∧ ∀ a, narrow ty (.ref a) = .ref a ∧ fits ty (.ref a) = true)) (fun _ h => absurd h List.not_mem_nil) idx (ci, (k, (i, f))) hh
    · exact sv_lk_all (L := []) (P := fun idx (ci : Nat) => ∃ (q : vw_C) (tyf : Nat → FieldType), vwCl[ci]? = some q ∧ (∀ k, k < q.2.2 → parseFieldDescriptor (q.2.1 k).2.2.1 = some (tyf k)) ∧ (∀ k, k < q.2.2 → defaultValue (tyf k) = hw_z ci k) ∧ Cond.classLink yX10_init.cls idx q.1 ∈ gw_tbl ∧ Cond.instantiable q.1 q.2.2 ∈ gw_tbl ∧ Cond.initialized q.1 ∈ gw_tbl) (fun _ h => absurd h List.not_mem_nil) idx ci hh
    · exact sv_lk_all (L := []) (P := fun idx (x : Nat × String) => (sv_tys cA)[x.1]? = some (cA x.1, .object x.2) ∧ Cond.classLink yX10_init.cls idx x.2 ∈ gw_tbl ∧ x.2 ∈ hw_over) (fun _ h => absurd h List.not_mem_nil) idx (t, C) hh
    · have e : idx = 0 := Nat.eq_of_beq_eq_true hh
      omega
    · exact sv_lk_all (L := [(1, (1, (0, (0, hf_X2_init))))]) (P := fun pc (x : Nat × (Nat × (Nat × hw_F))) => hw_cok p l e R s m args below meth c Q base dC dI cA 1 0 0 pc x.1 x.2.1 x.2.2.1 x.2.2.2) (List.forall_mem_cons.mpr ⟨hw_cIN (idx := 3) (n := 0) S hkn (hm_X2_init l) ⟨Nat.le_trans (by decide) hR.1, Nat.le_trans (by decide) hR.2⟩ (by decide) hMC hg_X2_init (by simp [hw_nest]; decide) (sv_w3 tw_100 tw_56 tw_101) rfl ⟨(by decide), (by decide), (by decide +kernel)⟩ (by decide +kernel), fun _ h => absurd h List.not_mem_nil⟩) pc (n, (mc, (ms, F))) hh
def hcd_X1_init : hw_Cd := [(0, (.aload_n 0, (1, 0))), (1, (.invokespecial 3, (3, 0))), (4, (.return_, (1, 0)))]
def hx_X1_init : hw_T := ([], ([], ([], (3, []))))
def hf_X1_init : hw_F := fun as w => match as with
  | [.inr (.inr (some q0))] => hw_ex hx_X1_init 0 0 hcd_X1_init 3000 0 (sv_e0 1 [.inr (.inr (some q0))]) [] w 0 0
  | _ => none
theorem hg_X1_init (as : List sv_V) (w x : List hw_E) (h : hf_X1_init as w = some x) : ∃ r j as', as = sv_R r j :: as' := by
  unfold hf_X1_init at h
  split at h
  · exact ⟨_, _, _, rfl⟩
  · cases h
set_option maxRecDepth 20000 in
theorem hm_X1_init (l : Launch) : hw_M l yX1_init cX1_init 1 hf_X1_init 1 0 0 := by
  refine hw_mk (X := hx_X1_init) (cd := hcd_X1_init) (fu := 3000) (by decide) (by decide) (by decide +kernel) (fun as w x h => ?_) ?_
  · unfold hf_X1_init at h
    split at h
    · exact ⟨⟨by show 1 ≤ 1; decide, fun v hv => by simp only [List.mem_cons, List.not_mem_nil, or_false] at hv; rcases hv with rfl <;> trivial⟩, h⟩
    · cases h
  · intro p e R s m args below meth c Q base dC dI cA S hkn hnm hR hMC
    refine ⟨fun idx ci k i f hh => ?_, fun idx ci hh => ?_, fun idx t C hh => ?_, fun idx hh h1 => ?_, fun pc n mc ms F hh => ?_⟩
    · exact sv_lk_all (L := []) (P := fun idx (x : Nat × (Nat × (Bool × Bool))) => ∃ q : vw_C, vwCl[x.1]? = some q ∧ x.2.1 < q.2.2 ∧ Cond.fieldLink yX1_init.cls idx (q.2.1 x.2.1).1 (q.2.1 x.2.1).2.1 (q.2.1 x.2.1).2.2.1 ∈ gw_tbl ∧ (q.2.1 x.2.1).2.2.2 = x.2.2.2 ∧ (x.2.2.2 = true → (q.2.1 x.2.1).1 = yX1_init.cls ∧ meth.name = "<init>") ∧ (x.2.2.1 = true → parseFieldDescriptor (q.2.1 x.2.1).2.2.1 = some .int) ∧ (x.2.2.1 = false → ∃ ty, parseFieldDescriptor (q.2.1 x.2.1).2.2.1 = some ty ∧ ∀ a, narrow ty (.ref a) = .ref a ∧ fits ty (.ref a) = true)) (fun _ h => absurd h List.not_mem_nil) idx (ci, (k, (i, f))) hh
    · exact sv_lk_all (L := []) (P := fun idx (ci : Nat) => ∃ (q : vw_C) (tyf : Nat → FieldType), vwCl[ci]? = some q ∧ (∀ k, k < q.2.2 → parseFieldDescriptor (q.2.1 k).2.2.1 = some (tyf k)) ∧ (∀ k, k < q.2.2 → defaultValue (tyf k) = hw_z ci k) ∧ Cond.classLink yX1_init.cls idx q.1 ∈ gw_tbl ∧ Cond.instantiable q.1 q.2.2 ∈ gw_tbl ∧ Cond.initialized q.1 ∈ gw_tbl) (fun _ h => absurd h List.not_mem_nil) idx ci hh
    · exact sv_lk_all (L := []) (P := fun idx (x : Nat × String) => (sv_tys cA)[x.1]? = some (cA x.1, .object x.2) ∧ Cond.classLink yX1_init.cls idx x.2 ∈ gw_tbl ∧ x.2 ∈ hw_over) (fun _ h => absurd h List.not_mem_nil) idx (t, C) hh
    · have e := Nat.eq_of_beq_eq_true hh
      have e : idx = 3 := e
      subst e
      exact ⟨tw_137, tw_80, tw_81⟩
    · exact sv_lk_all (L := []) (P := fun pc (x : Nat × (Nat × (Nat × hw_F))) => hw_cok p l e R s m args below meth c Q base dC dI cA 1 0 0 pc x.1 x.2.1 x.2.2.1 x.2.2.2) (fun _ h => absurd h List.not_mem_nil) pc (n, (mc, (ms, F))) hh
def hcd_X6_init : hw_Cd := [(0, (.aload_n 0, (1, 0))), (1, (.invokespecial 3, (3, 0))), (4, (.aload_n 0, (1, 0))), (5, (.iconst (-1), (1, 0))), (6, (.putfield 9, (3, 0))), (9, (.aload_n 0, (1, 0))), (10, (.bipush 24, (2, 0))), (12, (.newarray .int, (2, 0))), (14, (.putfield 15, (3, 0))), (17, (.return_, (1, 0)))]
def hx_X6_init : hw_T := ([(9, (6, (0, (true, false)))), (15, (6, (2, (false, true))))], ([], ([], (3, []))))
def hf_X6_init : hw_F := fun as w => match as with
  | [.inr (.inr (some q0))] => hw_ex hx_X6_init 1 24 hcd_X6_init 3000 0 (sv_e0 1 [.inr (.inr (some q0))]) [] w 0 0
  | _ => none
theorem hg_X6_init (as : List sv_V) (w x : List hw_E) (h : hf_X6_init as w = some x) : ∃ r j as', as = sv_R r j :: as' := by
  unfold hf_X6_init at h
  split at h
  · exact ⟨_, _, _, rfl⟩
  · cases h
set_option maxRecDepth 20000 in
theorem hm_X6_init (l : Launch) : hw_M l yX6_init cX6_init 1 hf_X6_init 1 1 24 := by
  refine hw_mk (X := hx_X6_init) (cd := hcd_X6_init) (fu := 3000) (by decide) (by decide) (by decide +kernel) (fun as w x h => ?_) ?_
  · unfold hf_X6_init at h
    split at h
    · exact ⟨⟨by show 1 ≤ 1; decide, fun v hv => by simp only [List.mem_cons, List.not_mem_nil, or_false] at hv; rcases hv with rfl <;> trivial⟩, h⟩
    · cases h
  · intro p e R s m args below meth c Q base dC dI cA S hkn hnm hR hMC
    refine ⟨fun idx ci k i f hh => ?_, fun idx ci hh => ?_, fun idx t C hh => ?_, fun idx hh h1 => ?_, fun pc n mc ms F hh => ?_⟩
    · exact sv_lk_all (L := [(9, (6, (0, (true, false)))), (15, (6, (2, (false, true))))]) (P := fun idx (x : Nat × (Nat × (Bool × Bool))) => ∃ q : vw_C, vwCl[x.1]? = some q ∧ x.2.1 < q.2.2 ∧ Cond.fieldLink yX6_init.cls idx (q.2.1 x.2.1).1 (q.2.1 x.2.1).2.1 (q.2.1 x.2.1).2.2.1 ∈ gw_tbl ∧ (q.2.1 x.2.1).2.2.2 = x.2.2.2 ∧ (x.2.2.2 = true → (q.2.1 x.2.1).1 = yX6_init.cls ∧ meth.name = "<init>") ∧ (x.2.2.1 = true → parseFieldDescriptor (q.2.1 x.2.1).2.2.1 = some .int) ∧ (x.2.2.1 = false → ∃ ty, parseFieldDescriptor (q.2.1 x.2.1).2.2.1 = some ty ∧ ∀ a, narrow ty (.ref a) = .ref a ∧ fits ty (.ref a) = true)) (List.forall_mem_cons.mpr ⟨⟨(RX6, TX6, 3), rfl, (by decide), tw_263, rfl, (fun h => by cases h), (fun _ => by decide +kernel), (fun h => by cases h)⟩, List.forall_mem_cons.mpr ⟨⟨(RX6, TX6, 3), rfl, (by decide), tw_267, rfl, (fun _ => ⟨rfl, hnm⟩), (fun h => by cases h), (fun _ => ⟨tyX6 2, tyX6_ok 2 (by decide), fun _ => ⟨rfl, rfl⟩⟩)⟩, fun _ h => absurd h List.not_mem_nil⟩⟩) idx (ci, (k, (i, f))) hh
    · exact sv_lk_all (L := []) (P := fun idx (ci : Nat) => ∃ (q : vw_C) (tyf : Nat → FieldType), vwCl[ci]? = some q ∧ (∀ k, k < q.2.2 → parseFieldDescriptor (q.2.1 k).2.2.1 = some (tyf k)) ∧ (∀ k, k < q.2.2 → defaultValue (tyf k) = hw_z ci k) ∧ Cond.classLink yX6_init.cls idx q.1 ∈ gw_tbl ∧ Cond.instantiable q.1 q.2.2 ∈ gw_tbl ∧ Cond.initialized q.1 ∈ gw_tbl) (fun _ h => absurd h List.not_mem_nil) idx ci hh
    · exact sv_lk_all (L := []) (P := fun idx (x : Nat × String) => (sv_tys cA)[x.1]? = some (cA x.1, .object x.2) ∧ Cond.classLink yX6_init.cls idx x.2 ∈ gw_tbl ∧ x.2 ∈ hw_over) (fun _ h => absurd h List.not_mem_nil) idx (t, C) hh
    · have e := Nat.eq_of_beq_eq_true hh
      have e : idx = 3 := e
      subst e
      exact ⟨tw_262, tw_80, tw_81⟩
    · exact sv_lk_all (L := []) (P := fun pc (x : Nat × (Nat × (Nat × hw_F))) => hw_cok p l e R s m args below meth c Q base dC dI cA 1 1 24 pc x.1 x.2.1 x.2.2.1 x.2.2.2) (fun _ h => absurd h List.not_mem_nil) pc (n, (mc, (ms, F))) hh
def hcd_X8_init : hw_Cd := [(0, (.aload_n 0, (1, 0))), (1, (.invokespecial 3, (3, 0))), (4, (.aload_n 0, (1, 0))), (5, (.bipush 96, (2, 0))), (7, (.newarray .byte, (2, 0))), (9, (.putfield 9, (3, 0))), (12, (.aload_n 0, (1, 0))), (13, (.bipush 96, (2, 0))), (15, (.newarray .int, (2, 0))), (17, (.putfield 15, (3, 0))), (20, (.return_, (1, 0)))]
def hx_X8_init : hw_T := ([(9, (8, (0, (false, true)))), (15, (8, (8, (false, true))))], ([], ([], (3, []))))
def hf_X8_init : hw_F := fun as w => match as with
  | [.inr (.inr (some q0))] => hw_ex hx_X8_init 2 192 hcd_X8_init 3000 0 (sv_e0 1 [.inr (.inr (some q0))]) [] w 0 0
  | _ => none
theorem hg_X8_init (as : List sv_V) (w x : List hw_E) (h : hf_X8_init as w = some x) : ∃ r j as', as = sv_R r j :: as' := by
  unfold hf_X8_init at h
  split at h
  · exact ⟨_, _, _, rfl⟩
  · cases h
set_option maxRecDepth 20000 in
theorem hm_X8_init (l : Launch) : hw_M l yX8_init cX8_init 1 hf_X8_init 1 2 192 := by
  refine hw_mk (X := hx_X8_init) (cd := hcd_X8_init) (fu := 3000) (by decide) (by decide) (by decide +kernel) (fun as w x h => ?_) ?_
  · unfold hf_X8_init at h
    split at h
    · exact ⟨⟨by show 1 ≤ 1; decide, fun v hv => by simp only [List.mem_cons, List.not_mem_nil, or_false] at hv; rcases hv with rfl <;> trivial⟩, h⟩
    · cases h
  · intro p e R s m args below meth c Q base dC dI cA S hkn hnm hR hMC
    refine ⟨fun idx ci k i f hh => ?_, fun idx ci hh => ?_, fun idx t C hh => ?_, fun idx hh h1 => ?_, fun pc n mc ms F hh => ?_⟩
    · exact sv_lk_all (L := [(9, (8, (0, (false, true)))), (15, (8, (8, (false, true))))]) (P := fun idx (x : Nat × (Nat × (Bool × Bool))) => ∃ q : vw_C, vwCl[x.1]? = some q ∧ x.2.1 < q.2.2 ∧ Cond.fieldLink yX8_init.cls idx (q.2.1 x.2.1).1 (q.2.1 x.2.1).2.1 (q.2.1 x.2.1).2.2.1 ∈ gw_tbl ∧ (q.2.1 x.2.1).2.2.2 = x.2.2.2 ∧ (x.2.2.2 = true → (q.2.1 x.2.1).1 = yX8_init.cls ∧ meth.name = "<init>") ∧ (x.2.2.1 = true → parseFieldDescriptor (q.2.1 x.2.1).2.2.1 = some .int) ∧ (x.2.2.1 = false → ∃ ty, parseFieldDescriptor (q.2.1 x.2.1).2.2.1 = some ty ∧ ∀ a, narrow ty (.ref a) = .ref a ∧ fits ty (.ref a) = true)) (List.forall_mem_cons.mpr ⟨⟨(RX8, TX8, 9), rfl, (by decide), tw_225, rfl, (fun _ => ⟨rfl, hnm⟩), (fun h => by cases h), (fun _ => ⟨tyX8 0, tyX8_ok 0 (by decide), fun _ => ⟨rfl, rfl⟩⟩)⟩, List.forall_mem_cons.mpr ⟨⟨(RX8, TX8, 9), rfl, (by decide), tw_235, rfl, (fun _ => ⟨rfl, hnm⟩), (fun h => by cases h), (fun _ => ⟨tyX8 8, tyX8_ok 8 (by decide), fun _ => ⟨rfl, rfl⟩⟩)⟩, fun _ h => absurd h List.not_mem_nil⟩⟩) idx (ci, (k, (i, f))) hh
    · exact sv_lk_all (L := []) (P := fun idx (ci : Nat) => ∃ (q : vw_C) (tyf : Nat → FieldType), vwCl[ci]? = some q ∧ (∀ k, k < q.2.2 → parseFieldDescriptor (q.2.1 k).2.2.1 = some (tyf k)) ∧ (∀ k, k < q.2.2 → defaultValue (tyf k) = hw_z ci k) ∧ Cond.classLink yX8_init.cls idx q.1 ∈ gw_tbl ∧ Cond.instantiable q.1 q.2.2 ∈ gw_tbl ∧ Cond.initialized q.1 ∈ gw_tbl) (fun _ h => absurd h List.not_mem_nil) idx ci hh
    · exact sv_lk_all (L := []) (P := fun idx (x : Nat × String) => (sv_tys cA)[x.1]? = some (cA x.1, .object x.2) ∧ Cond.classLink yX8_init.cls idx x.2 ∈ gw_tbl ∧ x.2 ∈ hw_over) (fun _ h => absurd h List.not_mem_nil) idx (t, C) hh
    · have e := Nat.eq_of_beq_eq_true hh
      have e : idx = 3 := e
      subst e
      exact ⟨tw_224, tw_80, tw_81⟩
    · exact sv_lk_all (L := []) (P := fun pc (x : Nat × (Nat × (Nat × hw_F))) => hw_cok p l e R s m args below meth c Q base dC dI cA 1 2 192 pc x.1 x.2.1 x.2.2.1 x.2.2.2) (fun _ h => absurd h List.not_mem_nil) pc (n, (mc, (ms, F))) hh
def hcd_J7_fill_53178 : hw_Cd := [(0, (.iconst 0, (1, 0))), (1, (.istore_n 2, (1, 0))), (2, (.aload_n 0, (1, 0))), (3, (.arraylength, (1, 0))), (4, (.istore_n 3, (1, 0))), (5, (.iload_n 2, (1, 0))), (6, (.iload_n 3, (1, 0))), (7, (.if_icmp .ge 13, (3, 20))), (10, (.aload_n 0, (1, 0))), (11, (.iload_n 2, (1, 0))), (12, (.iload_n 1, (1, 0))), (13, (.iastore, (1, 0))), (14, (.iinc 2 1, (3, 0))), (17, (.goto (-12), (3, 5))), (20, (.return_, (1, 0)))]
def hx_J7_fill_53178 : hw_T := ([], ([], ([], (0, []))))
def hf_J7_fill_53178 : hw_F := fun as w => match as with
  | [.inr (.inr (some p0)), .inl n1] => hw_ex hx_J7_fill_53178 0 0 hcd_J7_fill_53178 3000 0 (sv_e0 4 [.inr (.inr (some p0)), .inl n1]) [] w 0 0
  | _ => none
set_option maxRecDepth 20000 in
theorem hm_J7_fill_53178 (l : Launch) : hw_M l yJ7_fill_53178 cJ7_fill_53178 4 hf_J7_fill_53178 1 0 0 := by
  refine hw_mk (X := hx_J7_fill_53178) (cd := hcd_J7_fill_53178) (fu := 3000) (by decide) (by decide) (by decide +kernel) (fun as w x h => ?_) ?_
  · unfold hf_J7_fill_53178 at h
    split at h
    · exact ⟨⟨by show 2 ≤ 4; decide, fun v hv => by simp only [List.mem_cons, List.not_mem_nil, or_false] at hv; rcases hv with rfl | rfl <;> trivial⟩, h⟩
    · cases h
  · intro p e R s m args below meth c Q base dC dI cA S hkn hnm hR hMC
    refine ⟨fun idx ci k i f hh => ?_, fun idx ci hh => ?_, fun idx t C hh => ?_, fun idx hh h1 => ?_, fun pc n mc ms F hh => ?_⟩
    · exact sv_lk_all (L := []) (P := fun idx (x : Nat × (Nat × (Bool × Bool))) => ∃ q : vw_C, vwCl[x.1]? = some q ∧ x.2.1 < q.2.2 ∧ Cond.fieldLink yJ7_fill_53178.cls idx (q.2.1 x.2.1).1 (q.2.1 x.2.1).2.1 (q.2.1 x.2.1).2.2.1 ∈ gw_tbl ∧ (q.2.1 x.2.1).2.2.2 = x.2.2.2 ∧ (x.2.2.2 = true → (q.2.1 x.2.1).1 = yJ7_fill_53178.cls ∧ meth.name = "<init>") ∧ (x.2.2.1 = true → parseFieldDescriptor (q.2.1 x.2.1).2.2.1 = some .int) ∧ (x.2.2.1 = false → ∃ ty, parseFieldDescriptor (q.2.1 x.2.1).2.2.1 = some ty ∧ ∀ a, narrow ty (.ref a) = .ref a ∧ fits ty (.ref a) = true)) (fun _ h => absurd h List.not_mem_nil) idx (ci, (k, (i, f))) hh
    · exact sv_lk_all (L := []) (P := fun idx (ci : Nat) => ∃ (q : vw_C) (tyf : Nat → FieldType), vwCl[ci]? = some q ∧ (∀ k, k < q.2.2 → parseFieldDescriptor (q.2.1 k).2.2.1 = some (tyf k)) ∧ (∀ k, k < q.2.2 → defaultValue (tyf k) = hw_z ci k) ∧ Cond.classLink yJ7_fill_53178.cls idx q.1 ∈ gw_tbl ∧ Cond.instantiable q.1 q.2.2 ∈ gw_tbl ∧ Cond.initialized q.1 ∈ gw_tbl) (fun _ h => absurd h List.not_mem_nil) idx ci hh
    · exact sv_lk_all (L := []) (P := fun idx (x : Nat × String) => (sv_tys cA)[x.1]? = some (cA x.1, .object x.2) ∧ Cond.classLink yJ7_fill_53178.cls idx x.2 ∈ gw_tbl ∧ x.2 ∈ hw_over) (fun _ h => absurd h List.not_mem_nil) idx (t, C) hh
    · have e : idx = 0 := Nat.eq_of_beq_eq_true hh
      omega
    · exact sv_lk_all (L := []) (P := fun pc (x : Nat × (Nat × (Nat × hw_F))) => hw_cok p l e R s m args below meth c Q base dC dI cA 4 0 0 pc x.1 x.2.1 x.2.2.1 x.2.2.2) (fun _ h => absurd h List.not_mem_nil) pc (n, (mc, (ms, F))) hh
def hcd_X5_init : hw_Cd := [(0, (.aload_n 0, (1, 0))), (1, (.invokespecial 3, (3, 0))), (4, (.aload_n 0, (1, 0))), (5, (.aload_n 1, (1, 0))), (6, (.putfield 9, (3, 0))), (9, (.aload_n 0, (1, 0))), (10, (.bipush 10, (2, 0))), (12, (.anewarray 15, (3, 0))), (15, (.putfield 17, (3, 0))), (18, (.iconst 0, (1, 0))), (19, (.istore_n 2, (1, 0))), (20, (.iload_n 2, (1, 0))), (21, (.bipush 10, (2, 0))), (23, (.if_icmp .ge 22, (3, 45))), (26, (.aload_n 0, (1, 0))), (27, (.getfield 17, (3, 0))), (30, (.iload_n 2, (1, 0))), (31, (.new 15, (3, 0))), (34, (.dup, (1, 0))), (35, (.invokespecial 21, (3, 0))), (38, (.aastore, (1, 0))), (39, (.iinc 2 1, (3, 0))), (42, (.goto (-22), (3, 20))), (45, (.aload_n 0, (1, 0))), (46, (.bipush 14, (2, 0))), (48, (.anewarray 22, (3, 0))), (51, (.putfield 24, (3, 0))), (54, (.aload_n 0, (1, 0))), (55, (.iconst 3, (1, 0))), (56, (.newarray .int, (2, 0))), (58, (.putfield 28, (3, 0))), (61, (.aload_n 0, (1, 0))), (62, (.getfield 28, (3, 0))), (65, (.iconst (-1), (1, 0))), (66, (.invokestatic 32, (3, 0))), (69, (.aload_n 0, (1, 0))), (70, (.iconst 1, (1, 0))), (71, (.putfield 38, (3, 0))), (74, (.return_, (1, 0)))]
def hx_X5_init : hw_T := ([(9, (5, (0, (false, true)))), (17, (5, (1, (false, true)))), (24, (5, (2, (false, true)))), (28, (5, (3, (false, true)))), (38, (5, (7, (true, false))))], ([(15, 1)], ([(15, (2, "OneStroke$Drummer")), (22, (3, "OneStroke$Text"))], (3, [(35, (1, (0, (0, hf_X1_init)))), (66, (2, (0, (0, hf_J7_fill_53178))))]))))
def hf_X5_init : hw_F := fun as w => match as with
  | [.inr (.inr (some q0)), .inr (.inr (some p0))] => hw_ex hx_X5_init 13 200 hcd_X5_init 3000 0 (sv_e0 3 [.inr (.inr (some q0)), .inr (.inr (some p0))]) [] w 0 0
  | _ => none
theorem hg_X5_init (as : List sv_V) (w x : List hw_E) (h : hf_X5_init as w = some x) : ∃ r j as', as = sv_R r j :: as' := by
  unfold hf_X5_init at h
  split at h
  · exact ⟨_, _, _, rfl⟩
  · cases h
set_option maxRecDepth 20000 in
theorem hm_X5_init (l : Launch) : hw_M l yX5_init cX5_init 3 hf_X5_init 2 13 200 := by
  refine hw_mk (X := hx_X5_init) (cd := hcd_X5_init) (fu := 3000) (by decide) (by decide) (by decide +kernel) (fun as w x h => ?_) ?_
  · unfold hf_X5_init at h
    split at h
    · exact ⟨⟨by show 2 ≤ 3; decide, fun v hv => by simp only [List.mem_cons, List.not_mem_nil, or_false] at hv; rcases hv with rfl | rfl <;> trivial⟩, h⟩
    · cases h
  · intro p e R s m args below meth c Q base dC dI cA S hkn hnm hR hMC
    refine ⟨fun idx ci k i f hh => ?_, fun idx ci hh => ?_, fun idx t C hh => ?_, fun idx hh h1 => ?_, fun pc n mc ms F hh => ?_⟩
    · exact sv_lk_all (L := [(9, (5, (0, (false, true)))), (17, (5, (1, (false, true)))), (24, (5, (2, (false, true)))), (28, (5, (3, (false, true)))), (38, (5, (7, (true, false))))]) (P := fun idx (x : Nat × (Nat × (Bool × Bool))) => ∃ q : vw_C, vwCl[x.1]? = some q ∧ x.2.1 < q.2.2 ∧ Cond.fieldLink yX5_init.cls idx (q.2.1 x.2.1).1 (q.2.1 x.2.1).2.1 (q.2.1 x.2.1).2.2.1 ∈ gw_tbl ∧ (q.2.1 x.2.1).2.2.2 = x.2.2.2 ∧ (x.2.2.2 = true → (q.2.1 x.2.1).1 = yX5_init.cls ∧ meth.name = "<init>") ∧ (x.2.2.1 = true → parseFieldDescriptor (q.2.1 x.2.1).2.2.1 = some .int) ∧ (x.2.2.1 = false → ∃ ty, parseFieldDescriptor (q.2.1 x.2.1).2.2.1 = some ty ∧ ∀ a, narrow ty (.ref a) = .ref a ∧ fits ty (.ref a) = true)) (List.forall_mem_cons.mpr ⟨⟨(RX5, TX5, 9), rfl, (by decide), tw_182, rfl, (fun _ => ⟨rfl, hnm⟩), (fun h => by cases h), (fun _ => ⟨tyX5 0, tyX5_ok 0 (by decide), fun _ => ⟨rfl, rfl⟩⟩)⟩, List.forall_mem_cons.mpr ⟨⟨(RX5, TX5, 9), rfl, (by decide), tw_183, rfl, (fun _ => ⟨rfl, hnm⟩), (fun h => by cases h), (fun _ => ⟨tyX5 1, tyX5_ok 1 (by decide), fun _ => ⟨rfl, rfl⟩⟩)⟩, List.forall_mem_cons.mpr ⟨⟨(RX5, TX5, 9), rfl, (by decide), tw_185, rfl, (fun _ => ⟨rfl, hnm⟩), (fun h => by cases h), (fun _ => ⟨tyX5 2, tyX5_ok 2 (by decide), fun _ => ⟨rfl, rfl⟩⟩)⟩, List.forall_mem_cons.mpr ⟨⟨(RX5, TX5, 9), rfl, (by decide), tw_187, rfl, (fun _ => ⟨rfl, hnm⟩), (fun h => by cases h), (fun _ => ⟨tyX5 3, tyX5_ok 3 (by decide), fun _ => ⟨rfl, rfl⟩⟩)⟩, List.forall_mem_cons.mpr ⟨⟨(RX5, TX5, 9), rfl, (by decide), tw_195, rfl, (fun h => by cases h), (fun _ => by decide +kernel), (fun h => by cases h)⟩, fun _ h => absurd h List.not_mem_nil⟩⟩⟩⟩⟩) idx (ci, (k, (i, f))) hh
    · exact sv_lk_all (L := [(15, 1)]) (P := fun idx (ci : Nat) => ∃ (q : vw_C) (tyf : Nat → FieldType), vwCl[ci]? = some q ∧ (∀ k, k < q.2.2 → parseFieldDescriptor (q.2.1 k).2.2.1 = some (tyf k)) ∧ (∀ k, k < q.2.2 → defaultValue (tyf k) = hw_z ci k) ∧ Cond.classLink yX5_init.cls idx q.1 ∈ gw_tbl ∧ Cond.instantiable q.1 q.2.2 ∈ gw_tbl ∧ Cond.initialized q.1 ∈ gw_tbl) (List.forall_mem_cons.mpr ⟨⟨(RX1, TX1, 8), tyX1, rfl, tyX1_ok, (by decide +kernel), tw_131, tw_133, tw_61⟩, fun _ h => absurd h List.not_mem_nil⟩) idx ci hh
    · exact sv_lk_all (L := [(15, (2, "OneStroke$Drummer")), (22, (3, "OneStroke$Text"))]) (P := fun idx (x : Nat × String) => (sv_tys cA)[x.1]? = some (cA x.1, .object x.2) ∧ Cond.classLink yX5_init.cls idx x.2 ∈ gw_tbl ∧ x.2 ∈ hw_over) (List.forall_mem_cons.mpr ⟨⟨rfl, tw_131, (by decide)⟩, List.forall_mem_cons.mpr ⟨⟨rfl, tw_177, (by decide)⟩, fun _ h => absurd h List.not_mem_nil⟩⟩) idx (t, C) hh
    · have e := Nat.eq_of_beq_eq_true hh
      have e : idx = 3 := e
      subst e
      exact ⟨tw_130, tw_80, tw_81⟩
    · exact sv_lk_all (L := [(35, (1, (0, (0, hf_X1_init)))), (66, (2, (0, (0, hf_J7_fill_53178))))]) (P := fun pc (x : Nat × (Nat × (Nat × hw_F))) => hw_cok p l e R s m args below meth c Q base dC dI cA 3 13 200 pc x.1 x.2.1 x.2.2.1 x.2.2.2) (List.forall_mem_cons.mpr ⟨hw_cIN (idx := 21) (n := 0) S hkn (hm_X1_init l) ⟨Nat.le_trans (by decide) hR.1, Nat.le_trans (by decide) hR.2⟩ (by decide) hMC hg_X1_init (by simp [hw_nest]; decide) (sv_w3 tw_135 tw_61 tw_136) rfl ⟨(by decide), (by decide), (by decide +kernel)⟩ (by decide +kernel), List.forall_mem_cons.mpr ⟨hw_cS (idx := 32) (n := 2) S hkn (hm_J7_fill_53178 l) ⟨Nat.le_trans (by decide) hR.1, Nat.le_trans (by decide) hR.2⟩ (by decide) hMC (sv_w4 tw_179 tw_180 tw_62 tw_181) ⟨(by decide), (by decide), (by decide +kernel)⟩ (by decide +kernel), fun _ h => absurd h List.not_mem_nil⟩⟩) pc (n, (mc, (ms, F))) hh
def hcd_X11_init : hw_Cd := [(0, (.aload_n 0, (1, 0))), (1, (.invokespecial 1, (3, 0))), (4, (.bipush 6, (2, 0))), (6, (.anewarray 7, (3, 0))), (9, (.dup, (1, 0))), (10, (.iconst 0, (1, 0))), (11, (.new 7, (3, 0))), (14, (.dup, (1, 0))), (15, (.invokespecial 9, (3, 0))), (18, (.aastore, (1, 0))), (19, (.dup, (1, 0))), (20, (.iconst 1, (1, 0))), (21, (.new 10, (3, 0))), (24, (.dup, (1, 0))), (25, (.invokespecial 12, (3, 0))), (28, (.aastore, (1, 0))), (29, (.dup, (1, 0))), (30, (.iconst 2, (1, 0))), (31, (.new 13, (3, 0))), (34, (.dup, (1, 0))), (35, (.invokespecial 15, (3, 0))), (38, (.aastore, (1, 0))), (39, (.dup, (1, 0))), (40, (.iconst 3, (1, 0))), (41, (.new 16, (3, 0))), (44, (.dup, (1, 0))), (45, (.invokespecial 18, (3, 0))), (48, (.aastore, (1, 0))), (49, (.dup, (1, 0))), (50, (.iconst 4, (1, 0))), (51, (.new 19, (3, 0))), (54, (.dup, (1, 0))), (55, (.invokespecial 21, (3, 0))), (58, (.aastore, (1, 0))), (59, (.dup, (1, 0))), (60, (.iconst 5, (1, 0))), (61, (.new 22, (3, 0))), (64, (.dup, (1, 0))), (65, (.invokespecial 24, (3, 0))), (68, (.aastore, (1, 0))), (69, (.astore_n 1, (1, 0))), (70, (.aload_n 0, (1, 0))), (71, (.new 25, (3, 0))), (74, (.dup, (1, 0))), (75, (.aload_n 1, (1, 0))), (76, (.invokespecial 27, (3, 0))), (79, (.putfield 30, (3, 0))), (82, (.aload_n 0, (1, 0))), (83, (.new 25, (3, 0))), (86, (.dup, (1, 0))), (87, (.aload_n 1, (1, 0))), (88, (.invokespecial 27, (3, 0))), (91, (.putfield 36, (3, 0))), (94, (.aload_n 0, (1, 0))), (95, (.new 25, (3, 0))), (98, (.dup, (1, 0))), (99, (.aload_n 1, (1, 0))), (100, (.invokespecial 27, (3, 0))), (103, (.putfield 39, (3, 0))), (106, (.aload_n 0, (1, 0))), (107, (.new 42, (3, 0))), (110, (.dup, (1, 0))), (111, (.invokespecial 44, (3, 0))), (114, (.putfield 45, (3, 0))), (117, (.aload_n 0, (1, 0))), (118, (.iconst 4, (1, 0))), (119, (.anewarray 49, (3, 0))), (122, (.putfield 51, (3, 0))), (125, (.iconst 0, (1, 0))), (126, (.istore_n 2, (1, 0))), (127, (.iload_n 2, (1, 0))), (128, (.iconst 4, (1, 0))), (129, (.if_icmp .ge 22, (3, 151))), (132, (.aload_n 0, (1, 0))), (133, (.getfield 51, (3, 0))), (136, (.iload_n 2, (1, 0))), (137, (.new 49, (3, 0))), (140, (.dup, (1, 0))), (141, (.invokespecial 55, (3, 0))), (144, (.aastore, (1, 0))), (145, (.iinc 2 1, (3, 0))), (148, (.goto (-21), (3, 127))), (151, (.aload_n 0, (1, 0))), (152, (.iconst 5, (1, 0))), (153, (.newarray .int, (2, 0))), (155, (.putfield 56, (3, 0))), (158, (.aload_n 0, (1, 0))), (159, (.iconst 5, (1, 0))), (160, (.newarray .int, (2, 0))), (162, (.putfield 60, (3, 0))), (165, (.aload_n 0, (1, 0))), (166, (.iconst 5, (1, 0))), (167, (.anewarray 63, (3, 0))), (170, (.putfield 65, (3, 0))), (173, (.aload_n 0, (1, 0))), (174, (.iconst 5, (1, 0))), (175, (.anewarray 49, (3, 0))), (178, (.putfield 69, (3, 0))), (181, (.iconst 0, (1, 0))), (182, (.istore_n 2, (1, 0))), (183, (.iload_n 2, (1, 0))), (184, (.iconst 5, (1, 0))), (185, (.if_icmp .ge 35, (3, 220))), (188, (.aload_n 0, (1, 0))), (189, (.getfield 65, (3, 0))), (192, (.iload_n 2, (1, 0))), (193, (.new 63, (3, 0))), (196, (.dup, (1, 0))), (197, (.invokespecial 72, (3, 0))), (200, (.aastore, (1, 0))), (201, (.aload_n 0, (1, 0))), (202, (.getfield 69, (3, 0))), (205, (.iload_n 2, (1, 0))), (206, (.new 49, (3, 0))), (209, (.dup, (1, 0))), (210, (.invokespecial 55, (3, 0))), (213, (.aastore, (1, 0))), (214, (.iinc 2 1, (3, 0))), (217, (.goto (-34), (3, 183))), (220, (.aload_n 0, (1, 0))), (221, (.bipush 60, (2, 0))), (223, (.newarray .int, (2, 0))), (225, (.putfield 73, (3, 0))), (228, (.aload_n 0, (1, 0))), (229, (.iconst 3, (1, 0))), (230, (.newarray .int, (2, 0))), (232, (.putfield 76, (3, 0))), (235, (.return_, (1, 0)))]
def hx_X11_init : hw_T := ([(30, (11, (0, (false, true)))), (36, (11, (1, (false, true)))), (39, (11, (2, (false, true)))), (45, (11, (4, (false, true)))), (51, (11, (5, (false, true)))), (56, (11, (6, (false, true)))), (60, (11, (7, (false, true)))), (65, (11, (8, (false, true)))), (69, (11, (9, (false, true)))), (73, (11, (10, (false, true)))), (76, (11, (12, (false, true))))], ([(7, 3), (10, 7), (13, 2), (16, 4), (19, 10), (22, 0), (25, 5), (42, 8), (49, 6), (63, 1)], ([(7, (4, "OneStroke$Kind")), (49, (5, "OneStroke$Sheet")), (63, (2, "OneStroke$Drummer"))], (1, [(15, (1, (0, (0, hf_X3_init)))), (25, (1, (0, (0, hf_X7_init)))), (35, (1, (0, (0, hf_X2_init)))), (45, (1, (0, (0, hf_X4_init)))), (55, (1, (0, (0, hf_X10_init)))), (65, (1, (0, (0, hf_X0_init)))), (76, (2, (13, (200, hf_X5_init)))), (88, (2, (13, (200, hf_X5_init)))), (100, (2, (13, (200, hf_X5_init)))), (111, (1, (2, (192, hf_X8_init)))), (141, (1, (1, (24, hf_X6_init)))), (197, (1, (0, (0, hf_X1_init)))), (210, (1, (1, (24, hf_X6_init))))]))))
def hf_X11_init : hw_F := fun as w => match as with
  | [.inr (.inr (some q0))] => hw_ex hx_X11_init 400 4000 hcd_X11_init 3000 0 (sv_e0 3 [.inr (.inr (some q0))]) [] w 0 0
  | _ => none
theorem hg_X11_init (as : List sv_V) (w x : List hw_E) (h : hf_X11_init as w = some x) : ∃ r j as', as = sv_R r j :: as' := by
  unfold hf_X11_init at h
  split at h
  · exact ⟨_, _, _, rfl⟩
  · cases h
set_option maxRecDepth 20000 in
theorem hm_X11_init (l : Launch) : hw_M l yX11_init cX11_init 3 hf_X11_init 4 400 4000 := by
  refine hw_mk (X := hx_X11_init) (cd := hcd_X11_init) (fu := 3000) (by decide) (by decide) (by decide +kernel) (fun as w x h => ?_) ?_
  · unfold hf_X11_init at h
    split at h
    · exact ⟨⟨by show 1 ≤ 3; decide, fun v hv => by simp only [List.mem_cons, List.not_mem_nil, or_false] at hv; rcases hv with rfl <;> trivial⟩, h⟩
    · cases h
  · intro p e R s m args below meth c Q base dC dI cA S hkn hnm hR hMC
    refine ⟨fun idx ci k i f hh => ?_, fun idx ci hh => ?_, fun idx t C hh => ?_, fun idx hh h1 => ?_, fun pc n mc ms F hh => ?_⟩
    · exact sv_lk_all (L := [(30, (11, (0, (false, true)))), (36, (11, (1, (false, true)))), (39, (11, (2, (false, true)))), (45, (11, (4, (false, true)))), (51, (11, (5, (false, true)))), (56, (11, (6, (false, true)))), (60, (11, (7, (false, true)))), (65, (11, (8, (false, true)))), (69, (11, (9, (false, true)))), (73, (11, (10, (false, true)))), (76, (11, (12, (false, true))))]) (P := fun idx (x : Nat × (Nat × (Bool × Bool))) => ∃ q : vw_C, vwCl[x.1]? = some q ∧ x.2.1 < q.2.2 ∧ Cond.fieldLink yX11_init.cls idx (q.2.1 x.2.1).1 (q.2.1 x.2.1).2.1 (q.2.1 x.2.1).2.2.1 ∈ gw_tbl ∧ (q.2.1 x.2.1).2.2.2 = x.2.2.2 ∧ (x.2.2.2 = true → (q.2.1 x.2.1).1 = yX11_init.cls ∧ meth.name = "<init>") ∧ (x.2.2.1 = true → parseFieldDescriptor (q.2.1 x.2.1).2.2.1 = some .int) ∧ (x.2.2.1 = false → ∃ ty, parseFieldDescriptor (q.2.1 x.2.1).2.2.1 = some ty ∧ ∀ a, narrow ty (.ref a) = .ref a ∧ fits ty (.ref a) = true)) (List.forall_mem_cons.mpr ⟨⟨(RX11, TX11, 13), rfl, (by decide), tw_278, rfl, (fun _ => ⟨rfl, hnm⟩), (fun h => by cases h), (fun _ => ⟨tyX11 0, tyX11_ok 0 (by decide), fun _ => ⟨rfl, rfl⟩⟩)⟩, List.forall_mem_cons.mpr ⟨⟨(RX11, TX11, 13), rfl, (by decide), tw_279, rfl, (fun _ => ⟨rfl, hnm⟩), (fun h => by cases h), (fun _ => ⟨tyX11 1, tyX11_ok 1 (by decide), fun _ => ⟨rfl, rfl⟩⟩)⟩, List.forall_mem_cons.mpr ⟨⟨(RX11, TX11, 13), rfl, (by decide), tw_280, rfl, (fun _ => ⟨rfl, hnm⟩), (fun h => by cases h), (fun _ => ⟨tyX11 2, tyX11_ok 2 (by decide), fun _ => ⟨rfl, rfl⟩⟩)⟩, List.forall_mem_cons.mpr ⟨⟨(RX11, TX11, 13), rfl, (by decide), tw_282, rfl, (fun _ => ⟨rfl, hnm⟩), (fun h => by cases h), (fun _ => ⟨tyX11 4, tyX11_ok 4 (by decide), fun _ => ⟨rfl, rfl⟩⟩)⟩, List.forall_mem_cons.mpr ⟨⟨(RX11, TX11, 13), rfl, (by decide), tw_283, rfl, (fun _ => ⟨rfl, hnm⟩), (fun h => by cases h), (fun _ => ⟨tyX11 5, tyX11_ok 5 (by decide), fun _ => ⟨rfl, rfl⟩⟩)⟩, List.forall_mem_cons.mpr ⟨⟨(RX11, TX11, 13), rfl, (by decide), tw_284, rfl, (fun _ => ⟨rfl, hnm⟩), (fun h => by cases h), (fun _ => ⟨tyX11 6, tyX11_ok 6 (by decide), fun _ => ⟨rfl, rfl⟩⟩)⟩, List.forall_mem_cons.mpr ⟨⟨(RX11, TX11, 13), rfl, (by decide), tw_285, rfl, (fun _ => ⟨rfl, hnm⟩), (fun h => by cases h), (fun _ => ⟨tyX11 7, tyX11_ok 7 (by decide), fun _ => ⟨rfl, rfl⟩⟩)⟩, List.forall_mem_cons.mpr ⟨⟨(RX11, TX11, 13), rfl, (by decide), tw_286, rfl, (fun _ => ⟨rfl, hnm⟩), (fun h => by cases h), (fun _ => ⟨tyX11 8, tyX11_ok 8 (by decide), fun _ => ⟨rfl, rfl⟩⟩)⟩, List.forall_mem_cons.mpr ⟨⟨(RX11, TX11, 13), rfl, (by decide), tw_287, rfl, (fun _ => ⟨rfl, hnm⟩), (fun h => by cases h), (fun _ => ⟨tyX11 9, tyX11_ok 9 (by decide), fun _ => ⟨rfl, rfl⟩⟩)⟩, List.forall_mem_cons.mpr ⟨⟨(RX11, TX11, 13), rfl, (by decide), tw_288, rfl, (fun _ => ⟨rfl, hnm⟩), (fun h => by cases h), (fun _ => ⟨tyX11 10, tyX11_ok 10 (by decide), fun _ => ⟨rfl, rfl⟩⟩)⟩, List.forall_mem_cons.mpr ⟨⟨(RX11, TX11, 13), rfl, (by decide), tw_290, rfl, (fun _ => ⟨rfl, hnm⟩), (fun h => by cases h), (fun _ => ⟨tyX11 12, tyX11_ok 12 (by decide), fun _ => ⟨rfl, rfl⟩⟩)⟩, fun _ h => absurd h List.not_mem_nil⟩⟩⟩⟩⟩⟩⟩⟩⟩⟩⟩) idx (ci, (k, (i, f))) hh
    · exact sv_lk_all (L := [(7, 3), (10, 7), (13, 2), (16, 4), (19, 10), (22, 0), (25, 5), (42, 8), (49, 6), (63, 1)]) (P := fun idx (ci : Nat) => ∃ (q : vw_C) (tyf : Nat → FieldType), vwCl[ci]? = some q ∧ (∀ k, k < q.2.2 → parseFieldDescriptor (q.2.1 k).2.2.1 = some (tyf k)) ∧ (∀ k, k < q.2.2 → defaultValue (tyf k) = hw_z ci k) ∧ Cond.classLink yX11_init.cls idx q.1 ∈ gw_tbl ∧ Cond.instantiable q.1 q.2.2 ∈ gw_tbl ∧ Cond.initialized q.1 ∈ gw_tbl) (List.forall_mem_cons.mpr ⟨⟨(RX3, TX3, 0), tyX3, rfl, tyX3_ok, (by decide +kernel), tw_82, tw_84, tw_54⟩, List.forall_mem_cons.mpr ⟨⟨(RX7, TX7, 0), tyX7, rfl, tyX7_ok, (by decide +kernel), tw_90, tw_91, tw_55⟩, List.forall_mem_cons.mpr ⟨⟨(RX2, TX2, 0), tyX2, rfl, tyX2_ok, (by decide +kernel), tw_97, tw_98, tw_56⟩, List.forall_mem_cons.mpr ⟨⟨(RX4, TX4, 0), tyX4, rfl, tyX4_ok, (by decide +kernel), tw_104, tw_105, tw_57⟩, List.forall_mem_cons.mpr ⟨⟨(RX10, TX10, 0), tyX10, rfl, tyX10_ok, (by decide +kernel), tw_111, tw_112, tw_58⟩, List.forall_mem_cons.mpr ⟨⟨(RX0, TX0, 0), tyX0, rfl, tyX0_ok, (by decide +kernel), tw_118, tw_119, tw_59⟩, List.forall_mem_cons.mpr ⟨⟨(RX5, TX5, 9), tyX5, rfl, tyX5_ok, (by decide +kernel), tw_125, tw_126, tw_60⟩, List.forall_mem_cons.mpr ⟨⟨(RX8, TX8, 9), tyX8, rfl, tyX8_ok, (by decide +kernel), tw_219, tw_220, tw_63⟩, List.forall_mem_cons.mpr ⟨⟨(RX6, TX6, 3), tyX6, rfl, tyX6_ok, (by decide +kernel), tw_256, tw_258, tw_64⟩, List.forall_mem_cons.mpr ⟨⟨(RX1, TX1, 8), tyX1, rfl, tyX1_ok, (by decide +kernel), tw_276, tw_133, tw_61⟩, fun _ h => absurd h List.not_mem_nil⟩⟩⟩⟩⟩⟩⟩⟩⟩⟩) idx ci hh
    · exact sv_lk_all (L := [(7, (4, "OneStroke$Kind")), (49, (5, "OneStroke$Sheet")), (63, (2, "OneStroke$Drummer"))]) (P := fun idx (x : Nat × String) => (sv_tys cA)[x.1]? = some (cA x.1, .object x.2) ∧ Cond.classLink yX11_init.cls idx x.2 ∈ gw_tbl ∧ x.2 ∈ hw_over) (List.forall_mem_cons.mpr ⟨⟨rfl, tw_82, (by decide)⟩, List.forall_mem_cons.mpr ⟨⟨rfl, tw_256, (by decide)⟩, List.forall_mem_cons.mpr ⟨⟨rfl, tw_276, (by decide)⟩, fun _ h => absurd h List.not_mem_nil⟩⟩⟩) idx (t, C) hh
    · have e := Nat.eq_of_beq_eq_true hh
      have e : idx = 1 := e
      subst e
      exact ⟨tw_79, tw_80, tw_81⟩
    · exact sv_lk_all (L := [(15, (1, (0, (0, hf_X3_init)))), (25, (1, (0, (0, hf_X7_init)))), (35, (1, (0, (0, hf_X2_init)))), (45, (1, (0, (0, hf_X4_init)))), (55, (1, (0, (0, hf_X10_init)))), (65, (1, (0, (0, hf_X0_init)))), (76, (2, (13, (200, hf_X5_init)))), (88, (2, (13, (200, hf_X5_init)))), (100, (2, (13, (200, hf_X5_init)))), (111, (1, (2, (192, hf_X8_init)))), (141, (1, (1, (24, hf_X6_init)))), (197, (1, (0, (0, hf_X1_init)))), (210, (1, (1, (24, hf_X6_init))))]) (P := fun pc (x : Nat × (Nat × (Nat × hw_F))) => hw_cok p l e R s m args below meth c Q base dC dI cA 3 400 4000 pc x.1 x.2.1 x.2.2.1 x.2.2.2) (List.forall_mem_cons.mpr ⟨hw_cIN (idx := 9) (n := 0) S hkn (hm_X3_init l) ⟨Nat.le_trans (by decide) hR.1, Nat.le_trans (by decide) hR.2⟩ (by decide) hMC hg_X3_init (by simp [hw_nest]; decide) (sv_w3 tw_86 tw_54 tw_87) rfl ⟨(by decide), (by decide), (by decide +kernel)⟩ (by decide +kernel), List.forall_mem_cons.mpr ⟨hw_cIN (idx := 12) (n := 0) S hkn (hm_X7_init l) ⟨Nat.le_trans (by decide) hR.1, Nat.le_trans (by decide) hR.2⟩ (by decide) hMC hg_X7_init (by simp [hw_nest]; decide) (sv_w3 tw_93 tw_55 tw_94) rfl ⟨(by decide), (by decide), (by decide +kernel)⟩ (by decide +kernel), List.forall_mem_cons.mpr ⟨hw_cIN (idx := 15) (n := 0) S hkn (hm_X2_init l) ⟨Nat.le_trans (by decide) hR.1, Nat.le_trans (by decide) hR.2⟩ (by decide) hMC hg_X2_init (by simp [hw_nest]; decide) (sv_w3 tw_100 tw_56 tw_101) rfl ⟨(by decide), (by decide), (by decide +kernel)⟩ (by decide +kernel), List.forall_mem_cons.mpr ⟨hw_cIN (idx := 18) (n := 0) S hkn (hm_X4_init l) ⟨Nat.le_trans (by decide) hR.1, Nat.le_trans (by decide) hR.2⟩ (by decide) hMC hg_X4_init (by simp [hw_nest]; decide) (sv_w3 tw_107 tw_57 tw_108) rfl ⟨(by decide), (by decide), (by decide +kernel)⟩ (by decide +kernel), List.forall_mem_cons.mpr ⟨hw_cIN (idx := 21) (n := 0) S hkn (hm_X10_init l) ⟨Nat.le_trans (by decide) hR.1, Nat.le_trans (by decide) hR.2⟩ (by decide) hMC hg_X10_init (by simp [hw_nest]; decide) (sv_w3 tw_114 tw_58 tw_115) rfl ⟨(by decide), (by decide), (by decide +kernel)⟩ (by decide +kernel), List.forall_mem_cons.mpr ⟨hw_cIN (idx := 24) (n := 0) S hkn (hm_X0_init l) ⟨Nat.le_trans (by decide) hR.1, Nat.le_trans (by decide) hR.2⟩ (by decide) hMC hg_X0_init (by simp [hw_nest]; decide) (sv_w3 tw_121 tw_59 tw_122) rfl ⟨(by decide), (by decide), (by decide +kernel)⟩ (by decide +kernel), List.forall_mem_cons.mpr ⟨hw_cI (idx := 27) (n := 1) S hkn (hm_X5_init l) ⟨Nat.le_trans (by decide) hR.1, Nat.le_trans (by decide) hR.2⟩ (by decide) hMC hg_X5_init (sv_w4 tw_127 tw_128 tw_60 tw_129) rfl ⟨(by decide), (by decide), (by decide +kernel)⟩ (by decide +kernel), List.forall_mem_cons.mpr ⟨hw_cI (idx := 27) (n := 1) S hkn (hm_X5_init l) ⟨Nat.le_trans (by decide) hR.1, Nat.le_trans (by decide) hR.2⟩ (by decide) hMC hg_X5_init (sv_w4 tw_127 tw_128 tw_60 tw_129) rfl ⟨(by decide), (by decide), (by decide +kernel)⟩ (by decide +kernel), List.forall_mem_cons.mpr ⟨hw_cI (idx := 27) (n := 1) S hkn (hm_X5_init l) ⟨Nat.le_trans (by decide) hR.1, Nat.le_trans (by decide) hR.2⟩ (by decide) hMC hg_X5_init (sv_w4 tw_127 tw_128 tw_60 tw_129) rfl ⟨(by decide), (by decide), (by decide +kernel)⟩ (by decide +kernel), List.forall_mem_cons.mpr ⟨hw_cI (idx := 44) (n := 0) S hkn (hm_X8_init l) ⟨Nat.le_trans (by decide) hR.1, Nat.le_trans (by decide) hR.2⟩ (by decide) hMC hg_X8_init (sv_w4 tw_221 tw_222 tw_63 tw_223) rfl ⟨(by decide), (by decide), (by decide +kernel)⟩ (by decide +kernel), List.forall_mem_cons.mpr ⟨hw_cI (idx := 55) (n := 0) S hkn (hm_X6_init l) ⟨Nat.le_trans (by decide) hR.1, Nat.le_trans (by decide) hR.2⟩ (by decide) hMC hg_X6_init (sv_w4 tw_259 tw_260 tw_64 tw_261) rfl ⟨(by decide), (by decide), (by decide +kernel)⟩ (by decide +kernel), List.forall_mem_cons.mpr ⟨hw_cIN (idx := 72) (n := 0) S hkn (hm_X1_init l) ⟨Nat.le_trans (by decide) hR.1, Nat.le_trans (by decide) hR.2⟩ (by decide) hMC hg_X1_init (by simp [hw_nest]; decide) (sv_w3 tw_135 tw_61 tw_136) rfl ⟨(by decide), (by decide), (by decide +kernel)⟩ (by decide +kernel), List.forall_mem_cons.mpr ⟨hw_cI (idx := 55) (n := 0) S hkn (hm_X6_init l) ⟨Nat.le_trans (by decide) hR.1, Nat.le_trans (by decide) hR.2⟩ (by decide) hMC hg_X6_init (sv_w4 tw_259 tw_260 tw_64 tw_261) rfl ⟨(by decide), (by decide), (by decide +kernel)⟩ (by decide +kernel), fun _ h => absurd h List.not_mem_nil⟩⟩⟩⟩⟩⟩⟩⟩⟩⟩⟩⟩⟩) pc (n, (mc, (ms, F))) hh
def hcd_X12_init : hw_Cd := [(0, (.aload_n 0, (1, 0))), (1, (.invokespecial 1, (3, 0))), (4, (.aload_n 0, (1, 0))), (5, (.sipush 3086, (3, 0))), (8, (.newarray .int, (2, 0))), (10, (.putfield 7, (3, 0))), (13, (.aload_n 0, (1, 0))), (14, (.sipush 3086, (3, 0))), (17, (.newarray .int, (2, 0))), (19, (.putfield 13, (3, 0))), (22, (.aload_n 0, (1, 0))), (23, (.sipush 3086, (3, 0))), (26, (.newarray .int, (2, 0))), (28, (.putfield 16, (3, 0))), (31, (.aload_n 0, (1, 0))), (32, (.iconst 4, (1, 0))), (33, (.newarray .int, (2, 0))), (35, (.putfield 19, (3, 0))), (38, (.aload_n 0, (1, 0))), (39, (.iconst 4, (1, 0))), (40, (.newarray .int, (2, 0))), (42, (.putfield 22, (3, 0))), (45, (.aload_n 0, (1, 0))), (46, (.bipush 96, (2, 0))), (48, (.newarray .int, (2, 0))), (50, (.putfield 25, (3, 0))), (53, (.aload_n 0, (1, 0))), (54, (.iconst 5, (1, 0))), (55, (.newarray .int, (2, 0))), (57, (.putfield 28, (3, 0))), (60, (.aload_n 0, (1, 0))), (61, (.iconst 5, (1, 0))), (62, (.newarray .int, (2, 0))), (64, (.putfield 31, (3, 0))), (67, (.aload_n 0, (1, 0))), (68, (.iconst 5, (1, 0))), (69, (.newarray .int, (2, 0))), (71, (.putfield 34, (3, 0))), (74, (.aload_n 0, (1, 0))), (75, (.iconst 5, (1, 0))), (76, (.newarray .int, (2, 0))), (78, (.putfield 37, (3, 0))), (81, (.aload_n 0, (1, 0))), (82, (.bipush 120, (2, 0))), (84, (.newarray .int, (2, 0))), (86, (.putfield 40, (3, 0))), (89, (.aload_n 0, (1, 0))), (90, (.bipush 10, (2, 0))), (92, (.newarray .int, (2, 0))), (94, (.putfield 43, (3, 0))), (97, (.aload_n 0, (1, 0))), (98, (.bipush 86, (2, 0))), (100, (.newarray .int, (2, 0))), (102, (.putfield 46, (3, 0))), (105, (.aload_n 0, (1, 0))), (106, (.bipush 10, (2, 0))), (108, (.newarray .int, (2, 0))), (110, (.putfield 49, (3, 0))), (113, (.aload_n 0, (1, 0))), (114, (.bipush 96, (2, 0))), (116, (.newarray .int, (2, 0))), (118, (.putfield 52, (3, 0))), (121, (.aload_n 0, (1, 0))), (122, (.sipush 128, (3, 0))), (125, (.newarray .int, (2, 0))), (127, (.putfield 55, (3, 0))), (130, (.aload_n 0, (1, 0))), (131, (.bipush 100, (2, 0))), (133, (.newarray .int, (2, 0))), (135, (.putfield 58, (3, 0))), (138, (.aload_n 0, (1, 0))), (139, (.bipush 24, (2, 0))), (141, (.newarray .int, (2, 0))), (143, (.putfield 61, (3, 0))), (146, (.aload_n 0, (1, 0))), (147, (.bipush 60, (2, 0))), (149, (.newarray .int, (2, 0))), (151, (.putfield 64, (3, 0))), (154, (.aload_n 0, (1, 0))), (155, (.bipush 60, (2, 0))), (157, (.newarray .int, (2, 0))), (159, (.putfield 67, (3, 0))), (162, (.aload_n 0, (1, 0))), (163, (.getfield 7, (3, 0))), (166, (.iconst 4, (1, 0))), (167, (.iconst 1, (1, 0))), (168, (.iastore, (1, 0))), (169, (.iconst 0, (1, 0))), (170, (.istore_n 1, (1, 0))), (171, (.iload_n 1, (1, 0))), (172, (.iconst 4, (1, 0))), (173, (.if_icmp .ge 16, (3, 189))), (176, (.aload_n 0, (1, 0))), (177, (.getfield 19, (3, 0))), (180, (.iload_n 1, (1, 0))), (181, (.iconst (-1), (1, 0))), (182, (.iastore, (1, 0))), (183, (.iinc 1 1, (3, 0))), (186, (.goto (-15), (3, 171))), (189, (.return_, (1, 0)))]
def hx_X12_init : hw_T := ([(7, (12, (0, (false, true)))), (13, (12, (1, (false, true)))), (16, (12, (2, (false, true)))), (19, (12, (4, (false, true)))), (22, (12, (5, (false, true)))), (25, (12, (6, (false, true)))), (28, (12, (7, (false, true)))), (31, (12, (8, (false, true)))), (34, (12, (9, (false, true)))), (37, (12, (10, (false, true)))), (40, (12, (11, (false, true)))), (43, (12, (12, (false, true)))), (46, (12, (13, (false, true)))), (49, (12, (14, (false, true)))), (52, (12, (16, (false, true)))), (55, (12, (28, (false, true)))), (58, (12, (29, (false, true)))), (61, (12, (30, (false, true)))), (64, (12, (31, (false, true)))), (67, (12, (33, (false, true))))], ([], ([], (1, []))))
def hf_X12_init : hw_F := fun as w => match as with
  | [.inr (.inr (some q0))] => hw_ex hx_X12_init 20 12000 hcd_X12_init 3000 0 (sv_e0 2 [.inr (.inr (some q0))]) [] w 0 0
  | _ => none
theorem hg_X12_init (as : List sv_V) (w x : List hw_E) (h : hf_X12_init as w = some x) : ∃ r j as', as = sv_R r j :: as' := by
  unfold hf_X12_init at h
  split at h
  · exact ⟨_, _, _, rfl⟩
  · cases h
set_option maxRecDepth 20000 in
theorem hm_X12_init (l : Launch) : hw_M l yX12_init cX12_init 2 hf_X12_init 1 20 12000 := by
  refine hw_mk (X := hx_X12_init) (cd := hcd_X12_init) (fu := 3000) (by decide) (by decide) (by decide +kernel) (fun as w x h => ?_) ?_
  · unfold hf_X12_init at h
    split at h
    · exact ⟨⟨by show 1 ≤ 2; decide, fun v hv => by simp only [List.mem_cons, List.not_mem_nil, or_false] at hv; rcases hv with rfl <;> trivial⟩, h⟩
    · cases h
  · intro p e R s m args below meth c Q base dC dI cA S hkn hnm hR hMC
    refine ⟨fun idx ci k i f hh => ?_, fun idx ci hh => ?_, fun idx t C hh => ?_, fun idx hh h1 => ?_, fun pc n mc ms F hh => ?_⟩
    · exact sv_lk_all (L := [(7, (12, (0, (false, true)))), (13, (12, (1, (false, true)))), (16, (12, (2, (false, true)))), (19, (12, (4, (false, true)))), (22, (12, (5, (false, true)))), (25, (12, (6, (false, true)))), (28, (12, (7, (false, true)))), (31, (12, (8, (false, true)))), (34, (12, (9, (false, true)))), (37, (12, (10, (false, true)))), (40, (12, (11, (false, true)))), (43, (12, (12, (false, true)))), (46, (12, (13, (false, true)))), (49, (12, (14, (false, true)))), (52, (12, (16, (false, true)))), (55, (12, (28, (false, true)))), (58, (12, (29, (false, true)))), (61, (12, (30, (false, true)))), (64, (12, (31, (false, true)))), (67, (12, (33, (false, true))))]) (P := fun idx (x : Nat × (Nat × (Bool × Bool))) => ∃ q : vw_C, vwCl[x.1]? = some q ∧ x.2.1 < q.2.2 ∧ Cond.fieldLink yX12_init.cls idx (q.2.1 x.2.1).1 (q.2.1 x.2.1).2.1 (q.2.1 x.2.1).2.2.1 ∈ gw_tbl ∧ (q.2.1 x.2.1).2.2.2 = x.2.2.2 ∧ (x.2.2.2 = true → (q.2.1 x.2.1).1 = yX12_init.cls ∧ meth.name = "<init>") ∧ (x.2.2.1 = true → parseFieldDescriptor (q.2.1 x.2.1).2.2.1 = some .int) ∧ (x.2.2.1 = false → ∃ ty, parseFieldDescriptor (q.2.1 x.2.1).2.2.1 = some ty ∧ ∀ a, narrow ty (.ref a) = .ref a ∧ fits ty (.ref a) = true)) (List.forall_mem_cons.mpr ⟨⟨(RX12, TX12, 34), rfl, (by decide), tw_990, rfl, (fun _ => ⟨rfl, hnm⟩), (fun h => by cases h), (fun _ => ⟨tyX12 0, tyX12_ok 0 (by decide), fun _ => ⟨rfl, rfl⟩⟩)⟩, List.forall_mem_cons.mpr ⟨⟨(RX12, TX12, 34), rfl, (by decide), tw_991, rfl, (fun _ => ⟨rfl, hnm⟩), (fun h => by cases h), (fun _ => ⟨tyX12 1, tyX12_ok 1 (by decide), fun _ => ⟨rfl, rfl⟩⟩)⟩, List.forall_mem_cons.mpr ⟨⟨(RX12, TX12, 34), rfl, (by decide), tw_992, rfl, (fun _ => ⟨rfl, hnm⟩), (fun h => by cases h), (fun _ => ⟨tyX12 2, tyX12_ok 2 (by decide), fun _ => ⟨rfl, rfl⟩⟩)⟩, List.forall_mem_cons.mpr ⟨⟨(RX12, TX12, 34), rfl, (by decide), tw_994, rfl, (fun _ => ⟨rfl, hnm⟩), (fun h => by cases h), (fun _ => ⟨tyX12 4, tyX12_ok 4 (by decide), fun _ => ⟨rfl, rfl⟩⟩)⟩, List.forall_mem_cons.mpr ⟨⟨(RX12, TX12, 34), rfl, (by decide), tw_995, rfl, (fun _ => ⟨rfl, hnm⟩), (fun h => by cases h), (fun _ => ⟨tyX12 5, tyX12_ok 5 (by decide), fun _ => ⟨rfl, rfl⟩⟩)⟩, List.forall_mem_cons.mpr ⟨⟨(RX12, TX12, 34), rfl, (by decide), tw_996, rfl, (fun _ => ⟨rfl, hnm⟩), (fun h => by cases h), (fun _ => ⟨tyX12 6, tyX12_ok 6 (by decide), fun _ => ⟨rfl, rfl⟩⟩)⟩, List.forall_mem_cons.mpr ⟨⟨(RX12, TX12, 34), rfl, (by decide), tw_997, rfl, (fun _ => ⟨rfl, hnm⟩), (fun h => by cases h), (fun _ => ⟨tyX12 7, tyX12_ok 7 (by decide), fun _ => ⟨rfl, rfl⟩⟩)⟩, List.forall_mem_cons.mpr ⟨⟨(RX12, TX12, 34), rfl, (by decide), tw_998, rfl, (fun _ => ⟨rfl, hnm⟩), (fun h => by cases h), (fun _ => ⟨tyX12 8, tyX12_ok 8 (by decide), fun _ => ⟨rfl, rfl⟩⟩)⟩, List.forall_mem_cons.mpr ⟨⟨(RX12, TX12, 34), rfl, (by decide), tw_999, rfl, (fun _ => ⟨rfl, hnm⟩), (fun h => by cases h), (fun _ => ⟨tyX12 9, tyX12_ok 9 (by decide), fun _ => ⟨rfl, rfl⟩⟩)⟩, List.forall_mem_cons.mpr ⟨⟨(RX12, TX12, 34), rfl, (by decide), tw_1000, rfl, (fun _ => ⟨rfl, hnm⟩), (fun h => by cases h), (fun _ => ⟨tyX12 10, tyX12_ok 10 (by decide), fun _ => ⟨rfl, rfl⟩⟩)⟩, List.forall_mem_cons.mpr ⟨⟨(RX12, TX12, 34), rfl, (by decide), tw_1001, rfl, (fun _ => ⟨rfl, hnm⟩), (fun h => by cases h), (fun _ => ⟨tyX12 11, tyX12_ok 11 (by decide), fun _ => ⟨rfl, rfl⟩⟩)⟩, List.forall_mem_cons.mpr ⟨⟨(RX12, TX12, 34), rfl, (by decide), tw_1002, rfl, (fun _ => ⟨rfl, hnm⟩), (fun h => by cases h), (fun _ => ⟨tyX12 12, tyX12_ok 12 (by decide), fun _ => ⟨rfl, rfl⟩⟩)⟩, List.forall_mem_cons.mpr ⟨⟨(RX12, TX12, 34), rfl, (by decide), tw_1003, rfl, (fun _ => ⟨rfl, hnm⟩), (fun h => by cases h), (fun _ => ⟨tyX12 13, tyX12_ok 13 (by decide), fun _ => ⟨rfl, rfl⟩⟩)⟩, List.forall_mem_cons.mpr ⟨⟨(RX12, TX12, 34), rfl, (by decide), tw_1004, rfl, (fun _ => ⟨rfl, hnm⟩), (fun h => by cases h), (fun _ => ⟨tyX12 14, tyX12_ok 14 (by decide), fun _ => ⟨rfl, rfl⟩⟩)⟩, List.forall_mem_cons.mpr ⟨⟨(RX12, TX12, 34), rfl, (by decide), tw_1006, rfl, (fun _ => ⟨rfl, hnm⟩), (fun h => by cases h), (fun _ => ⟨tyX12 16, tyX12_ok 16 (by decide), fun _ => ⟨rfl, rfl⟩⟩)⟩, List.forall_mem_cons.mpr ⟨⟨(RX12, TX12, 34), rfl, (by decide), tw_1018, rfl, (fun _ => ⟨rfl, hnm⟩), (fun h => by cases h), (fun _ => ⟨tyX12 28, tyX12_ok 28 (by decide), fun _ => ⟨rfl, rfl⟩⟩)⟩, List.forall_mem_cons.mpr ⟨⟨(RX12, TX12, 34), rfl, (by decide), tw_1019, rfl, (fun _ => ⟨rfl, hnm⟩), (fun h => by cases h), (fun _ => ⟨tyX12 29, tyX12_ok 29 (by decide), fun _ => ⟨rfl, rfl⟩⟩)⟩, List.forall_mem_cons.mpr ⟨⟨(RX12, TX12, 34), rfl, (by decide), tw_1020, rfl, (fun _ => ⟨rfl, hnm⟩), (fun h => by cases h), (fun _ => ⟨tyX12 30, tyX12_ok 30 (by decide), fun _ => ⟨rfl, rfl⟩⟩)⟩, List.forall_mem_cons.mpr ⟨⟨(RX12, TX12, 34), rfl, (by decide), tw_1021, rfl, (fun _ => ⟨rfl, hnm⟩), (fun h => by cases h), (fun _ => ⟨tyX12 31, tyX12_ok 31 (by decide), fun _ => ⟨rfl, rfl⟩⟩)⟩, List.forall_mem_cons.mpr ⟨⟨(RX12, TX12, 34), rfl, (by decide), tw_1023, rfl, (fun _ => ⟨rfl, hnm⟩), (fun h => by cases h), (fun _ => ⟨tyX12 33, tyX12_ok 33 (by decide), fun _ => ⟨rfl, rfl⟩⟩)⟩, fun _ h => absurd h List.not_mem_nil⟩⟩⟩⟩⟩⟩⟩⟩⟩⟩⟩⟩⟩⟩⟩⟩⟩⟩⟩⟩) idx (ci, (k, (i, f))) hh
    · exact sv_lk_all (L := []) (P := fun idx (ci : Nat) => ∃ (q : vw_C) (tyf : Nat → FieldType), vwCl[ci]? = some q ∧ (∀ k, k < q.2.2 → parseFieldDescriptor (q.2.1 k).2.2.1 = some (tyf k)) ∧ (∀ k, k < q.2.2 → defaultValue (tyf k) = hw_z ci k) ∧ Cond.classLink yX12_init.cls idx q.1 ∈ gw_tbl ∧ Cond.instantiable q.1 q.2.2 ∈ gw_tbl ∧ Cond.initialized q.1 ∈ gw_tbl) (fun _ h => absurd h List.not_mem_nil) idx ci hh
    · exact sv_lk_all (L := []) (P := fun idx (x : Nat × String) => (sv_tys cA)[x.1]? = some (cA x.1, .object x.2) ∧ Cond.classLink yX12_init.cls idx x.2 ∈ gw_tbl ∧ x.2 ∈ hw_over) (fun _ h => absurd h List.not_mem_nil) idx (t, C) hh
    · have e := Nat.eq_of_beq_eq_true hh
      have e : idx = 1 := e
      subst e
      exact ⟨tw_989, tw_80, tw_81⟩
    · exact sv_lk_all (L := []) (P := fun pc (x : Nat × (Nat × (Nat × hw_F))) => hw_cok p l e R s m args below meth c Q base dC dI cA 2 20 12000 pc x.1 x.2.1 x.2.2.1 x.2.2.2) (fun _ h => absurd h List.not_mem_nil) pc (n, (mc, (ms, F))) hh
