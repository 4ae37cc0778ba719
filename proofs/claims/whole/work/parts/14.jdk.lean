theorem fk_21 : ∀ q ∈ fl_21, sv_fk RJ7 q.1 q.2.1 q.2.2 := fun _ h => absurd h List.not_mem_nil
theorem kk_21 : ∀ q ∈ kc_21, sv_1k RJ7 q.1 q.2 := fun _ h => absurd h List.not_mem_nil
theorem sv_kd7 (j : Nat) : ∃ ci q, sv_kd 7 j = .inl ci ∧ vwCl[ci]? = some q := by
  match j with
  | 0 => exact ⟨_, _, rfl, rfl⟩
  | 1 => exact ⟨_, _, rfl, rfl⟩
  | 2 => exact ⟨_, _, rfl, rfl⟩
  | 3 => exact ⟨_, _, rfl, rfl⟩
  | 4 => exact ⟨_, _, rfl, rfl⟩
  | j + 5 => exact ⟨0, _, rfl, rfl⟩
theorem sv_gI_of {F : List sv_V → sv_S → Option (Int32 × sv_S)} {as : List sv_V} {σ τ : sv_S} {v : Int32} {x : Option sv_V × sv_S} (h1 : F as σ = some (v, τ)) (h2 : (some (some (Sum.inl v), τ) : Option (Option sv_V × sv_S)) = some x) : sv_gI F as σ = some x := by
  unfold sv_gI
  rw [h1]
  exact h2
theorem h_ac5 (as : List sv_V) (σ : sv_S) (x : sv_S) (h : n_ac5 as σ = some x) : ∃ i sp j dp n, as = [sv_R 5 i, .inl sp, sv_R 5 j, .inl dp, .inl n] ∧ f_ac 5 i sp j dp n σ = some x := by
  unfold n_ac5 at h
  split at h
  · exact ⟨_, _, _, _, _, rfl, h⟩
  · cases h
theorem h_ac13 (as : List sv_V) (σ : sv_S) (x : sv_S) (h : n_ac13 as σ = some x) : ∃ i sp j dp n, as = [sv_R 13 i, .inl sp, sv_R 13 j, .inl dp, .inl n] ∧ f_ac 13 i sp j dp n σ = some x := by
  unfold n_ac13 at h
  split at h
  · exact ⟨_, _, _, _, _, rfl, h⟩
  · cases h
noncomputable def f_Js_length (j : Nat) (σ : sv_S) : Option (Int32 × sv_S) := some (nI (sv_tl.getD j 0), σ)
noncomputable def f_Js_charAt (j : Nat) (k : Int32) (σ : sv_S) : Option (Int32 × sv_S) := sv_g (sv_in k (sv_tl.getD j 0)) (some ((sv_tb.getD j []).getD k.toNatClampNeg 0, σ))
def sv_ix (c : Int32) : List Int32 → Nat → Int32
  | [], _ => -1
  | b :: l, k => if b = c then nI k else sv_ix c l (k + 1)
noncomputable def f_Js_indexOf (j : Nat) (c : Int32) (σ : sv_S) : Option (Int32 × sv_S) := sv_g (0 ≤ c ∧ c < 65536) (some (sv_ix c (sv_tb.getD j []) 0, σ))
noncomputable def n_Js_length : List sv_V → sv_S → Option (Int32 × sv_S)
  | [.inr (.inr (some (23, j)))], σ => f_Js_length j σ
  | _, _ => none
noncomputable def n_Js_charAt : List sv_V → sv_S → Option (Int32 × sv_S)
  | [.inr (.inr (some (23, j))), .inl k], σ => f_Js_charAt j k σ
  | _, _ => none
noncomputable def n_Js_indexOf : List sv_V → sv_S → Option (Int32 × sv_S)
  | [.inr (.inr (some (23, j))), .inl c], σ => f_Js_indexOf j c σ
  | _, _ => none
theorem gj_length (as : List sv_V) (σ : sv_S) (x : Option sv_V × sv_S) (h : sv_gI n_Js_length as σ = some x) : ∃ i as', as = sv_R 23 i :: as' := by
  obtain ⟨_, _, h, -⟩ := sv_b_some h
  unfold n_Js_length at h
  split at h
  · exact ⟨_, _, rfl⟩
  · cases h
theorem gj_charAt (as : List sv_V) (σ : sv_S) (x : Option sv_V × sv_S) (h : sv_gI n_Js_charAt as σ = some x) : ∃ i as', as = sv_R 23 i :: as' := by
  obtain ⟨_, _, h, -⟩ := sv_b_some h
  unfold n_Js_charAt at h
  split at h
  · exact ⟨_, _, rfl⟩
  · cases h
theorem gj_indexOf (as : List sv_V) (σ : sv_S) (x : Option sv_V × sv_S) (h : sv_gI n_Js_indexOf as σ = some x) : ∃ i as', as = sv_R 23 i :: as' := by
  obtain ⟨_, _, h, -⟩ := sv_b_some h
  unfold n_Js_indexOf at h
  split at h
  · exact ⟨_, _, rfl⟩
  · cases h
noncomputable def f_Jm_max (a b : Int32) (σ : sv_S) : Option (Int32 × sv_S) := some (if a < b then b else a, σ)
noncomputable def f_Jm_min (a b : Int32) (σ : sv_S) : Option (Int32 × sv_S) := some (if b < a then b else a, σ)
noncomputable def f_Jm_abs (a : Int32) (σ : sv_S) : Option (Int32 × sv_S) := some (if 0 ≤ a then a else 0 - a, σ)
noncomputable def n_Jm_max : List sv_V → sv_S → Option (Int32 × sv_S)
  | [.inl a, .inl b], σ => f_Jm_max a b σ
  | _, _ => none
noncomputable def n_Jm_min : List sv_V → sv_S → Option (Int32 × sv_S)
  | [.inl a, .inl b], σ => f_Jm_min a b σ
  | _, _ => none
noncomputable def n_Jm_abs : List sv_V → sv_S → Option (Int32 × sv_S)
  | [.inl a], σ => f_Jm_abs a σ
  | _, _ => none
section SVJ
variable {p : Program} {l : Launch} {e : Env} {R : Room} {s : State} {m : MethodId} {args : Array Value} {below : List Frame} {meth : Method} {c : Code} {cells slots : Nat} {Q : State → Prop}
variable {cc : ByteArray} {base : Nat} {ad : Nat → Nat → Nat} {dC : Nat → ClassId} {dI : Nat → Nat → Nat} {cA : Nat → ClassId} {own : String} {nL n0 : Nat} {nl : Bool}
/-- a method of a text constant -/
theorem sv_cJ (S : CallFix p m c cc nL s args gw_tbl own) (hkn : sv_kn base ad dC dI cA s) {y : MethodName} {b : ByteArray} {mL h n idx pc : Nat} {ret : Option FieldType} {G : sv_D} (hM : sv_M l y b mL ret G h) (hR : h + 1 ≤ R.frames ∧ 64 * (h + 1) ≤ R.locals) (hmL : mL ≤ 45) (hf : cells ≤ R.cells ∧ slots ≤ R.slots)
    (hG : ∀ as σ x, G as σ = some x → ∃ i as', as = sv_R 23 i :: as') (hw : ∀ w ∈ [Cond.methodLink own idx y, Cond.instanceMethod y, Cond.selects RJ0 y y, Cond.initialized RJ0, Cond.code y b mL ret], w ∈ gw_tbl)
    (hd : y.cls = RJ0 ∧ y.cls ≠ "java/lang/invoke/MethodHandle" ∧ y.cls ≠ "java/lang/invoke/VarHandle" ∧ (parseMethodDescriptor y.desc).map (fun d => d.parameters.length) = some n) (hdg : decode cc pc = .ok (.invokevirtual idx, 3)) :
    sv_cg p l e R s m args below meth c cells slots Q base ad dC dI cA nl nL n0 pc (n + 1) G := by
  intro as rest lo σ r σ' hn hsm hGs hWt H locs ls hRp hS hL hct hst hlo
  subst hct
  have has : ∀ v ∈ as, sv_ok (sv_ct σ) v := fun v hv => hst v (List.mem_append_left _ (List.mem_reverse.mpr hv))
  obtain ⟨i0, as', rfl⟩ := hG as σ _ hGs
  have hlv : sv_lv (sv_ct σ) 23 i0 := has _ List.mem_cons_self
  have hi : i0 < 6 := hlv.1
  have hVS := hkn.2.2.2.2.2.1
  have hgood : GoodIn gw_tbl (wsV own idx RJ0 y (sv_ws y b mL ret)) := gw_goodIn (fun w h => by
    unfold wsV at h
    rcases List.mem_append.mp h with h | h
    · exact hw w (by simp only [List.mem_cons, List.not_mem_nil, or_false] at h ⊢; rcases h with h | h | h | h <;> simp [h])
    · exact sv_ws_in (hw _ (by simp)) w h)
  have hn' : as'.length = n := by simpa using hn
  refine sv_goOn (rest := rest) (as := sv_R 23 i0 :: as') (va_runV (As := as'.map (sv_c ad)) (b := ad 23 i0) S (hM base ad dC dI cA (sv_R 23 i0 :: as') σ r σ' hGs has) (cwV n S.2.2.2.2 hgood rfl rfl rfl hd ⟨hR.1, ?_⟩) ⟨sv_blind, vk_recv hVS hi hS, sv_pre (as := sv_R 23 i0 :: as') hkn hRp hS rfl⟩ rfl (by rw [List.length_map]; exact hn') hL.2.1 ?_ (lv_room (sv_sm8 hsm)) hdg hf) hS hL hst hlo hWt
  · show 8 + (mL + 11) + 64 * h ≤ R.locals
    omega
  · simp [List.map_append, List.map_reverse, List.append_assoc]
    rfl
theorem sv_cmax (S : CallFix p m c cc nL s args gw_tbl own) {idx pc : Nat} (hR : 1 ≤ R.frames ∧ 64 * 1 ≤ R.locals) (hf : cells ≤ R.cells ∧ slots ≤ R.slots) (hw : ∀ w ∈ [Cond.methodLink own idx Lib.Math.max.name, Cond.static Lib.Math.max.name, Cond.initialized "java/lang/Math", Cond.code Lib.Math.max.name Lib.Math.max.code 2 (some .int)], w ∈ gw_tbl) (hdg : decode cc pc = .ok (.invokestatic idx, 3)) : sv_cg p l e R s m args below meth c cells slots Q base ad dC dI cA nl nL n0 pc 2 (sv_gI n_Jm_max) := by
  intro as rest lo σ r σ' hn hsm hG hWt H locs ls hRp hS hL hct hst hlo
  obtain ⟨v, τ, h1, h2⟩ := sv_b_some hG
  unfold n_Jm_max at h1
  split at h1
  · rename_i a b
    cases h1
    cases h2
    obtain ⟨hx, hb, hml, hown, hts⟩ := S
    have h8 : ((rest.map (sv_c ad)).map fun v => v.category).sum + 13 ≤ R.locals := by
      have h8 := sv_sm8 (ad := ad) hsm
      omega
    exact va_mmax hx hb (by rw [hml]; exact hL.2.1.symm) hown (hts _ (hw _ (by simp))) (hts _ (hw _ (by simp))) (hts _ (hw _ (by simp))) (hts _ (hw _ (by simp))) hR.1 h8 hf.1 hf.2 hdg (hWt H locs ls hRp hS hL hct (sv_cs trivial (fun v hv => hst v (List.mem_append_right _ hv))) hlo)
  · cases h1
theorem sv_cmin (S : CallFix p m c cc nL s args gw_tbl own) {idx pc : Nat} (hR : 1 ≤ R.frames ∧ 64 * 1 ≤ R.locals) (hf : cells ≤ R.cells ∧ slots ≤ R.slots) (hw : ∀ w ∈ [Cond.methodLink own idx Lib.Math.min.name, Cond.static Lib.Math.min.name, Cond.initialized "java/lang/Math", Cond.code Lib.Math.min.name Lib.Math.min.code 2 (some .int)], w ∈ gw_tbl) (hdg : decode cc pc = .ok (.invokestatic idx, 3)) : sv_cg p l e R s m args below meth c cells slots Q base ad dC dI cA nl nL n0 pc 2 (sv_gI n_Jm_min) := by
  intro as rest lo σ r σ' hn hsm hG hWt H locs ls hRp hS hL hct hst hlo
  obtain ⟨v, τ, h1, h2⟩ := sv_b_some hG
  unfold n_Jm_min at h1
  split at h1
  · rename_i a b
    cases h1
    cases h2
    obtain ⟨hx, hb, hml, hown, hts⟩ := S
    have h8 : ((rest.map (sv_c ad)).map fun v => v.category).sum + 13 ≤ R.locals := by
      have h8 := sv_sm8 (ad := ad) hsm
      omega
    exact va_mmin hx hb (by rw [hml]; exact hL.2.1.symm) hown (hts _ (hw _ (by simp))) (hts _ (hw _ (by simp))) (hts _ (hw _ (by simp))) (hts _ (hw _ (by simp))) hR.1 h8 hf.1 hf.2 hdg (hWt H locs ls hRp hS hL hct (sv_cs trivial (fun v hv => hst v (List.mem_append_right _ hv))) hlo)
  · cases h1
theorem sv_cabs (S : CallFix p m c cc nL s args gw_tbl own) {idx pc : Nat} (hR : 1 ≤ R.frames ∧ 64 * 1 ≤ R.locals) (hf : cells ≤ R.cells ∧ slots ≤ R.slots) (hw : ∀ w ∈ [Cond.methodLink own idx Lib.Math.abs.name, Cond.static Lib.Math.abs.name, Cond.initialized "java/lang/Math", Cond.code Lib.Math.abs.name Lib.Math.abs.code 1 (some .int)], w ∈ gw_tbl) (hdg : decode cc pc = .ok (.invokestatic idx, 3)) : sv_cg p l e R s m args below meth c cells slots Q base ad dC dI cA nl nL n0 pc 1 (sv_gI n_Jm_abs) := by
  intro as rest lo σ r σ' hn hsm hG hWt H locs ls hRp hS hL hct hst hlo
  obtain ⟨v, τ, h1, h2⟩ := sv_b_some hG
  unfold n_Jm_abs at h1
  split at h1
  · rename_i a
    cases h1
    cases h2
    obtain ⟨hx, hb, hml, hown, hts⟩ := S
    have h8 : ((rest.map (sv_c ad)).map fun v => v.category).sum + 13 ≤ R.locals := by
      have h8 := sv_sm8 (ad := ad) hsm
      omega
    exact va_mabs hx hb (by rw [hml]; exact hL.2.1.symm) hown (hts _ (hw _ (by simp))) (hts _ (hw _ (by simp))) (hts _ (hw _ (by simp))) (hts _ (hw _ (by simp))) hR.1 h8 hf.1 hf.2 hdg (hWt H locs ls hRp hS hL hct (sv_cs trivial (fun v hv => hst v (List.mem_append_right _ hv))) hlo)
  · cases h1
/-- super.method(..), where the superclass inherits it from its own -/
theorem sv_callU2 {T : State} {locs : List Loc} (X : Stand p l e R s m args below meth c T locs cells slots) (hexec : p.tables.exec = Jvm.exec) {index : Nat} {x y : MethodName} {owner : String} {bytes : ByteArray} {maxL : Nat} {ret : Option FieldType}
    (hown : s.vm.findClass own = some m.cls) (hyx : y = ⟨owner, x.name, x.desc⟩) (hlink : (Cond.methodLink own index x).before args s = true) (hsame : (Cond.sameMethod x.cls owner x.name x.desc).before args s = true) (hsup : (Cond.superclass own x.cls).before args s = true) (hsup2 : (Cond.superclass x.cls owner).before args s = true)
    (hinst : (Cond.instanceMethod y).before args s = true) (hcode : (Cond.code y bytes maxL ret).before args s = true) (hno : y.name ≠ "<init>")
    {W : Nat} {Pre : Pt → Array Value → Prop} {Post : Pt → Array Value → Option Value → Pt → Prop} (hK : Back l R p e below s args y 3 W Pre Post)
    {b : Addr} {cellB : Cell} {kB : Class} (hcell : T.heap[b]? = some cellB) (hobj : cellB.vm.isStatics = false) (hkB : s.vm.classes[cellB.cls]? = some kB)
    {g : JFrame} (hg : g.method = m) (hsize : g.locals.size = c.maxLocals) {argsL rest : List Value} (hlen : ∀ sig, parseMethodDescriptor y.desc = some sig → argsL.length = sig.parameters.length)
    (hstack : g.stack = argsL.reverse ++ .ref b :: rest) (hW : 2 * g.monitorRoom + (rest.map fun v => v.category).sum ≤ W) (hdg : decode c.code g.pc = .ok (.invokespecial index, 3))
    (hpre : ∀ vm₁, s.WarmedH vm₁ → Pre ⟨T.setVm vm₁, locs, cells, slots⟩ (Value.ref b :: argsL).toArray) :
    ∃ (v : Option Value) (vm₁ : Vm) (B : Pt), s.WarmedH vm₁ ∧ Stand p l e R s m args below meth c B.U B.locs B.cells B.slots ∧ Post ⟨T.setVm vm₁, locs, cells, slots⟩ (Value.ref b :: argsL).toArray v B ∧
      ∀ target, Steps p.tables e below (B.U.setTop { g with pc := g.pc + 3, stack := v.toList ++ rest }) target → Steps p.tables e below (T.setTop g) target := by
  subst hyx
  obtain ⟨mk, methM, hnamed, hmethM, hstM, habM⟩ := Cond.instanceMethod_spec hinst
  obtain ⟨methM', cM, hmethM', -, -, -, -, -, -, hsigM⟩ := Cond.code_spec hnamed hcode
  cases hmethM.symm.trans hmethM'
  obtain ⟨ps, dk, kp, hps, hdk, hkp, hsuper, -, -, hnid⟩ := Cond.superclass_spec hown hsup
  obtain ⟨p2, k2, kp2, hps2, hdk2, hkp2, hsuper2, -, -, -⟩ := Cond.superclass_spec hps hsup2
  have hpm : p2 = mk.cls := Option.some.inj (hps2.symm.trans (findClass_of_methodNamed hnamed))
  have hsz : 0 < s.vm.classes.size := Nat.lt_of_le_of_lt (Nat.zero_le _) (Array.getElem?_eq_some_iff.mp hdk2).1
  have hsub : s.vm.isSubclass ps mk.cls = true := by
    obtain ⟨z, hz⟩ : ∃ z, s.vm.classes.size = z + 1 := ⟨s.vm.classes.size - 1, by omega⟩
    simp [Vm.isSubclass, Vm.isSubclassAux, hz, hdk2, hsuper2, hpm]
  obtain ⟨vm₁, X₁, hstep₁⟩ := X.invokespecialUp hexec hown hlink hsame hnamed hmethM hstM habM hno hdk hnid hps hsuper hsub (a := b) (cell := cellB) hcell
    (fun z h => by rw [h] at hobj; cases hobj) hkB (g := g) hg (argsL := argsL) (rest := rest) (hlen _ hsigM) hstack hdg
  obtain ⟨v, B, X', hpost, hsteps⟩ := hK m meth c ⟨T.setVm vm₁, locs, cells, slots⟩ { g with stack := rest } (.invokespecial index) mk (Value.ref b :: argsL).toArray X₁ hg hsize hdg hW (X₁.named hnamed) (hpre vm₁ X₁.warmed)
  exact ⟨v, vm₁, B, X₁.warmed, X', hpost, fun target h => hstep₁ _ (by rw [doInvoke_state]; exact hsteps.trans h)⟩
theorem sv_cU2 (S : CallFix p m c cc nL s args gw_tbl own) (hkn : sv_kn base ad dC dI cA s) {x : MethodName} {owner : String} {b : ByteArray} {mL h n idx pc : Nat} {ret : Option FieldType} {G : sv_D} (hM : sv_M l ⟨owner, x.name, x.desc⟩ b mL ret G h) (hR : h + 1 ≤ R.frames ∧ 64 * (h + 1) ≤ R.locals) (hmL : mL ≤ 45) (hf : cells ≤ R.cells ∧ slots ≤ R.slots)
    (hG : ∀ as σ x, G as σ = some x → ∃ r i as' ci q, as = sv_R r i :: as' ∧ sv_kd r i = .inl ci ∧ vwCl[ci]? = some q) (hw : ∀ w ∈ [Cond.methodLink own idx x, Cond.sameMethod x.cls owner x.name x.desc, Cond.superclass own x.cls, Cond.superclass x.cls owner, Cond.instanceMethod ⟨owner, x.name, x.desc⟩, Cond.initialized owner, Cond.code ⟨owner, x.name, x.desc⟩ b mL ret], w ∈ gw_tbl)
    (hd : x.name ≠ "<init>" ∧ (parseMethodDescriptor x.desc).map (fun d => d.parameters.length) = some n) (hdg : decode cc pc = .ok (.invokespecial idx, 3)) :
    sv_cg p l e R s m args below meth c cells slots Q base ad dC dI cA nl nL n0 pc (n + 1) G := by
  intro as rest lo σ r σ' hn hsm hGs hWt H locs ls hRp hS hL hct hst hlo
  subst hct
  have has : ∀ v ∈ as, sv_ok (sv_ct σ) v := fun v hv => hst v (List.mem_append_left _ (List.mem_reverse.mpr hv))
  obtain ⟨r0, i0, as', ci, q, rfl, hkd, hq⟩ := hG as σ _ hGs
  have hlv : sv_lv (sv_ct σ) r0 i0 := has _ List.mem_cons_self
  have hn' : as'.length = n := by simpa using hn
  obtain ⟨hx, hb, hml, hown, hts⟩ := S
  have hws : ∀ w ∈ sv_ws ⟨owner, x.name, x.desc⟩ b mL ret, w ∈ gw_tbl := sv_ws_in (hw _ (by simp))
  obtain ⟨cellB, hcB, hoB, hclB⟩ := sv_recv hkn hRp hlv hkd hq
  obtain ⟨hfc, kB, hkB, -⟩ := (hkn.1.1 ci q hq).2
  have hcc : dC ci = cellB.cls := Option.some.inj (hfc.symm.trans hclB)
  have hkB : s.vm.classes[cellB.cls]? = some kB := by rw [← hcc]; exact hkB
  have hK : Back l R p e below s args ⟨owner, x.name, x.desc⟩ 3 8 (PreOf R 0 0 (sv_Pc base ad dC dI cA (sv_R r0 i0 :: as') σ)) (PostOf (sv_Qc base ad dC dI cA (sv_ct σ) r σ') 0 0 (fun q => base ≤ q)) :=
    back_of (bytes := b) (maxL := mL) (ret := ret) (hM base ad dC dI cA (sv_R r0 i0 :: as') σ r σ' hGs has) sv_blind rfl rfl hR.1 (by show 8 + (mL + 11) + 64 * h ≤ R.locals; omega) (pay_in hts (gw_goodIn hws)) List.mem_cons_self (fun a' U hW => word_at hW (Or.inl (by first | rfl | simp [Cond.onTables, Cond.keeps, Cond.steady])) (hts (Cond.initialized owner) (hw _ (by simp))))
  have hrun : va_Run p l e R s m args below meth c H locs cells slots 0 0 (F0 m pc ls (List.map (sv_c ad) ((sv_R r0 i0 :: as').reverse ++ rest))) (rest.map (sv_c ad)) (sv_Qc base ad dC dI cA (sv_ct σ) r σ' (Value.ref (ad r0 i0) :: as'.map (sv_c ad)).toArray) (fun q => base ≤ q) := by
    intro T hT X
    obtain ⟨v, vm₁, ⟨U', l2, c2, s2⟩, hW₁, X', ⟨g', mk, t, L, e1, e2, hqq, h1, hL', h2, h3⟩, st⟩ := sv_callU2 X hx (bytes := b) (maxL := mL) (ret := ret) hown rfl (hts (Cond.methodLink own idx x) (hw _ (by simp))) (hts (Cond.sameMethod x.cls owner x.name x.desc) (hw _ (by simp))) (hts (Cond.superclass own x.cls) (hw _ (by simp))) (hts (Cond.superclass x.cls owner) (hw _ (by simp))) (hts (Cond.instanceMethod ⟨owner, x.name, x.desc⟩) (hw _ (by simp))) (hts (Cond.code ⟨owner, x.name, x.desc⟩ b mL ret) (hw _ (by simp))) hd.1 hK (by rw [hT]; exact hcB) hoB hkB (g := F0 m pc ls (List.map (sv_c ad) ((sv_R r0 i0 :: as').reverse ++ rest))) rfl (by show ls.size = c.maxLocals; rw [hml]; exact hL.2.1) (argsL := as'.map (sv_c ad)) (rest := rest.map (sv_c ad)) (fun sig h => by
        have h2 := hd.2
        rw [show parseMethodDescriptor x.desc = some sig from h] at h2
        rw [List.length_map, hn']
        exact (Option.some.inj h2).symm) (by simp [List.map_append, List.map_reverse, List.append_assoc]; rfl) (lv_room (sv_sm8 hsm)) (by rw [hb]; exact hdg)
      (fun vm₁ hW₁ => ⟨hf.1, hf.2, sv_pre (as := sv_R r0 i0 :: as') hkn hRp hS rfl (T.setVm vm₁) hT hW₁⟩)
    dsimp only [Pt.U, Pt.locs, Pt.cells, Pt.slots] at X' e1 e2 h1 h2 h3 st
    subst h1; subst h2; subst h3
    exact ⟨v, (T.setVm vm₁).calling g' mk (Value.ref (ad r0 i0) :: as'.map (sv_c ad)).toArray, t, U', L, hT, X', hL', e1, e2, hqq, st⟩
  exact sv_goOn (rest := rest) (as := sv_R r0 i0 :: as') hrun hS hL hst hlo hWt
end SVJ
theorem m_Js_length (l : Launch) : sv_M l yJ0_length_8abf5 cJ0_length_8abf5 1 (some .int) (sv_gI n_Js_length) 8 := sorry
theorem m_Js_charAt (l : Launch) : sv_M l yJ0_charAt_5068e cJ0_charAt_5068e 2 (some .char) (sv_gI n_Js_charAt) 8 := sorry
theorem m_Js_indexOf (l : Launch) : sv_M l yJ0_indexOf_0f7a4 cJ0_indexOf_0f7a4 2 (some .int) (sv_gI n_Js_indexOf) 8 := sorry
noncomputable def f_Ja_fill_5 : Nat → Nat → Int32 → Int32 → Int32 → sv_S → Option (sv_S)
  | 0, _, _, _, _, _ => none
  | n + 1, x0, x1, x2, x3, σ =>
    sv_if (x3 ≤ x2)
      (some σ)
      (sv_g (sv_in x2 24) (f_Ja_fill_5 n x0 x1 (x2 + (1 : Int32)) x3 (sv_up σ 13 x0 (x2.toNatClampNeg) x1)))
noncomputable def f_Ja_fill (a0 : Nat) (a1 : Int32) (σ : sv_S) : Option (sv_S) :=
  f_Ja_fill_5 sv_fu a0 a1 (0 : Int32) (nI 24) σ
noncomputable def n_Ja_fill : List sv_V → sv_S → Option (sv_S)
  | [.inr (.inr (some (13, a0))), .inl a1], σ => f_Ja_fill a0 a1 σ
  | _, _ => none
def cd_Ja_fill : sv_C := [(0, (.iconst 0, (.inl (0 : Int32), (1, (0, []))))), (1, (.istore_n 2, (sv_N, (2, (0, []))))), (2, (.aload_n 0, (sv_N, (3, (0, []))))), (3, (.arraylength, (sv_N, (4, (0, []))))), (4, (.istore_n 3, (sv_N, (5, (0, []))))), (5, (.iload_n 2, (sv_N, (6, (0, []))))), (6, (.iload_n 3, (sv_N, (7, (0, []))))), (7, (.if_icmp .ge 13, (sv_N, (10, (20, []))))), (10, (.aload_n 0, (sv_N, (11, (0, []))))), (11, (.iload_n 2, (sv_N, (12, (0, []))))), (12, (.iload_n 1, (sv_N, (13, (0, []))))), (13, (.iastore, (sv_N, (14, (0, []))))), (14, (.iinc 2 1, (.inl (1 : Int32), (17, (0, []))))), (17, (.goto (-12), (sv_N, (20, (5, []))))), (20, (.return_, (sv_N, (21, (0, [])))))]
noncomputable def ev_Ja_fill : sv_E := (fun i => sv_lk i fl_21, (fun i => sv_lk i kc_21, (fun _ => 0, (true, (fun pc => sv_lk pc [], none)))))
noncomputable def kk_Ja_fill_5 (n : Nat) : sv_K (sv_S) := fun pc => sv_lk pc [(5, fun lo st σ => match lo, st with
    | [some (.inr (.inr (some (13, x0)))), some (.inl x1), some (.inl x2), some (.inl x3)], [] => f_Ja_fill_5 n x0 x1 x2 x3 σ
    | _, _ => none)]
set_option maxRecDepth 20000 in
theorem e_Ja_fill_5 (n : Nat) (x0 : Nat) (x1 : Int32) (x2 : Int32) (x3 : Int32) (σ : sv_S) : sv_ex ev_Ja_fill sv_rV (kk_Ja_fill_5 n) cd_Ja_fill 17 5 [some (.inr (.inr (some (13, x0)))), some (.inl x1), some (.inl x2), some (.inl x3)] [] σ = f_Ja_fill_5 (n + 1) x0 x1 x2 x3 σ := by
  rw [f_Ja_fill_5.eq_2]
  delta ev_Ja_fill kk_Ja_fill_5
  generalize f_Ja_fill_5 = c0
  rfl
noncomputable def kk_Ja_fill : sv_K (sv_S) := fun pc => sv_lk pc [(5, fun lo st σ => match lo, st with
    | [some (.inr (.inr (some (13, x0)))), some (.inl x1), some (.inl x2), some (.inl x3)], [] => f_Ja_fill_5 sv_fu x0 x1 x2 x3 σ
    | _, _ => none)]
set_option maxRecDepth 20000 in
theorem e_Ja_fill (a0 : Nat) (a1 : Int32) (σ : sv_S) : sv_ex ev_Ja_fill sv_rV kk_Ja_fill cd_Ja_fill 17 0 [some (.inr (.inr (some (13, a0)))), some (.inl a1), none, none] [] σ = f_Ja_fill a0 a1 σ := by
  unfold f_Ja_fill
  delta ev_Ja_fill kk_Ja_fill
  generalize f_Ja_fill_5 = c0
  rfl
theorem d_Ja_fill : cd_Ja_fill.all (sv_dk cJ7_fill_53178) = true := by decide +kernel
set_option maxRecDepth 20000 in
theorem w_Ja_fill_5 {Γ : sv_Ga} {res : sv_S} (X : sv_Ok Γ ev_Ja_fill cJ7_fill_53178 sv_rV res) : ∀ (n : Nat) (x0 : Nat) (x1 : Int32) (x2 : Int32) (x3 : Int32) (σ : sv_S), f_Ja_fill_5 n x0 x1 x2 x3 σ = some res → sv_T Γ 5 [some (.inr (.inr (some (13, x0)))), some (.inl x1), some (.inl x2), some (.inl x3)] [] σ := by
  intro n
  induction n with
  | zero =>
    intro x0 x1 x2 x3 σ h
    rw [f_Ja_fill_5.eq_1] at h
    cases h
  | succ n ih =>
    intro x0 x1 x2 x3 σ h
    refine sv_run X d_Ja_fill (K := kk_Ja_fill_5 n) (sv_lk_all (P := fun pc (k : sv_Lo → List sv_V → sv_S → Option (sv_S)) => ∀ lo st σ, k lo st σ = some res → sv_T Γ pc lo st σ) ?_) _ _ _ _ _ ((e_Ja_fill_5 n x0 x1 x2 x3 σ).trans h)
    clear h
    refine List.forall_mem_cons.mpr ⟨fun lo st σ h => ?_, fun _ h => absurd h List.not_mem_nil⟩
    · dsimp only at h
      split at h
      · exact ih _ _ _ _ _ h
      · cases h

set_option maxRecDepth 20000 in
theorem b_Ja_fill (Γ : sv_Ga) (res : sv_S) (X : sv_Ok Γ ev_Ja_fill cJ7_fill_53178 sv_rV res) (as : List sv_V) (σ : sv_S) (h : n_Ja_fill as σ = some res) : sv_T Γ 0 (sv_e0 4 as) [] σ := by
  unfold n_Ja_fill at h
  split at h
  · refine sv_run X d_Ja_fill (K := kk_Ja_fill) (sv_lk_all (P := fun pc (k : sv_Lo → List sv_V → sv_S → Option (sv_S)) => ∀ lo st σ, k lo st σ = some res → sv_T Γ pc lo st σ) ?_) _ _ _ _ _ ((e_Ja_fill _ _ _).trans h)
    clear h
    refine List.forall_mem_cons.mpr ⟨fun lo st σ h => ?_, fun _ h => absurd h List.not_mem_nil⟩
    · dsimp only at h
      split at h
      · exact w_Ja_fill_5 X _ _ _ _ _ _ h
      · cases h
  · cases h
theorem a_Ja_fill (as : List sv_V) (σ : sv_S) (x : sv_S) (h : n_Ja_fill as σ = some x) : sv_args 4 ev_Ja_fill.2.2.2.1 as := by
  unfold n_Ja_fill at h
  split at h
  · exact ⟨Nat.le_of_ble_eq_true rfl, fun _ v hv => by
      simp only [List.mem_cons, List.not_mem_nil, or_false] at hv
      rcases hv with rfl | rfl <;> trivial⟩
  · cases h

set_option maxRecDepth 20000 in
theorem m_Ja_fill (l : Launch) : sv_M l yJ7_fill_53178 cJ7_fill_53178 4 none (sv_gV n_Ja_fill) 0 := by
  refine sv_mV (E := ev_Ja_fill) (by decide +kernel) (ln_gen fk_21 kk_21 (sv_ns _ (fun _ => rfl) _)) rfl ?_ a_Ja_fill b_Ja_fill
  intro p e R s m args below meth c cells slots Q base ad dC dI cA n0 S hkn hR hf pc n f hcs
  refine sv_lk_all (P := fun pc (x : Nat × sv_F) => sv_cok p l e R s m args below meth c cells slots Q base ad dC dI cA true 4 n0 pc x.1 x.2) ?_ pc (n, f) hcs
  exact fun _ h => absurd h List.not_mem_nil
