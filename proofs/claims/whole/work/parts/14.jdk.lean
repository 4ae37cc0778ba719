theorem fk_21 : ∀ q ∈ fl_21, sv_fk RJ7 q.1 q.2.1 q.2.2 := fun _ h => absurd h List.not_mem_nil
theorem kk_21 : ∀ q ∈ kc_21, sv_1k RJ7 q.1 q.2 := fun _ h => absurd h List.not_mem_nil
theorem sv_kd7 (j : Nat) : ∃ ci q, sv_kd 7 j = .inl ci ∧ vwCl[ci]? = some q := by
  match j with
  | 0 => exact ⟨_, _, rfl, rfl⟩
  | 1 => exact ⟨_, _, rfl, rfl⟩
  | 2 => exact ⟨_, _, rfl, rfl⟩
  | 3 => exact ⟨_, _, rfl, rfl⟩
  | 4 => exact ⟨_, _, rfl, rfl⟩
  | j + 5 => exact ⟨0, _, rfl, rfl⟩
theorem sv_gI_of {F : List sv_V → sv_S → Option (Int32 × sv_S)} {as : List sv_V} {σ τ : sv_S} {v : Int32} {x : Option sv_V × sv_S} (h1 : F as σ = some (v, τ)) (h2 : (some (some (Sum.inl v), τ) : Option (Option sv_V × sv_S)) = some x) : sv_gI F as σ = some x := by
  unfold sv_gI
  rw [h1]
  exact h2
theorem h_ac5 (as : List sv_V) (σ : sv_S) (x : sv_S) (h : n_ac5 as σ = some x) : ∃ i sp j dp n, as = [sv_R 5 i, .inl sp, sv_R 5 j, .inl dp, .inl n] ∧ f_ac 5 i sp j dp n σ = some x := by
  unfold n_ac5 at h
  split at h
  · exact ⟨_, _, _, _, _, rfl, h⟩
  · cases h
theorem h_ac13 (as : List sv_V) (σ : sv_S) (x : sv_S) (h : n_ac13 as σ = some x) : ∃ i sp j dp n, as = [sv_R 13 i, .inl sp, sv_R 13 j, .inl dp, .inl n] ∧ f_ac 13 i sp j dp n σ = some x := by
  unfold n_ac13 at h
  split at h
  · exact ⟨_, _, _, _, _, rfl, h⟩
  · cases h
noncomputable def f_Js_length (j : Nat) (σ : sv_S) : Option (Int32 × sv_S) := some (nI (sv_tl.getD j 0), σ)
noncomputable def f_Js_charAt (j : Nat) (k : Int32) (σ : sv_S) : Option (Int32 × sv_S) := sv_g (sv_in k (sv_tl.getD j 0)) (some ((sv_tb.getD j []).getD k.toNatClampNeg 0, σ))
def sv_ix (c : Int32) : List Int32 → Nat → Int32
  | [], _ => -1
  | b :: l, k => if b = c then nI k else sv_ix c l (k + 1)
noncomputable def f_Js_indexOf (j : Nat) (c : Int32) (σ : sv_S) : Option (Int32 × sv_S) := sv_g (0 ≤ c ∧ c < 65536) (some (sv_ix c (sv_tb.getD j []) 0, σ))
noncomputable def n_Js_length : List sv_V → sv_S → Option (Int32 × sv_S)
  | [.inr (.inr (some (23, j)))], σ => f_Js_length j σ
  | _, _ => none
noncomputable def n_Js_charAt : List sv_V → sv_S → Option (Int32 × sv_S)
  | [.inr (.inr (some (23, j))), .inl k], σ => f_Js_charAt j k σ
  | _, _ => none
noncomputable def n_Js_indexOf : List sv_V → sv_S → Option (Int32 × sv_S)
  | [.inr (.inr (some (23, j))), .inl c], σ => f_Js_indexOf j c σ
  | _, _ => none
theorem gj_length (as : List sv_V) (σ : sv_S) (x : Option sv_V × sv_S) (h : sv_gI n_Js_length as σ = some x) : ∃ i as', as = sv_R 23 i :: as' := by
  obtain ⟨_, _, h, -⟩ := sv_b_some h
  unfold n_Js_length at h
  split at h
  · exact ⟨_, _, rfl⟩
  · cases h
theorem gj_charAt (as : List sv_V) (σ : sv_S) (x : Option sv_V × sv_S) (h : sv_gI n_Js_charAt as σ = some x) : ∃ i as', as = sv_R 23 i :: as' := by
  obtain ⟨_, _, h, -⟩ := sv_b_some h
  unfold n_Js_charAt at h
  split at h
  · exact ⟨_, _, rfl⟩
  · cases h
theorem gj_indexOf (as : List sv_V) (σ : sv_S) (x : Option sv_V × sv_S) (h : sv_gI n_Js_indexOf as σ = some x) : ∃ i as', as = sv_R 23 i :: as' := by
  obtain ⟨_, _, h, -⟩ := sv_b_some h
  unfold n_Js_indexOf at h
  split at h
  · exact ⟨_, _, rfl⟩
  · cases h
noncomputable def f_Jm_max (a b : Int32) (σ : sv_S) : Option (Int32 × sv_S) := some (if a < b then b else a, σ)
noncomputable def f_Jm_min (a b : Int32) (σ : sv_S) : Option (Int32 × sv_S) := some (if b < a then b else a, σ)
noncomputable def f_Jm_abs (a : Int32) (σ : sv_S) : Option (Int32 × sv_S) := some (if 0 ≤ a then a else 0 - a, σ)
noncomputable def n_Jm_max : List sv_V → sv_S → Option (Int32 × sv_S)
  | [.inl a, .inl b], σ => f_Jm_max a b σ
  | _, _ => none
noncomputable def n_Jm_min : List sv_V → sv_S → Option (Int32 × sv_S)
  | [.inl a, .inl b], σ => f_Jm_min a b σ
  | _, _ => none
noncomputable def n_Jm_abs : List sv_V → sv_S → Option (Int32 × sv_S)
  | [.inl a], σ => f_Jm_abs a σ
  | _, _ => none
section SVJ
variable {p : Program} {l : Launch} {e : Env} {R : Room} {s : State} {m : MethodId} {args : Array Value} {below : List Frame} {meth : Method} {c : Code} {cells slots : Nat} {Q : State → Prop}
variable {cc : ByteArray} {base : Nat} {ad : Nat → Nat → Nat} {dC : Nat → ClassId} {dI : Nat → Nat → Nat} {cA : Nat → ClassId} {own : String} {nL n0 : Nat} {nl : Bool}
/-- a method of a text constant -/
theorem sv_cJ (S : CallFix p m c cc nL s args gw_tbl own) (hkn : sv_kn base ad dC dI cA s) {y : MethodName} {b : ByteArray} {mL h n idx pc : Nat} {ret : Option FieldType} {G : sv_D} (hM : sv_M l y b mL ret G h) (hR : h + 1 ≤ R.frames ∧ 64 * (h + 1) ≤ R.locals) (hmL : mL ≤ 45) (hf : cells ≤ R.cells ∧ slots ≤ R.slots)
    (hG : ∀ as σ x, G as σ = some x → ∃ i as', as = sv_R 23 i :: as') (hw : ∀ w ∈ [Cond.methodLink own idx y, Cond.instanceMethod y, Cond.selects RJ0 y y, Cond.initialized RJ0, Cond.code y b mL ret], w ∈ gw_tbl)
    (hd : y.cls = RJ0 ∧ y.cls ≠ "java/lang/invoke/MethodHandle" ∧ y.cls ≠ "java/lang/invoke/VarHandle" ∧ (parseMethodDescriptor y.desc).map (fun d => d.parameters.length) = some n) (hdg : decode cc pc = .ok (.invokevirtual idx, 3)) :
    sv_cg p l e R s m args below meth c cells slots Q base ad dC dI cA nl nL n0 pc (n + 1) G := by
  intro as rest lo σ r σ' hn hsm hGs hWt H locs ls hRp hS hL hct hst hlo
  subst hct
  have has : ∀ v ∈ as, sv_ok (sv_ct σ) v := fun v hv => hst v (List.mem_append_left _ (List.mem_reverse.mpr hv))
  obtain ⟨i0, as', rfl⟩ := hG as σ _ hGs
  have hlv : sv_lv (sv_ct σ) 23 i0 := has _ List.mem_cons_self
  have hi : i0 < 6 := hlv.1
  have hVS := hkn.2.2.2.2.2.1
  have hgood : GoodIn gw_tbl (wsV own idx RJ0 y (sv_ws y b mL ret)) := gw_goodIn (fun w h => by
    unfold wsV at h
    rcases List.mem_append.mp h with h | h
    · exact hw w (by simp only [List.mem_cons, List.not_mem_nil, or_false] at h ⊢; rcases h with h | h | h | h <;> simp [h])
    · exact sv_ws_in (hw _ (by simp)) w h)
  have hn' : as'.length = n := by simpa using hn
  refine sv_goOn (rest := rest) (as := sv_R 23 i0 :: as') (va_runV (As := as'.map (sv_c ad)) (b := ad 23 i0) S (hM base ad dC dI cA (sv_R 23 i0 :: as') σ r σ' hGs has) (cwV n S.2.2.2.2 hgood rfl rfl rfl hd ⟨hR.1, ?_⟩) ⟨sv_blind, vk_recv hVS hi hS, sv_pre (as := sv_R 23 i0 :: as') hkn hRp hS rfl⟩ rfl (by rw [List.length_map]; exact hn') hL.2.1 ?_ (lv_room (sv_sm8 hsm)) hdg hf) hS hL hst hlo hWt
  · show 8 + (mL + 11) + 64 * h ≤ R.locals
    omega
  · simp [List.map_append, List.map_reverse, List.append_assoc]
    rfl
theorem sv_cmax (S : CallFix p m c cc nL s args gw_tbl own) {idx pc : Nat} (hR : 1 ≤ R.frames ∧ 64 * 1 ≤ R.locals) (hf : cells ≤ R.cells ∧ slots ≤ R.slots) (hw : ∀ w ∈ [Cond.methodLink own idx Lib.Math.max.name, Cond.static Lib.Math.max.name, Cond.initialized "java/lang/Math", Cond.code Lib.Math.max.name Lib.Math.max.code 2 (some .int)], w ∈ gw_tbl) (hdg : decode cc pc = .ok (.invokestatic idx, 3)) : sv_cg p l e R s m args below meth c cells slots Q base ad dC dI cA nl nL n0 pc 2 (sv_gI n_Jm_max) := by
  intro as rest lo σ r σ' hn hsm hG hWt H locs ls hRp hS hL hct hst hlo
  obtain ⟨v, τ, h1, h2⟩ := sv_b_some hG
  unfold n_Jm_max at h1
  split at h1
  · rename_i a b
    cases h1
    cases h2
    obtain ⟨hx, hb, hml, hown, hts⟩ := S
    have h8 : ((rest.map (sv_c ad)).map fun v => v.category).sum + 13 ≤ R.locals := by
      have h8 := sv_sm8 (ad := ad) hsm
      omega
    exact va_mmax hx hb (by rw [hml]; exact hL.2.1.symm) hown (hts _ (hw _ (by simp))) (hts _ (hw _ (by simp))) (hts _ (hw _ (by simp))) (hts _ (hw _ (by simp))) hR.1 h8 hf.1 hf.2 hdg (hWt H locs ls hRp hS hL hct (sv_cs trivial (fun v hv => hst v (List.mem_append_right _ hv))) hlo)
  · cases h1
theorem sv_cmin (S : CallFix p m c cc nL s args gw_tbl own) {idx pc : Nat} (hR : 1 ≤ R.frames ∧ 64 * 1 ≤ R.locals) (hf : cells ≤ R.cells ∧ slots ≤ R.slots) (hw : ∀ w ∈ [Cond.methodLink own idx Lib.Math.min.name, Cond.static Lib.Math.min.name, Cond.initialized "java/lang/Math", Cond.code Lib.Math.min.name Lib.Math.min.code 2 (some .int)], w ∈ gw_tbl) (hdg : decode cc pc = .ok (.invokestatic idx, 3)) : sv_cg p l e R s m args below meth c cells slots Q base ad dC dI cA nl nL n0 pc 2 (sv_gI n_Jm_min) := by
  intro as rest lo σ r σ' hn hsm hG hWt H locs ls hRp hS hL hct hst hlo
  obtain ⟨v, τ, h1, h2⟩ := sv_b_some hG
  unfold n_Jm_min at h1
  split at h1
  · rename_i a b
    cases h1
    cases h2
    obtain ⟨hx, hb, hml, hown, hts⟩ := S
    have h8 : ((rest.map (sv_c ad)).map fun v => v.category).sum + 13 ≤ R.locals := by
      have h8 := sv_sm8 (ad := ad) hsm
      omega
    exact va_mmin hx hb (by rw [hml]; exact hL.2.1.symm) hown (hts _ (hw _ (by simp))) (hts _ (hw _ (by simp))) (hts _ (hw _ (by simp))) (hts _ (hw _ (by simp))) hR.1 h8 hf.1 hf.2 hdg (hWt H locs ls hRp hS hL hct (sv_cs trivial (fun v hv => hst v (List.mem_append_right _ hv))) hlo)
  · cases h1
theorem sv_cabs (S : CallFix p m c cc nL s args gw_tbl own) {idx pc : Nat} (hR : 1 ≤ R.frames ∧ 64 * 1 ≤ R.locals) (hf : cells ≤ R.cells ∧ slots ≤ R.slots) (hw : ∀ w ∈ [Cond.methodLink own idx Lib.Math.abs.name, Cond.static Lib.Math.abs.name, Cond.initialized "java/lang/Math", Cond.code Lib.Math.abs.name Lib.Math.abs.code 1 (some .int)], w ∈ gw_tbl) (hdg : decode cc pc = .ok (.invokestatic idx, 3)) : sv_cg p l e R s m args below meth c cells slots Q base ad dC dI cA nl nL n0 pc 1 (sv_gI n_Jm_abs) := by
  intro as rest lo σ r σ' hn hsm hG hWt H locs ls hRp hS hL hct hst hlo
  obtain ⟨v, τ, h1, h2⟩ := sv_b_some hG
  unfold n_Jm_abs at h1
  split at h1
  · rename_i a
    cases h1
    cases h2
    obtain ⟨hx, hb, hml, hown, hts⟩ := S
    have h8 : ((rest.map (sv_c ad)).map fun v => v.category).sum + 13 ≤ R.locals := by
      have h8 := sv_sm8 (ad := ad) hsm
      omega
    exact va_mabs hx hb (by rw [hml]; exact hL.2.1.symm) hown (hts _ (hw _ (by simp))) (hts _ (hw _ (by simp))) (hts _ (hw _ (by simp))) (hts _ (hw _ (by simp))) hR.1 h8 hf.1 hf.2 hdg (hWt H locs ls hRp hS hL hct (sv_cs trivial (fun v hv => hst v (List.mem_append_right _ hv))) hlo)
  · cases h1
/-- super.method(..), where the superclass inherits it from its own -/
theorem sv_callU2 {T : State} {locs : List Loc} (X : Stand p l e R s m args below meth c T locs cells slots) (hexec : p.tables.exec = Jvm.exec) {index : Nat} {x y : MethodName} {owner : String} {bytes : ByteArray} {maxL : Nat} {ret : Option FieldType}
    (hown : s.vm.findClass own = some m.cls) (hyx : y = ⟨owner, x.name, x.desc⟩) (hlink : (Cond.methodLink own index x).before args s = true) (hsame : (Cond.sameMethod x.cls owner x.name x.desc).before args s = true) (hsup : (Cond.superclass own x.cls).before args s = true) (hsup2 : (Cond.superclass x.cls owner).before args s = true)
    (hinst : (Cond.instanceMethod y).before args s = true) (hcode : (Cond.code y bytes maxL ret).before args s = true) (hno : y.name ≠ "<init>")
    {W : Nat} {Pre : Pt → Array Value → Prop} {Post : Pt → Array Value → Option Value → Pt → Prop} (hK : Back l R p e below s args y 3 W Pre Post)
    {b : Addr} {cellB : Cell} {kB : Class} (hcell : T.heap[b]? = some cellB) (hobj : cellB.vm.isStatics = false) (hkB : s.vm.classes[cellB.cls]? = some kB)
    {g : JFrame} (hg : g.method = m) (hsize : g.locals.size = c.maxLocals) {argsL rest : List Value} (hlen : ∀ sig, parseMethodDescriptor y.desc = some sig → argsL.length = sig.parameters.length)
    (hstack : g.stack = argsL.reverse ++ .ref b :: rest) (hW : 2 * g.monitorRoom + (rest.map fun v => v.category).sum ≤ W) (hdg : decode c.code g.pc = .ok (.invokespecial index, 3))
    (hpre : ∀ vm₁, s.WarmedH vm₁ → Pre ⟨T.setVm vm₁, locs, cells, slots⟩ (Value.ref b :: argsL).toArray) :
    ∃ (v : Option Value) (vm₁ : Vm) (B : Pt), s.WarmedH vm₁ ∧ Stand p l e R s m args below meth c B.U B.locs B.cells B.slots ∧ Post ⟨T.setVm vm₁, locs, cells, slots⟩ (Value.ref b :: argsL).toArray v B ∧
      ∀ target, Steps p.tables e below (B.U.setTop { g with pc := g.pc + 3, stack := v.toList ++ rest }) target → Steps p.tables e below (T.setTop g) target := by
  subst hyx
  obtain ⟨mk, methM, hnamed, hmethM, hstM, habM⟩ := Cond.instanceMethod_spec hinst
  obtain ⟨methM', cM, hmethM', -, -, -, -, -, -, hsigM⟩ := Cond.code_spec hnamed hcode
  cases hmethM.symm.trans hmethM'
  obtain ⟨ps, dk, kp, hps, hdk, hkp, hsuper, -, -, hnid⟩ := Cond.superclass_spec hown hsup
  obtain ⟨p2, k2, kp2, hps2, hdk2, hkp2, hsuper2, -, -, -⟩ := Cond.superclass_spec hps hsup2
  have hpm : p2 = mk.cls := Option.some.inj (hps2.symm.trans (findClass_of_methodNamed hnamed))
  have hsz : 0 < s.vm.classes.size := Nat.lt_of_le_of_lt (Nat.zero_le _) (Array.getElem?_eq_some_iff.mp hdk2).1
  have hsub : s.vm.isSubclass ps mk.cls = true := by
    obtain ⟨z, hz⟩ : ∃ z, s.vm.classes.size = z + 1 := ⟨s.vm.classes.size - 1, by omega⟩
    simp [Vm.isSubclass, Vm.isSubclassAux, hz, hdk2, hsuper2, hpm]
  obtain ⟨vm₁, X₁, hstep₁⟩ := X.invokespecialUp hexec hown hlink hsame hnamed hmethM hstM habM hno hdk hnid hps hsuper hsub (a := b) (cell := cellB) hcell
    (fun z h => by rw [h] at hobj; cases hobj) hkB (g := g) hg (argsL := argsL) (rest := rest) (hlen _ hsigM) hstack hdg
  obtain ⟨v, B, X', hpost, hsteps⟩ := hK m meth c ⟨T.setVm vm₁, locs, cells, slots⟩ { g with stack := rest } (.invokespecial index) mk (Value.ref b :: argsL).toArray X₁ hg hsize hdg hW (X₁.named hnamed) (hpre vm₁ X₁.warmed)
  exact ⟨v, vm₁, B, X₁.warmed, X', hpost, fun target h => hstep₁ _ (by rw [doInvoke_state]; exact hsteps.trans h)⟩
theorem sv_cU2 (S : CallFix p m c cc nL s args gw_tbl own) (hkn : sv_kn base ad dC dI cA s) {x : MethodName} {owner : String} {b : ByteArray} {mL h n idx pc : Nat} {ret : Option FieldType} {G : sv_D} (hM : sv_M l ⟨owner, x.name, x.desc⟩ b mL ret G h) (hR : h + 1 ≤ R.frames ∧ 64 * (h + 1) ≤ R.locals) (hmL : mL ≤ 45) (hf : cells ≤ R.cells ∧ slots ≤ R.slots)
    (hG : ∀ as σ x, G as σ = some x → ∃ r i as' ci q, as = sv_R r i :: as' ∧ sv_kd r i = .inl ci ∧ vwCl[ci]? = some q) (hw : ∀ w ∈ [Cond.methodLink own idx x, Cond.sameMethod x.cls owner x.name x.desc, Cond.superclass own x.cls, Cond.superclass x.cls owner, Cond.instanceMethod ⟨owner, x.name, x.desc⟩, Cond.initialized owner, Cond.code ⟨owner, x.name, x.desc⟩ b mL ret], w ∈ gw_tbl)
    (hd : x.name ≠ "<init>" ∧ (parseMethodDescriptor x.desc).map (fun d => d.parameters.length) = some n) (hdg : decode cc pc = .ok (.invokespecial idx, 3)) :
    sv_cg p l e R s m args below meth c cells slots Q base ad dC dI cA nl nL n0 pc (n + 1) G := by
  intro as rest lo σ r σ' hn hsm hGs hWt H locs ls hRp hS hL hct hst hlo
  subst hct
  have has : ∀ v ∈ as, sv_ok (sv_ct σ) v := fun v hv => hst v (List.mem_append_left _ (List.mem_reverse.mpr hv))
  obtain ⟨r0, i0, as', ci, q, rfl, hkd, hq⟩ := hG as σ _ hGs
  have hlv : sv_lv (sv_ct σ) r0 i0 := has _ List.mem_cons_self
  have hn' : as'.length = n := by simpa using hn
  obtain ⟨hx, hb, hml, hown, hts⟩ := S
  have hws : ∀ w ∈ sv_ws ⟨owner, x.name, x.desc⟩ b mL ret, w ∈ gw_tbl := sv_ws_in (hw _ (by simp))
  obtain ⟨cellB, hcB, hoB, hclB⟩ := sv_recv hkn hRp hlv hkd hq
  obtain ⟨hfc, kB, hkB, -⟩ := (hkn.1.1 ci q hq).2
  have hcc : dC ci = cellB.cls := Option.some.inj (hfc.symm.trans hclB)
  have hkB : s.vm.classes[cellB.cls]? = some kB := by rw [← hcc]; exact hkB
  have hK : Back l R p e below s args ⟨owner, x.name, x.desc⟩ 3 8 (PreOf R 0 0 (sv_Pc base ad dC dI cA (sv_R r0 i0 :: as') σ)) (PostOf (sv_Qc base ad dC dI cA (sv_ct σ) r σ') 0 0 (fun q => base ≤ q)) :=
    back_of (bytes := b) (maxL := mL) (ret := ret) (hM base ad dC dI cA (sv_R r0 i0 :: as') σ r σ' hGs has) sv_blind rfl rfl hR.1 (by show 8 + (mL + 11) + 64 * h ≤ R.locals; omega) (pay_in hts (gw_goodIn hws)) List.mem_cons_self (fun a' U hW => word_at hW (Or.inl (by first | rfl | simp [Cond.onTables, Cond.keeps, Cond.steady])) (hts (Cond.initialized owner) (hw _ (by simp))))
  have hrun : va_Run p l e R s m args below meth c H locs cells slots 0 0 (F0 m pc ls (List.map (sv_c ad) ((sv_R r0 i0 :: as').reverse ++ rest))) (rest.map (sv_c ad)) (sv_Qc base ad dC dI cA (sv_ct σ) r σ' (Value.ref (ad r0 i0) :: as'.map (sv_c ad)).toArray) (fun q => base ≤ q) := by
    intro T hT X
    obtain ⟨v, vm₁, ⟨U', l2, c2, s2⟩, hW₁, X', ⟨g', mk, t, L, e1, e2, hqq, h1, hL', h2, h3⟩, st⟩ := sv_callU2 X hx (bytes := b) (maxL := mL) (ret := ret) hown rfl (hts (Cond.methodLink own idx x) (hw _ (by simp))) (hts (Cond.sameMethod x.cls owner x.name x.desc) (hw _ (by simp))) (hts (Cond.superclass own x.cls) (hw _ (by simp))) (hts (Cond.superclass x.cls owner) (hw _ (by simp))) (hts (Cond.instanceMethod ⟨owner, x.name, x.desc⟩) (hw _ (by simp))) (hts (Cond.code ⟨owner, x.name, x.desc⟩ b mL ret) (hw _ (by simp))) hd.1 hK (by rw [hT]; exact hcB) hoB hkB (g := F0 m pc ls (List.map (sv_c ad) ((sv_R r0 i0 :: as').reverse ++ rest))) rfl (by show ls.size = c.maxLocals; rw [hml]; exact hL.2.1) (argsL := as'.map (sv_c ad)) (rest := rest.map (sv_c ad)) (fun sig h => by
        have h2 := hd.2
        rw [show parseMethodDescriptor x.desc = some sig from h] at h2
        rw [List.length_map, hn']
        exact (Option.some.inj h2).symm) (by simp [List.map_append, List.map_reverse, List.append_assoc]; rfl) (lv_room (sv_sm8 hsm)) (by rw [hb]; exact hdg)
      (fun vm₁ hW₁ => ⟨hf.1, hf.2, sv_pre (as := sv_R r0 i0 :: as') hkn hRp hS rfl (T.setVm vm₁) hT hW₁⟩)
    dsimp only [Pt.U, Pt.locs, Pt.cells, Pt.slots] at X' e1 e2 h1 h2 h3 st
    subst h1; subst h2; subst h3
    exact ⟨v, (T.setVm vm₁).calling g' mk (Value.ref (ad r0 i0) :: as'.map (sv_c ad)).toArray, t, U', L, hT, X', hL', e1, e2, hqq, st⟩
  exact sv_goOn (rest := rest) (as := sv_R r0 i0 :: as') hrun hS hL hst hlo hWt
end SVJ
theorem tw_71 : Cond.initialized RJ3 ∈ gw_tbl := gw_at 71 (by decide +kernel) rfl
theorem tw_737 : Cond.fieldLink RJ0 1053 "jdk/internal/util/Preconditions" "SIOOBE_FORMATTER" "Ljava/util/function/BiFunction;" ∈ gw_tbl := gw_at 737 (by decide +kernel) rfl
theorem tw_739 : Cond.methodLink RJ0 1059 yJ3_checkIndex_8e157 ∈ gw_tbl := gw_at 739 (by decide +kernel) rfl
theorem tw_740 : Cond.static yJ3_checkIndex_8e157 ∈ gw_tbl := gw_at 740 (by decide +kernel) rfl
theorem tw_741 : Cond.code yJ3_checkIndex_8e157 cJ3_checkIndex_8e157 3 (some .int) ∈ gw_tbl := gw_at 741 (by decide +kernel) rfl
noncomputable def f_Js_checkIndex_df160 (a0 a1 : Int32) (σ : sv_S) : Option sv_S := sv_g (¬ a0 < 0 ∧ a0 < a1) (some σ)
noncomputable def n_Js_checkIndex_df160 : List sv_V → sv_S → Option sv_S
  | [.inl a0, .inl a1], σ => f_Js_checkIndex_df160 a0 a1 σ
  | _, _ => none
theorem met_J3 (l : Launch) (base : Nat) (H0 : Heap) (a b : Int32) (x : Value) (h0 : ¬ a < 0) (h1 : a < b) (hc : x.category = 1) : Met l yJ3_checkIndex_8e157 (sv_ws yJ3_checkIndex_8e157 cJ3_checkIndex_8e157 3 (some .int)) (sv_rm 0) (fun v U => v = [Value.int a, Value.int b, x].toArray ∧ U.heap = H0) (va_Qi (fun r (_ : Unit) => r = a) (fun _ t => t.heap = H0) (fun q => base ≤ q)) 0 0 (fun q => base ≤ q) := by
  refine va_MetF (cc := cJ3_checkIndex_8e157) (maxL := 3) (ret := some .int) (by decide +kernel) rfl ?_
  intro p e s m args below meth c s₁ B hml hv
  obtain ⟨rfl, hH⟩ := hv
  have hx := B.exec
  have hb := B.bytes
  have hr := B.returns
  have hl := lv_entry [Value.int a, Value.int b, x] (n := 3) (by clear B hH hr; cases x <;> simp_all [lg_sl, Value.category])
  rw [lg_entry_eq]
  generalize (lg_sl [Value.int a, Value.int b, x] ++ List.replicate (3 - (lg_sl [Value.int a, Value.int b, x]).length) Slot.unset).toArray = ls at hl ⊢
  have l0 : ls[0]? = some (.val (.int a)) := hl.2.2 (0, .int a) (by simp [lv_args])
  have l1 : ls[1]? = some (.val (.int b)) := hl.2.2 (1, .int b) (by simp [lv_args, Value.category])
  refine lv_iload_n hx hb (k := 0) (pc := 0) (by decide +kernel) rfl l0 ?_
  refine lv_if_lt hx hb (off := 8) (tgt := 9) (by decide +kernel) rfl (fun q => absurd q h0) (fun _ => ?_)
  refine lv_iload_n hx hb (k := 0) (by decide +kernel) rfl l0 ?_
  refine lv_iload_n hx hb (k := 1) (by decide +kernel) rfl l1 ?_
  refine lv_icmp_lt hx hb (off := 10) (tgt := 16) (by decide +kernel) rfl (fun _ => ?_) (fun q => absurd h1 q)
  refine lv_iload_n hx hb (k := 0) (by decide +kernel) rfl l0 ?_
  exact W.iret hx hb hr (fun t ht hW => ⟨⟨a, (), rfl, rfl, ht.trans hH⟩, va_S.F (A := fun q => base ≤ q) (locs := []) va_S.rf ht⟩) (fun q hq => by cases hq) (by decide +kernel)
theorem m_Js_checkIndex_df160 (l : Launch) : sv_M l yJ0_checkIndex_df160 cJ0_checkIndex_df160 2 none (sv_gV n_Js_checkIndex_df160) 1 := by
  intro base ad dC dI cA as σ r σ' hG has
  obtain ⟨τ, h1, h2⟩ := sv_b0_some hG
  cases h2
  unfold n_Js_checkIndex_df160 at h1
  split at h1
  · rename_i a b
    obtain ⟨⟨h0, hlt⟩, h1⟩ := sv_g_some h1
    cases h1
    refine va_MetF (cc := cJ0_checkIndex_df160) (maxL := 2) (ret := none) (by decide +kernel) rfl ?_
    intro p e s m args below meth c s₁ B hml hv
    obtain ⟨rfl, hkn, hrep⟩ := hv
    have hx := B.exec
    have hb := B.bytes
    have hr := B.returns
    have hts := atoms_spec (ws := sv_ws yJ0_checkIndex_df160 cJ0_checkIndex_df160 2 none) B.pre
    have hts' : ∀ w ∈ gw_tbl, w.before (List.map (sv_c ad) [.inl a, .inl b]).toArray s = true := fun w hw => hts w (List.mem_cons_of_mem _ hw)
    have hown : s.vm.findClass RJ0 = some m.cls := findClass_of_methodNamed B.named
    have hl := lv_entry (List.map (sv_c ad) [.inl a, .inl b]) (n := 2) (by simp [lg_sl, Value.category, sv_c])
    rw [lg_entry_eq]
    generalize (lg_sl (List.map (sv_c ad) [.inl a, .inl b]) ++ List.replicate (2 - (lg_sl (List.map (sv_c ad) [.inl a, .inl b])).length) Slot.unset).toArray = ls at hl ⊢
    have l0 : ls[0]? = some (.val (.int a)) := hl.2.2 (0, .int a) (by simp [lv_args, sv_c])
    have l1 : ls[1]? = some (.val (.int b)) := hl.2.2 (1, .int b) (by simp [lv_args, Value.category, sv_c])
    have hS : va_S (fun q => base ≤ q) s.heap s.heap [] := va_S.rf
    refine lv_iload_n hx hb (k := 0) (pc := 0) (by decide +kernel) rfl l0 ?_
    refine lv_iload_n hx hb (k := 1) (by decide +kernel) rfl l1 ?_
    have core : ∀ v : Value, v.category = 1 → va_Z "jdk/internal/util/Preconditions" "SIOOBE_FORMATTER" "Ljava/util/function/BiFunction;" v (fun q => base ≤ q) s s.heap → W p l e (headSpec (sv_ws yJ0_checkIndex_df160 cJ0_checkIndex_df160 2 none) (sv_rm 1)).room s m (List.map (sv_c ad) [.inl a, .inl b]).toArray below meth c s.heap [] 0 0 (MQ below (sv_Qc base ad dC dI cA (sv_ct σ) none σ) (List.map (sv_c ad) [.inl a, .inl b]).toArray s 0 0 (fun q => base ≤ q)) (F0 m 2 ls [.int b, .int a]) := by
      intro v hc hZ
      refine va_gets hx hb hZ hS hown (hts' _ tw_737) (fun _ h => h) (index := 1053) (by decide +kernel) ?_
      have hgood : GoodIn gw_tbl (va_wsS RJ0 1059 yJ3_checkIndex_8e157 (sv_ws yJ3_checkIndex_8e157 cJ3_checkIndex_8e157 3 (some .int))) := gw_goodIn (fun w h => by
        unfold va_wsS at h
        rcases List.mem_append.mp h with h | h
        · simp only [List.mem_cons, List.not_mem_nil, or_false] at h
          rcases h with rfl | rfl | rfl
          · exact tw_739
          · exact tw_740
          · exact tw_71
        · exact sv_ws_in tw_741 w h)
      refine va_calli (va_runS (As := [.int a, .int b, v]) (rest := []) (nL := 2) ⟨hx, hb, hml, hown, hts'⟩ (met_J3 l base s.heap a b v h0 hlt hc) (va_cwS 3 hts' hgood rfl rfl rfl (by decide +kernel) ⟨Nat.le_refl _, by decide⟩) ⟨fun _ _ _ _ h => h, fun _ h _ => ⟨rfl, h⟩⟩ rfl rfl hl.1 rfl (lv_room (by simp)) (show decode cJ0_checkIndex_df160 5 = .ok (.invokestatic 1059, 3) by decide +kernel) ⟨Nat.le_refl _, Nat.le_refl _⟩) hS (fun _ _ h => h) (fun _ h => h) ?_
      intro r u t H1 locs1 ht hal hp ht2 hz hk hS1
      have e1 : H1 = s.heap := ht.symm.trans ht2
      subst e1
      refine lv_pop hx hb (by decide +kernel) rfl ?_
      exact W.vret hx hb hr (fun t ht hW => ⟨rfl, by rw [ht]; exact hrep, hS1.F ht, fun v hv => (by cases hv), rfl⟩) hS1.2.2 (by decide +kernel)
    rcases hkn.2.2.2.2.2.2.2 with hZ | ⟨t, hZ⟩
    · exact core _ rfl hZ
    · exact core _ rfl hZ
  · cases h1

noncomputable def f_Js_coder_7d493 (a0 : Nat) (σ : sv_S) : Option (Int32 × sv_S) :=
  sv_if ((1 : Int32) = 0)
    (sv_g (narrow .byte (.int (1 : Int32)) = .int (1 : Int32)) (some ((1 : Int32), σ)))
    (sv_g (narrow .byte (.int (0 : Int32)) = .int (0 : Int32)) (some ((0 : Int32), σ)))
noncomputable def n_Js_coder_7d493 : List sv_V → sv_S → Option (Int32 × sv_S)
  | [.inr (.inr (some (23, a0)))], σ => f_Js_coder_7d493 a0 σ
  | _, _ => none
def cd_Js_coder_7d493 : sv_C := [(0, (.getstatic 38, (sv_N, (3, (0, []))))), (3, (.ifCond .eq 10, (sv_N, (6, (13, []))))), (6, (.aload_n 0, (sv_N, (7, (0, []))))), (7, (.getfield 15, (sv_N, (10, (0, []))))), (10, (.goto 4, (sv_N, (13, (14, []))))), (13, (.iconst 1, (.inl (1 : Int32), (14, (0, []))))), (14, (.ireturn, (sv_N, (15, (0, [])))))]
noncomputable def ev_Js_coder_7d493 : sv_E := (fun i => sv_lk i fl_13, (fun i => sv_lk i kc_13, (fun i => bif Nat.beq i 38 then 2 else 0, (true, (fun pc => sv_lk pc [], none)))))
noncomputable def kk_Js_coder_7d493 : sv_K (Int32 × sv_S) := fun pc => sv_lk pc []
set_option maxRecDepth 20000 in
theorem e_Js_coder_7d493 (a0 : Nat) (σ : sv_S) : sv_ex ev_Js_coder_7d493 (sv_rN .byte) kk_Js_coder_7d493 cd_Js_coder_7d493 9 0 [some (.inr (.inr (some (23, a0))))] [] σ = f_Js_coder_7d493 a0 σ := by
  unfold f_Js_coder_7d493
  delta ev_Js_coder_7d493 kk_Js_coder_7d493
  rfl
theorem d_Js_coder_7d493 : cd_Js_coder_7d493.all (sv_dk cJ0_coder_7d493) = true := by decide +kernel
set_option maxRecDepth 20000 in
theorem b_Js_coder_7d493 (Γ : sv_Ga) (res : Int32 × sv_S) (X : sv_Ok Γ ev_Js_coder_7d493 cJ0_coder_7d493 (sv_rN .byte) res) (as : List sv_V) (σ : sv_S) (h : n_Js_coder_7d493 as σ = some res) : sv_T Γ 0 (sv_e0 1 as) [] σ := by
  unfold n_Js_coder_7d493 at h
  split at h
  · refine sv_run X d_Js_coder_7d493 (K := kk_Js_coder_7d493) (sv_lk_all (P := fun pc (k : sv_Lo → List sv_V → sv_S → Option (Int32 × sv_S)) => ∀ lo st σ, k lo st σ = some res → sv_T Γ pc lo st σ) ?_) _ _ _ _ _ ((e_Js_coder_7d493 _ _).trans h)
    clear h
    exact fun _ h => absurd h List.not_mem_nil
  · cases h
theorem a_Js_coder_7d493 (as : List sv_V) (σ : sv_S) (x : Int32 × sv_S) (h : n_Js_coder_7d493 as σ = some x) : sv_args 1 ev_Js_coder_7d493.2.2.2.1 as := by
  unfold n_Js_coder_7d493 at h
  split at h
  · exact ⟨Nat.le_of_ble_eq_true rfl, fun _ v hv => by
      simp only [List.mem_cons, List.not_mem_nil, or_false] at hv
      rcases hv with rfl <;> trivial⟩
  · cases h
theorem gj_Js_coder_7d493 (as : List sv_V) (σ : sv_S) (x : Option sv_V × sv_S) (h : sv_gI n_Js_coder_7d493 as σ = some x) : ∃ i as', as = sv_R 23 i :: as' := by
  obtain ⟨_, _, h, -⟩ := sv_b_some h
  unfold n_Js_coder_7d493 at h
  split at h
  · exact ⟨_, _, rfl⟩
  · cases h

set_option maxRecDepth 20000 in
theorem m_Js_coder_7d493 (l : Launch) : sv_M l yJ0_coder_7d493 cJ0_coder_7d493 1 (some .byte) (sv_gI n_Js_coder_7d493) 0 := by
  refine sv_mN (Or.inl rfl) (E := ev_Js_coder_7d493) (by decide +kernel) (ln_gen fk_13 kk_13 gk_13) rfl ?_ a_Js_coder_7d493 b_Js_coder_7d493
  intro p e R s m args below meth c cells slots Q base ad dC dI cA n0 S hkn hR hf pc n f hcs
  refine sv_lk_all (P := fun pc (x : Nat × sv_F) => sv_cok p l e R s m args below meth c cells slots Q base ad dC dI cA true 1 n0 pc x.1 x.2) ?_ pc (n, f) hcs
  exact fun _ h => absurd h List.not_mem_nil
noncomputable def f_Js_isLatin1_aae02 (a0 : Nat) (σ : sv_S) : Option (Int32 × sv_S) :=
  sv_if ((1 : Int32) = 0)
    (sv_g ((0 : Int32) = 0 ∨ (0 : Int32) = 1) (some ((0 : Int32), σ)))
    (sv_if ((0 : Int32) = 0)
      (sv_g ((1 : Int32) = 0 ∨ (1 : Int32) = 1) (some ((1 : Int32), σ)))
      (sv_g ((0 : Int32) = 0 ∨ (0 : Int32) = 1) (some ((0 : Int32), σ))))
noncomputable def n_Js_isLatin1_aae02 : List sv_V → sv_S → Option (Int32 × sv_S)
  | [.inr (.inr (some (23, a0)))], σ => f_Js_isLatin1_aae02 a0 σ
  | _, _ => none
def cd_Js_isLatin1_aae02 : sv_C := [(0, (.getstatic 38, (sv_N, (3, (0, []))))), (3, (.ifCond .eq 14, (sv_N, (6, (17, []))))), (6, (.aload_n 0, (sv_N, (7, (0, []))))), (7, (.getfield 15, (sv_N, (10, (0, []))))), (10, (.ifCond .ne 7, (sv_N, (13, (17, []))))), (13, (.iconst 1, (.inl (1 : Int32), (14, (0, []))))), (14, (.goto 4, (sv_N, (17, (18, []))))), (17, (.iconst 0, (.inl (0 : Int32), (18, (0, []))))), (18, (.ireturn, (sv_N, (19, (0, [])))))]
noncomputable def ev_Js_isLatin1_aae02 : sv_E := (fun i => sv_lk i fl_13, (fun i => sv_lk i kc_13, (fun i => bif Nat.beq i 38 then 2 else 0, (true, (fun pc => sv_lk pc [], none)))))
noncomputable def kk_Js_isLatin1_aae02 : sv_K (Int32 × sv_S) := fun pc => sv_lk pc []
set_option maxRecDepth 20000 in
theorem e_Js_isLatin1_aae02 (a0 : Nat) (σ : sv_S) : sv_ex ev_Js_isLatin1_aae02 sv_rZ kk_Js_isLatin1_aae02 cd_Js_isLatin1_aae02 11 0 [some (.inr (.inr (some (23, a0))))] [] σ = f_Js_isLatin1_aae02 a0 σ := by
  unfold f_Js_isLatin1_aae02
  delta ev_Js_isLatin1_aae02 kk_Js_isLatin1_aae02
  rfl
theorem d_Js_isLatin1_aae02 : cd_Js_isLatin1_aae02.all (sv_dk cJ0_isLatin1_aae02) = true := by decide +kernel
set_option maxRecDepth 20000 in
theorem b_Js_isLatin1_aae02 (Γ : sv_Ga) (res : Int32 × sv_S) (X : sv_Ok Γ ev_Js_isLatin1_aae02 cJ0_isLatin1_aae02 sv_rZ res) (as : List sv_V) (σ : sv_S) (h : n_Js_isLatin1_aae02 as σ = some res) : sv_T Γ 0 (sv_e0 1 as) [] σ := by
  unfold n_Js_isLatin1_aae02 at h
  split at h
  · refine sv_run X d_Js_isLatin1_aae02 (K := kk_Js_isLatin1_aae02) (sv_lk_all (P := fun pc (k : sv_Lo → List sv_V → sv_S → Option (Int32 × sv_S)) => ∀ lo st σ, k lo st σ = some res → sv_T Γ pc lo st σ) ?_) _ _ _ _ _ ((e_Js_isLatin1_aae02 _ _).trans h)
    clear h
    exact fun _ h => absurd h List.not_mem_nil
  · cases h
theorem a_Js_isLatin1_aae02 (as : List sv_V) (σ : sv_S) (x : Int32 × sv_S) (h : n_Js_isLatin1_aae02 as σ = some x) : sv_args 1 ev_Js_isLatin1_aae02.2.2.2.1 as := by
  unfold n_Js_isLatin1_aae02 at h
  split at h
  · exact ⟨Nat.le_of_ble_eq_true rfl, fun _ v hv => by
      simp only [List.mem_cons, List.not_mem_nil, or_false] at hv
      rcases hv with rfl <;> trivial⟩
  · cases h
theorem gj_Js_isLatin1_aae02 (as : List sv_V) (σ : sv_S) (x : Option sv_V × sv_S) (h : sv_gI n_Js_isLatin1_aae02 as σ = some x) : ∃ i as', as = sv_R 23 i :: as' := by
  obtain ⟨_, _, h, -⟩ := sv_b_some h
  unfold n_Js_isLatin1_aae02 at h
  split at h
  · exact ⟨_, _, rfl⟩
  · cases h

set_option maxRecDepth 20000 in
theorem m_Js_isLatin1_aae02 (l : Launch) : sv_M l yJ0_isLatin1_aae02 cJ0_isLatin1_aae02 1 (some .boolean) (sv_gI n_Js_isLatin1_aae02) 0 := by
  refine sv_mZ (E := ev_Js_isLatin1_aae02) (by decide +kernel) (ln_gen fk_13 kk_13 gk_13) rfl ?_ a_Js_isLatin1_aae02 b_Js_isLatin1_aae02
  intro p e R s m args below meth c cells slots Q base ad dC dI cA n0 S hkn hR hf pc n f hcs
  refine sv_lk_all (P := fun pc (x : Nat × sv_F) => sv_cok p l e R s m args below meth c cells slots Q base ad dC dI cA true 1 n0 pc x.1 x.2) ?_ pc (n, f) hcs
  exact fun _ h => absurd h List.not_mem_nil
noncomputable def f_Js_length_8abf5 (a0 : Nat) (σ : sv_S) : Option (Int32 × sv_S) :=
  sv_b (f_Js_coder_7d493 a0 σ) (fun v1 σ2 =>
    some ((nI (sv_tl.getD a0 0)) >>> (v1 &&& 31), σ2))
noncomputable def n_Js_length_8abf5 : List sv_V → sv_S → Option (Int32 × sv_S)
  | [.inr (.inr (some (23, a0)))], σ => f_Js_length_8abf5 a0 σ
  | _, _ => none
def cd_Js_length_8abf5 : sv_C := [(0, (.aload_n 0, (sv_N, (1, (0, []))))), (1, (.getfield 9, (sv_N, (4, (0, []))))), (4, (.arraylength, (sv_N, (5, (0, []))))), (5, (.aload_n 0, (sv_N, (6, (0, []))))), (6, (.invokevirtual 335, (sv_N, (9, (0, []))))), (9, (.ishr, (sv_N, (10, (0, []))))), (10, (.ireturn, (sv_N, (11, (0, [])))))]
noncomputable def ev_Js_length_8abf5 : sv_E := (fun i => sv_lk i fl_13, (fun i => sv_lk i kc_13, (fun i => bif Nat.beq i 38 then 2 else 0, (true, (fun pc => sv_lk pc [(6, (1, .inl n_Js_coder_7d493))], none)))))
noncomputable def kk_Js_length_8abf5 : sv_K (Int32 × sv_S) := fun pc => sv_lk pc []
set_option maxRecDepth 20000 in
theorem e_Js_length_8abf5 (a0 : Nat) (σ : sv_S) : sv_ex ev_Js_length_8abf5 sv_rI kk_Js_length_8abf5 cd_Js_length_8abf5 9 0 [some (.inr (.inr (some (23, a0))))] [] σ = f_Js_length_8abf5 a0 σ := by
  unfold f_Js_length_8abf5
  delta ev_Js_length_8abf5 kk_Js_length_8abf5 n_Js_coder_7d493
  generalize f_Js_coder_7d493 = c0
  rfl
theorem d_Js_length_8abf5 : cd_Js_length_8abf5.all (sv_dk cJ0_length_8abf5) = true := by decide +kernel
set_option maxRecDepth 20000 in
theorem b_Js_length_8abf5 (Γ : sv_Ga) (res : Int32 × sv_S) (X : sv_Ok Γ ev_Js_length_8abf5 cJ0_length_8abf5 sv_rI res) (as : List sv_V) (σ : sv_S) (h : n_Js_length_8abf5 as σ = some res) : sv_T Γ 0 (sv_e0 1 as) [] σ := by
  unfold n_Js_length_8abf5 at h
  split at h
  · refine sv_run X d_Js_length_8abf5 (K := kk_Js_length_8abf5) (sv_lk_all (P := fun pc (k : sv_Lo → List sv_V → sv_S → Option (Int32 × sv_S)) => ∀ lo st σ, k lo st σ = some res → sv_T Γ pc lo st σ) ?_) _ _ _ _ _ ((e_Js_length_8abf5 _ _).trans h)
    clear h
    exact fun _ h => absurd h List.not_mem_nil
  · cases h
theorem a_Js_length_8abf5 (as : List sv_V) (σ : sv_S) (x : Int32 × sv_S) (h : n_Js_length_8abf5 as σ = some x) : sv_args 1 ev_Js_length_8abf5.2.2.2.1 as := by
  unfold n_Js_length_8abf5 at h
  split at h
  · exact ⟨Nat.le_of_ble_eq_true rfl, fun _ v hv => by
      simp only [List.mem_cons, List.not_mem_nil, or_false] at hv
      rcases hv with rfl <;> trivial⟩
  · cases h
theorem gj_Js_length_8abf5 (as : List sv_V) (σ : sv_S) (x : Option sv_V × sv_S) (h : sv_gI n_Js_length_8abf5 as σ = some x) : ∃ i as', as = sv_R 23 i :: as' := by
  obtain ⟨_, _, h, -⟩ := sv_b_some h
  unfold n_Js_length_8abf5 at h
  split at h
  · exact ⟨_, _, rfl⟩
  · cases h
theorem tw_69 : Cond.initialized RJ0 ∈ gw_tbl := gw_at 69 (by decide +kernel) rfl
theorem tw_717 : Cond.methodLink RJ0 335 yJ0_coder_7d493 ∈ gw_tbl := gw_at 717 (by decide +kernel) rfl
theorem tw_718 : Cond.instanceMethod yJ0_coder_7d493 ∈ gw_tbl := gw_at 718 (by decide +kernel) rfl
theorem tw_719 : Cond.selects RJ0 yJ0_coder_7d493 yJ0_coder_7d493 ∈ gw_tbl := gw_at 719 (by decide +kernel) rfl
theorem tw_720 : Cond.code yJ0_coder_7d493 cJ0_coder_7d493 1 (some .byte) ∈ gw_tbl := gw_at 720 (by decide +kernel) rfl
set_option maxRecDepth 20000 in
theorem m_Js_length_8abf5 (l : Launch) : sv_M l yJ0_length_8abf5 cJ0_length_8abf5 1 (some .int) (sv_gI n_Js_length_8abf5) 1 := by
  refine sv_mI (E := ev_Js_length_8abf5) (by decide +kernel) (ln_gen fk_13 kk_13 gk_13) rfl ?_ a_Js_length_8abf5 b_Js_length_8abf5
  intro p e R s m args below meth c cells slots Q base ad dC dI cA n0 S hkn hR hf pc n f hcs
  refine sv_lk_all (P := fun pc (x : Nat × sv_F) => sv_cok p l e R s m args below meth c cells slots Q base ad dC dI cA true 1 n0 pc x.1 x.2) ?_ pc (n, f) hcs
  exact List.forall_mem_cons.mpr ⟨(sv_cJ S hkn (m_Js_coder_7d493 l) ⟨Nat.le_trans (by decide) hR.1, Nat.le_trans (by decide) hR.2⟩ (by decide) hf gj_Js_coder_7d493 (sv_w5 tw_717 tw_718 tw_719 tw_69 tw_720) (by decide +kernel) (sv_dc3 d_Js_length_8abf5 (pc := 6) rfl rfl)).I,
      fun _ h => absurd h List.not_mem_nil⟩
noncomputable def f_Jl_charAt_3b067 (a0 : Nat) (a1 : Int32) (σ : sv_S) : Option (Int32 × sv_S) :=
  sv_b0 (f_Js_checkIndex_df160 a1 (nI (sv_tl.getD a0 0)) σ) (fun σ1 =>
    sv_g (sv_in a1 (sv_tl.getD a0 0)) (sv_g (narrow .char (.int (((((sv_tb.getD a0 []).getD (a1.toNatClampNeg) 0) &&& (255 : Int32)).toUInt32 % 65536).toInt32)) = .int (((((sv_tb.getD a0 []).getD (a1.toNatClampNeg) 0) &&& (255 : Int32)).toUInt32 % 65536).toInt32)) (some (((((sv_tb.getD a0 []).getD (a1.toNatClampNeg) 0) &&& (255 : Int32)).toUInt32 % 65536).toInt32, σ1))))
noncomputable def n_Jl_charAt_3b067 : List sv_V → sv_S → Option (Int32 × sv_S)
  | [.inr (.inr (some (25, a0))), .inl a1], σ => f_Jl_charAt_3b067 a0 a1 σ
  | _, _ => none
def cd_Jl_charAt_3b067 : sv_C := [(0, (.iload_n 1, (sv_N, (1, (0, []))))), (1, (.aload_n 0, (sv_N, (2, (0, []))))), (2, (.arraylength, (sv_N, (3, (0, []))))), (3, (.invokestatic 9, (sv_N, (6, (0, []))))), (6, (.aload_n 0, (sv_N, (7, (0, []))))), (7, (.iload_n 1, (sv_N, (8, (0, []))))), (8, (.baload, (sv_N, (9, (0, []))))), (9, (.sipush 255, (.inl (255 : Int32), (12, (0, []))))), (12, (.iand, (sv_N, (13, (0, []))))), (13, (.i2c, (sv_N, (14, (0, []))))), (14, (.ireturn, (sv_N, (15, (0, [])))))]
noncomputable def ev_Jl_charAt_3b067 : sv_E := (fun i => sv_lk i fl_22, (fun i => sv_lk i kc_22, (fun _ => 0, (true, (fun pc => sv_lk pc [(3, (2, .inr (.inl n_Js_checkIndex_df160)))], none)))))
noncomputable def kk_Jl_charAt_3b067 : sv_K (Int32 × sv_S) := fun pc => sv_lk pc []
set_option maxRecDepth 20000 in
theorem e_Jl_charAt_3b067 (a0 : Nat) (a1 : Int32) (σ : sv_S) : sv_ex ev_Jl_charAt_3b067 (sv_rN .char) kk_Jl_charAt_3b067 cd_Jl_charAt_3b067 13 0 [some (.inr (.inr (some (25, a0)))), some (.inl a1)] [] σ = f_Jl_charAt_3b067 a0 a1 σ := by
  unfold f_Jl_charAt_3b067
  delta ev_Jl_charAt_3b067 kk_Jl_charAt_3b067 n_Js_checkIndex_df160
  generalize f_Js_checkIndex_df160 = c0
  rfl
theorem d_Jl_charAt_3b067 : cd_Jl_charAt_3b067.all (sv_dk cJ1_charAt_3b067) = true := by decide +kernel
set_option maxRecDepth 20000 in
theorem b_Jl_charAt_3b067 (Γ : sv_Ga) (res : Int32 × sv_S) (X : sv_Ok Γ ev_Jl_charAt_3b067 cJ1_charAt_3b067 (sv_rN .char) res) (as : List sv_V) (σ : sv_S) (h : n_Jl_charAt_3b067 as σ = some res) : sv_T Γ 0 (sv_e0 2 as) [] σ := by
  unfold n_Jl_charAt_3b067 at h
  split at h
  · refine sv_run X d_Jl_charAt_3b067 (K := kk_Jl_charAt_3b067) (sv_lk_all (P := fun pc (k : sv_Lo → List sv_V → sv_S → Option (Int32 × sv_S)) => ∀ lo st σ, k lo st σ = some res → sv_T Γ pc lo st σ) ?_) _ _ _ _ _ ((e_Jl_charAt_3b067 _ _ _).trans h)
    clear h
    exact fun _ h => absurd h List.not_mem_nil
  · cases h
theorem a_Jl_charAt_3b067 (as : List sv_V) (σ : sv_S) (x : Int32 × sv_S) (h : n_Jl_charAt_3b067 as σ = some x) : sv_args 2 ev_Jl_charAt_3b067.2.2.2.1 as := by
  unfold n_Jl_charAt_3b067 at h
  split at h
  · exact ⟨Nat.le_of_ble_eq_true rfl, fun _ v hv => by
      simp only [List.mem_cons, List.not_mem_nil, or_false] at hv
      rcases hv with rfl | rfl <;> trivial⟩
  · cases h
theorem tw_734 : Cond.methodLink RJ1 9 yJ0_checkIndex_df160 ∈ gw_tbl := gw_at 734 (by decide +kernel) rfl
theorem tw_735 : Cond.static yJ0_checkIndex_df160 ∈ gw_tbl := gw_at 735 (by decide +kernel) rfl
theorem tw_736 : Cond.code yJ0_checkIndex_df160 cJ0_checkIndex_df160 2 none ∈ gw_tbl := gw_at 736 (by decide +kernel) rfl
set_option maxRecDepth 20000 in
theorem m_Jl_charAt_3b067 (l : Launch) : sv_M l yJ1_charAt_3b067 cJ1_charAt_3b067 2 (some .char) (sv_gI n_Jl_charAt_3b067) 2 := by
  refine sv_mN (Or.inr rfl) (E := ev_Jl_charAt_3b067) (by decide +kernel) (ln_gen fk_22 kk_22 (sv_ns _ (fun _ => rfl) _)) rfl ?_ a_Jl_charAt_3b067 b_Jl_charAt_3b067
  intro p e R s m args below meth c cells slots Q base ad dC dI cA n0 S hkn hR hf pc n f hcs
  refine sv_lk_all (P := fun pc (x : Nat × sv_F) => sv_cok p l e R s m args below meth c cells slots Q base ad dC dI cA true 2 n0 pc x.1 x.2) ?_ pc (n, f) hcs
  exact List.forall_mem_cons.mpr ⟨(sv_cS S hkn (m_Js_checkIndex_df160 l) ⟨Nat.le_trans (by decide) hR.1, Nat.le_trans (by decide) hR.2⟩ (by decide) hf (sv_w4 tw_734 tw_735 tw_69 tw_736) (by decide +kernel) (sv_dc3 d_Jl_charAt_3b067 (pc := 3) rfl rfl)).V,
      fun _ h => absurd h List.not_mem_nil⟩
noncomputable def f_Js_charAt_5068e (a0 : Nat) (a1 : Int32) (σ : sv_S) : Option (Int32 × sv_S) :=
  sv_b (f_Js_isLatin1_aae02 a0 σ) (fun v1 σ2 =>
    sv_if (v1 = 0)
      (none)
      (sv_b (f_Jl_charAt_3b067 a0 a1 σ2) (fun v3 σ4 =>
        sv_g (narrow .char (.int v3) = .int v3) (some (v3, σ4)))))
noncomputable def n_Js_charAt_5068e : List sv_V → sv_S → Option (Int32 × sv_S)
  | [.inr (.inr (some (23, a0))), .inl a1], σ => f_Js_charAt_5068e a0 a1 σ
  | _, _ => none
def cd_Js_charAt_5068e : sv_C := [(0, (.aload_n 0, (sv_N, (1, (0, []))))), (1, (.invokevirtual 492, (sv_N, (4, (0, []))))), (4, (.ifCond .eq 12, (sv_N, (7, (16, []))))), (7, (.aload_n 0, (sv_N, (8, (0, []))))), (8, (.getfield 9, (sv_N, (11, (0, []))))), (11, (.iload_n 1, (sv_N, (12, (0, []))))), (12, (.invokestatic 495, (sv_N, (15, (0, []))))), (15, (.ireturn, (sv_N, (16, (0, []))))), (16, (.aload_n 0, (sv_N, (17, (0, []))))), (17, (.getfield 9, (sv_N, (20, (0, []))))), (20, (.iload_n 1, (sv_N, (21, (0, []))))), (21, (.invokestatic 498, (sv_N, (24, (0, []))))), (24, (.ireturn, (sv_N, (25, (0, [])))))]
noncomputable def ev_Js_charAt_5068e : sv_E := (fun i => sv_lk i fl_13, (fun i => sv_lk i kc_13, (fun i => bif Nat.beq i 38 then 2 else 0, (true, (fun pc => sv_lk pc [(1, (1, .inl n_Js_isLatin1_aae02)), (12, (2, .inl n_Jl_charAt_3b067))], none)))))
noncomputable def kk_Js_charAt_5068e : sv_K (Int32 × sv_S) := fun pc => sv_lk pc []
set_option maxRecDepth 20000 in
theorem e_Js_charAt_5068e (a0 : Nat) (a1 : Int32) (σ : sv_S) : sv_ex ev_Js_charAt_5068e (sv_rN .char) kk_Js_charAt_5068e cd_Js_charAt_5068e 15 0 [some (.inr (.inr (some (23, a0)))), some (.inl a1)] [] σ = f_Js_charAt_5068e a0 a1 σ := by
  unfold f_Js_charAt_5068e
  delta ev_Js_charAt_5068e kk_Js_charAt_5068e n_Js_isLatin1_aae02 n_Jl_charAt_3b067
  generalize f_Js_isLatin1_aae02 = c0
  generalize f_Jl_charAt_3b067 = c1
  rfl
theorem d_Js_charAt_5068e : cd_Js_charAt_5068e.all (sv_dk cJ0_charAt_5068e) = true := by decide +kernel
set_option maxRecDepth 20000 in
theorem b_Js_charAt_5068e (Γ : sv_Ga) (res : Int32 × sv_S) (X : sv_Ok Γ ev_Js_charAt_5068e cJ0_charAt_5068e (sv_rN .char) res) (as : List sv_V) (σ : sv_S) (h : n_Js_charAt_5068e as σ = some res) : sv_T Γ 0 (sv_e0 2 as) [] σ := by
  unfold n_Js_charAt_5068e at h
  split at h
  · refine sv_run X d_Js_charAt_5068e (K := kk_Js_charAt_5068e) (sv_lk_all (P := fun pc (k : sv_Lo → List sv_V → sv_S → Option (Int32 × sv_S)) => ∀ lo st σ, k lo st σ = some res → sv_T Γ pc lo st σ) ?_) _ _ _ _ _ ((e_Js_charAt_5068e _ _ _).trans h)
    clear h
    exact fun _ h => absurd h List.not_mem_nil
  · cases h
theorem a_Js_charAt_5068e (as : List sv_V) (σ : sv_S) (x : Int32 × sv_S) (h : n_Js_charAt_5068e as σ = some x) : sv_args 2 ev_Js_charAt_5068e.2.2.2.1 as := by
  unfold n_Js_charAt_5068e at h
  split at h
  · exact ⟨Nat.le_of_ble_eq_true rfl, fun _ v hv => by
      simp only [List.mem_cons, List.not_mem_nil, or_false] at hv
      rcases hv with rfl | rfl <;> trivial⟩
  · cases h
theorem gj_Js_charAt_5068e (as : List sv_V) (σ : sv_S) (x : Option sv_V × sv_S) (h : sv_gI n_Js_charAt_5068e as σ = some x) : ∃ i as', as = sv_R 23 i :: as' := by
  obtain ⟨_, _, h, -⟩ := sv_b_some h
  unfold n_Js_charAt_5068e at h
  split at h
  · exact ⟨_, _, rfl⟩
  · cases h
theorem tw_70 : Cond.initialized RJ1 ∈ gw_tbl := gw_at 70 (by decide +kernel) rfl
theorem tw_727 : Cond.methodLink RJ0 492 yJ0_isLatin1_aae02 ∈ gw_tbl := gw_at 727 (by decide +kernel) rfl
theorem tw_728 : Cond.instanceMethod yJ0_isLatin1_aae02 ∈ gw_tbl := gw_at 728 (by decide +kernel) rfl
theorem tw_729 : Cond.selects RJ0 yJ0_isLatin1_aae02 yJ0_isLatin1_aae02 ∈ gw_tbl := gw_at 729 (by decide +kernel) rfl
theorem tw_730 : Cond.code yJ0_isLatin1_aae02 cJ0_isLatin1_aae02 1 (some .boolean) ∈ gw_tbl := gw_at 730 (by decide +kernel) rfl
theorem tw_731 : Cond.methodLink RJ0 495 yJ1_charAt_3b067 ∈ gw_tbl := gw_at 731 (by decide +kernel) rfl
theorem tw_732 : Cond.static yJ1_charAt_3b067 ∈ gw_tbl := gw_at 732 (by decide +kernel) rfl
theorem tw_733 : Cond.code yJ1_charAt_3b067 cJ1_charAt_3b067 2 (some .char) ∈ gw_tbl := gw_at 733 (by decide +kernel) rfl
set_option maxRecDepth 20000 in
theorem m_Js_charAt_5068e (l : Launch) : sv_M l yJ0_charAt_5068e cJ0_charAt_5068e 2 (some .char) (sv_gI n_Js_charAt_5068e) 3 := by
  refine sv_mN (Or.inr rfl) (E := ev_Js_charAt_5068e) (by decide +kernel) (ln_gen fk_13 kk_13 gk_13) rfl ?_ a_Js_charAt_5068e b_Js_charAt_5068e
  intro p e R s m args below meth c cells slots Q base ad dC dI cA n0 S hkn hR hf pc n f hcs
  refine sv_lk_all (P := fun pc (x : Nat × sv_F) => sv_cok p l e R s m args below meth c cells slots Q base ad dC dI cA true 2 n0 pc x.1 x.2) ?_ pc (n, f) hcs
  exact List.forall_mem_cons.mpr ⟨(sv_cJ S hkn (m_Js_isLatin1_aae02 l) ⟨Nat.le_trans (by decide) hR.1, Nat.le_trans (by decide) hR.2⟩ (by decide) hf gj_Js_isLatin1_aae02 (sv_w5 tw_727 tw_728 tw_729 tw_69 tw_730) (by decide +kernel) (sv_dc3 d_Js_charAt_5068e (pc := 1) rfl rfl)).I,
      List.forall_mem_cons.mpr ⟨(sv_cS S hkn (m_Jl_charAt_3b067 l) ⟨Nat.le_trans (by decide) hR.1, Nat.le_trans (by decide) hR.2⟩ (by decide) hf (sv_w4 tw_731 tw_732 tw_70 tw_733) (by decide +kernel) (sv_dc3 d_Js_charAt_5068e (pc := 12) rfl rfl)).I,
      fun _ h => absurd h List.not_mem_nil⟩⟩
noncomputable def f_Jl_canEncode_9a6ad (a0 : Int32) (σ : sv_S) : Option (Int32 × sv_S) :=
  sv_if (a0 < 0)
    (sv_g ((0 : Int32) = 0 ∨ (0 : Int32) = 1) (some ((0 : Int32), σ)))
    (sv_if ((255 : Int32) < a0)
      (sv_g ((0 : Int32) = 0 ∨ (0 : Int32) = 1) (some ((0 : Int32), σ)))
      (sv_g ((1 : Int32) = 0 ∨ (1 : Int32) = 1) (some ((1 : Int32), σ))))
noncomputable def n_Jl_canEncode_9a6ad : List sv_V → sv_S → Option (Int32 × sv_S)
  | [.inl a0], σ => f_Jl_canEncode_9a6ad a0 σ
  | _, _ => none
def cd_Jl_canEncode_9a6ad : sv_C := [(0, (.iload_n 0, (sv_N, (1, (0, []))))), (1, (.ifCond .lt 14, (sv_N, (4, (15, []))))), (4, (.iload_n 0, (sv_N, (5, (0, []))))), (5, (.sipush 255, (.inl (255 : Int32), (8, (0, []))))), (8, (.if_icmp .gt 7, (sv_N, (11, (15, []))))), (11, (.iconst 1, (.inl (1 : Int32), (12, (0, []))))), (12, (.goto 4, (sv_N, (15, (16, []))))), (15, (.iconst 0, (.inl (0 : Int32), (16, (0, []))))), (16, (.ireturn, (sv_N, (17, (0, [])))))]
noncomputable def ev_Jl_canEncode_9a6ad : sv_E := (fun i => sv_lk i fl_22, (fun i => sv_lk i kc_22, (fun _ => 0, (true, (fun pc => sv_lk pc [], none)))))
noncomputable def kk_Jl_canEncode_9a6ad : sv_K (Int32 × sv_S) := fun pc => sv_lk pc []
set_option maxRecDepth 20000 in
theorem e_Jl_canEncode_9a6ad (a0 : Int32) (σ : sv_S) : sv_ex ev_Jl_canEncode_9a6ad sv_rZ kk_Jl_canEncode_9a6ad cd_Jl_canEncode_9a6ad 11 0 [some (.inl a0)] [] σ = f_Jl_canEncode_9a6ad a0 σ := by
  unfold f_Jl_canEncode_9a6ad
  delta ev_Jl_canEncode_9a6ad kk_Jl_canEncode_9a6ad
  rfl
theorem d_Jl_canEncode_9a6ad : cd_Jl_canEncode_9a6ad.all (sv_dk cJ1_canEncode_9a6ad) = true := by decide +kernel
set_option maxRecDepth 20000 in
theorem b_Jl_canEncode_9a6ad (Γ : sv_Ga) (res : Int32 × sv_S) (X : sv_Ok Γ ev_Jl_canEncode_9a6ad cJ1_canEncode_9a6ad sv_rZ res) (as : List sv_V) (σ : sv_S) (h : n_Jl_canEncode_9a6ad as σ = some res) : sv_T Γ 0 (sv_e0 1 as) [] σ := by
  unfold n_Jl_canEncode_9a6ad at h
  split at h
  · refine sv_run X d_Jl_canEncode_9a6ad (K := kk_Jl_canEncode_9a6ad) (sv_lk_all (P := fun pc (k : sv_Lo → List sv_V → sv_S → Option (Int32 × sv_S)) => ∀ lo st σ, k lo st σ = some res → sv_T Γ pc lo st σ) ?_) _ _ _ _ _ ((e_Jl_canEncode_9a6ad _ _).trans h)
    clear h
    exact fun _ h => absurd h List.not_mem_nil
  · cases h
theorem a_Jl_canEncode_9a6ad (as : List sv_V) (σ : sv_S) (x : Int32 × sv_S) (h : n_Jl_canEncode_9a6ad as σ = some x) : sv_args 1 ev_Jl_canEncode_9a6ad.2.2.2.1 as := by
  unfold n_Jl_canEncode_9a6ad at h
  split at h
  · exact ⟨Nat.le_of_ble_eq_true rfl, fun _ v hv => by
      simp only [List.mem_cons, List.not_mem_nil, or_false] at hv
      rcases hv with rfl <;> trivial⟩
  · cases h

set_option maxRecDepth 20000 in
theorem m_Jl_canEncode_9a6ad (l : Launch) : sv_M l yJ1_canEncode_9a6ad cJ1_canEncode_9a6ad 1 (some .boolean) (sv_gI n_Jl_canEncode_9a6ad) 0 := by
  refine sv_mZ (E := ev_Jl_canEncode_9a6ad) (by decide +kernel) (ln_gen fk_22 kk_22 (sv_ns _ (fun _ => rfl) _)) rfl ?_ a_Jl_canEncode_9a6ad b_Jl_canEncode_9a6ad
  intro p e R s m args below meth c cells slots Q base ad dC dI cA n0 S hkn hR hf pc n f hcs
  refine sv_lk_all (P := fun pc (x : Nat × sv_F) => sv_cok p l e R s m args below meth c cells slots Q base ad dC dI cA true 1 n0 pc x.1 x.2) ?_ pc (n, f) hcs
  exact fun _ h => absurd h List.not_mem_nil
noncomputable def f_Jl_indexOfChar_4cfef_7 : Nat → Nat → Int32 → Int32 → Int32 → sv_S → Option (Int32 × sv_S)
  | 0, _, _, _, _, _ => none
  | n + 1, x0, x3, x4, x5, σ =>
    sv_if (x3 ≤ x5)
      (some ((-1 : Int32), σ))
      (sv_g (sv_in x5 (sv_tl.getD x0 0)) (sv_if (((sv_tb.getD x0 []).getD (x5.toNatClampNeg) 0) = x4)
        (some (x5, σ))
        (f_Jl_indexOfChar_4cfef_7 n x0 x3 x4 (x5 + (1 : Int32)) σ)))
noncomputable def f_Jl_indexOfChar_4cfef (a0 : Nat) (a1 : Int32) (a2 : Int32) (a3 : Int32) (σ : sv_S) : Option (Int32 × sv_S) :=
  f_Jl_indexOfChar_4cfef_7 sv_fu a0 a3 (a1.toInt8.toInt32) a2 σ
noncomputable def n_Jl_indexOfChar_4cfef : List sv_V → sv_S → Option (Int32 × sv_S)
  | [.inr (.inr (some (25, a0))), .inl a1, .inl a2, .inl a3], σ => f_Jl_indexOfChar_4cfef a0 a1 a2 a3 σ
  | _, _ => none
def cd_Jl_indexOfChar_4cfef : sv_C := [(0, (.iload_n 1, (sv_N, (1, (0, []))))), (1, (.i2b, (sv_N, (2, (0, []))))), (2, (.istore 4, (sv_N, (4, (0, []))))), (4, (.iload_n 2, (sv_N, (5, (0, []))))), (5, (.istore 5, (sv_N, (7, (0, []))))), (7, (.iload 5, (sv_N, (9, (0, []))))), (9, (.iload_n 3, (sv_N, (10, (0, []))))), (10, (.if_icmp .ge 21, (sv_N, (13, (31, []))))), (13, (.aload_n 0, (sv_N, (14, (0, []))))), (14, (.iload 5, (sv_N, (16, (0, []))))), (16, (.baload, (sv_N, (17, (0, []))))), (17, (.iload 4, (sv_N, (19, (0, []))))), (19, (.if_icmp .ne 6, (sv_N, (22, (25, []))))), (22, (.iload 5, (sv_N, (24, (0, []))))), (24, (.ireturn, (sv_N, (25, (0, []))))), (25, (.iinc 5 1, (.inl (1 : Int32), (28, (0, []))))), (28, (.goto (-21), (sv_N, (31, (7, []))))), (31, (.iconst (-1), (.inl (-1 : Int32), (32, (0, []))))), (32, (.ireturn, (sv_N, (33, (0, [])))))]
noncomputable def ev_Jl_indexOfChar_4cfef : sv_E := (fun i => sv_lk i fl_22, (fun i => sv_lk i kc_22, (fun _ => 0, (true, (fun pc => sv_lk pc [], none)))))
noncomputable def kk_Jl_indexOfChar_4cfef_7 (n : Nat) : sv_K (Int32 × sv_S) := fun pc => sv_lk pc [(7, fun lo st σ => match lo, st with
    | [some (.inr (.inr (some (25, x0)))), _, _, some (.inl x3), some (.inl x4), some (.inl x5)], [] => f_Jl_indexOfChar_4cfef_7 n x0 x3 x4 x5 σ
    | _, _ => none)]
set_option maxRecDepth 20000 in
theorem e_Jl_indexOfChar_4cfef_7 (n : Nat) (x0 : Nat) (x3 : Int32) (x4 : Int32) (x5 : Int32) (z1 z2 : Option sv_V) (σ : sv_S) : sv_ex ev_Jl_indexOfChar_4cfef sv_rI (kk_Jl_indexOfChar_4cfef_7 n) cd_Jl_indexOfChar_4cfef 21 7 [some (.inr (.inr (some (25, x0)))), z1, z2, some (.inl x3), some (.inl x4), some (.inl x5)] [] σ = f_Jl_indexOfChar_4cfef_7 (n + 1) x0 x3 x4 x5 σ := by
  rw [f_Jl_indexOfChar_4cfef_7.eq_2]
  delta ev_Jl_indexOfChar_4cfef kk_Jl_indexOfChar_4cfef_7
  generalize f_Jl_indexOfChar_4cfef_7 = c0
  rfl
noncomputable def kk_Jl_indexOfChar_4cfef : sv_K (Int32 × sv_S) := fun pc => sv_lk pc [(7, fun lo st σ => match lo, st with
    | [some (.inr (.inr (some (25, x0)))), _, _, some (.inl x3), some (.inl x4), some (.inl x5)], [] => f_Jl_indexOfChar_4cfef_7 sv_fu x0 x3 x4 x5 σ
    | _, _ => none)]
set_option maxRecDepth 20000 in
theorem e_Jl_indexOfChar_4cfef (a0 : Nat) (a1 : Int32) (a2 : Int32) (a3 : Int32) (σ : sv_S) : sv_ex ev_Jl_indexOfChar_4cfef sv_rI kk_Jl_indexOfChar_4cfef cd_Jl_indexOfChar_4cfef 21 0 [some (.inr (.inr (some (25, a0)))), some (.inl a1), some (.inl a2), some (.inl a3), none, none] [] σ = f_Jl_indexOfChar_4cfef a0 a1 a2 a3 σ := by
  unfold f_Jl_indexOfChar_4cfef
  delta ev_Jl_indexOfChar_4cfef kk_Jl_indexOfChar_4cfef
  generalize f_Jl_indexOfChar_4cfef_7 = c0
  rfl
theorem d_Jl_indexOfChar_4cfef : cd_Jl_indexOfChar_4cfef.all (sv_dk cJ1_indexOfChar_4cfef) = true := by decide +kernel
set_option maxRecDepth 20000 in
theorem w_Jl_indexOfChar_4cfef_7 {Γ : sv_Ga} {res : Int32 × sv_S} (X : sv_Ok Γ ev_Jl_indexOfChar_4cfef cJ1_indexOfChar_4cfef sv_rI res) : ∀ (n : Nat) (x0 : Nat) (x3 : Int32) (x4 : Int32) (x5 : Int32) (z1 z2 : Option sv_V) (σ : sv_S), f_Jl_indexOfChar_4cfef_7 n x0 x3 x4 x5 σ = some res → sv_T Γ 7 [some (.inr (.inr (some (25, x0)))), z1, z2, some (.inl x3), some (.inl x4), some (.inl x5)] [] σ := by
  intro n
  induction n with
  | zero =>
    intro x0 x3 x4 x5 z1 z2 σ h
    rw [f_Jl_indexOfChar_4cfef_7.eq_1] at h
    cases h
  | succ n ih =>
    intro x0 x3 x4 x5 z1 z2 σ h
    refine sv_run X d_Jl_indexOfChar_4cfef (K := kk_Jl_indexOfChar_4cfef_7 n) (sv_lk_all (P := fun pc (k : sv_Lo → List sv_V → sv_S → Option (Int32 × sv_S)) => ∀ lo st σ, k lo st σ = some res → sv_T Γ pc lo st σ) ?_) _ _ _ _ _ ((e_Jl_indexOfChar_4cfef_7 n x0 x3 x4 x5 z1 z2 σ).trans h)
    clear h
    refine List.forall_mem_cons.mpr ⟨fun lo st σ h => ?_, fun _ h => absurd h List.not_mem_nil⟩
    · dsimp only at h
      split at h
      · exact ih _ _ _ _ _ _ _ h
      · cases h

set_option maxRecDepth 20000 in
theorem b_Jl_indexOfChar_4cfef (Γ : sv_Ga) (res : Int32 × sv_S) (X : sv_Ok Γ ev_Jl_indexOfChar_4cfef cJ1_indexOfChar_4cfef sv_rI res) (as : List sv_V) (σ : sv_S) (h : n_Jl_indexOfChar_4cfef as σ = some res) : sv_T Γ 0 (sv_e0 6 as) [] σ := by
  unfold n_Jl_indexOfChar_4cfef at h
  split at h
  · refine sv_run X d_Jl_indexOfChar_4cfef (K := kk_Jl_indexOfChar_4cfef) (sv_lk_all (P := fun pc (k : sv_Lo → List sv_V → sv_S → Option (Int32 × sv_S)) => ∀ lo st σ, k lo st σ = some res → sv_T Γ pc lo st σ) ?_) _ _ _ _ _ ((e_Jl_indexOfChar_4cfef _ _ _ _ _).trans h)
    clear h
    refine List.forall_mem_cons.mpr ⟨fun lo st σ h => ?_, fun _ h => absurd h List.not_mem_nil⟩
    · dsimp only at h
      split at h
      · exact w_Jl_indexOfChar_4cfef_7 X _ _ _ _ _ _ _ _ h
      · cases h
  · cases h
theorem a_Jl_indexOfChar_4cfef (as : List sv_V) (σ : sv_S) (x : Int32 × sv_S) (h : n_Jl_indexOfChar_4cfef as σ = some x) : sv_args 6 ev_Jl_indexOfChar_4cfef.2.2.2.1 as := by
  unfold n_Jl_indexOfChar_4cfef at h
  split at h
  · exact ⟨Nat.le_of_ble_eq_true rfl, fun _ v hv => by
      simp only [List.mem_cons, List.not_mem_nil, or_false] at hv
      rcases hv with rfl | rfl | rfl | rfl <;> trivial⟩
  · cases h

set_option maxRecDepth 20000 in
theorem m_Jl_indexOfChar_4cfef (l : Launch) : sv_M l yJ1_indexOfChar_4cfef cJ1_indexOfChar_4cfef 6 (some .int) (sv_gI n_Jl_indexOfChar_4cfef) 0 := by
  refine sv_mI (E := ev_Jl_indexOfChar_4cfef) (by decide +kernel) (ln_gen fk_22 kk_22 (sv_ns _ (fun _ => rfl) _)) rfl ?_ a_Jl_indexOfChar_4cfef b_Jl_indexOfChar_4cfef
  intro p e R s m args below meth c cells slots Q base ad dC dI cA n0 S hkn hR hf pc n f hcs
  refine sv_lk_all (P := fun pc (x : Nat × sv_F) => sv_cok p l e R s m args below meth c cells slots Q base ad dC dI cA true 6 n0 pc x.1 x.2) ?_ pc (n, f) hcs
  exact fun _ h => absurd h List.not_mem_nil
noncomputable def f_Jl_indexOf_4cfef_14 (x0 : Nat) (x1 : Int32) (x3 : Int32) (y0 : Int32) (σ : sv_S) : Option (Int32 × sv_S) :=
    sv_b (f_Jm_min x3 (nI (sv_tl.getD x0 0)) σ) (fun v1 σ2 =>
      sv_if (y0 < v1)
        (sv_b (f_Jl_indexOfChar_4cfef x0 x1 y0 v1 σ2) (fun v3 σ4 =>
          some (v3, σ4)))
        (some ((-1 : Int32), σ2)))
noncomputable def f_Jl_indexOf_4cfef_11 (x0 : Nat) (x1 : Int32) (x3 : Int32) (y0 : Int32) (y1 : Int32) (σ : sv_S) : Option (Int32 × sv_S) :=
    sv_b (f_Jm_max y1 y0 σ) (fun v1 σ2 =>
      f_Jl_indexOf_4cfef_14 x0 x1 x3 v1 σ2)
noncomputable def f_Jl_indexOf_4cfef (a0 : Nat) (a1 : Int32) (a2 : Int32) (a3 : Int32) (σ : sv_S) : Option (Int32 × sv_S) :=
  sv_b (f_Jl_canEncode_9a6ad a1 σ) (fun v1 σ2 =>
    sv_if (v1 = 0)
      (some ((-1 : Int32), σ2))
      (f_Jl_indexOf_4cfef_11 a0 a1 a3 (0 : Int32) a2 σ2))
noncomputable def n_Jl_indexOf_4cfef : List sv_V → sv_S → Option (Int32 × sv_S)
  | [.inr (.inr (some (25, a0))), .inl a1, .inl a2, .inl a3], σ => f_Jl_indexOf_4cfef a0 a1 a2 a3 σ
  | _, _ => none
def cd_Jl_indexOf_4cfef : sv_C := [(0, (.iload_n 1, (sv_N, (1, (0, []))))), (1, (.invokestatic 88, (sv_N, (4, (0, []))))), (4, (.ifCond .ne 5, (sv_N, (7, (9, []))))), (7, (.iconst (-1), (.inl (-1 : Int32), (8, (0, []))))), (8, (.ireturn, (sv_N, (9, (0, []))))), (9, (.iload_n 2, (sv_N, (10, (0, []))))), (10, (.iconst 0, (.inl (0 : Int32), (11, (0, []))))), (11, (.invokestatic 92, (sv_N, (14, (0, []))))), (14, (.istore_n 2, (sv_N, (15, (0, []))))), (15, (.iload_n 3, (sv_N, (16, (0, []))))), (16, (.aload_n 0, (sv_N, (17, (0, []))))), (17, (.arraylength, (sv_N, (18, (0, []))))), (18, (.invokestatic 38, (sv_N, (21, (0, []))))), (21, (.istore_n 3, (sv_N, (22, (0, []))))), (22, (.iload_n 2, (sv_N, (23, (0, []))))), (23, (.iload_n 3, (sv_N, (24, (0, []))))), (24, (.if_icmp .lt 5, (sv_N, (27, (29, []))))), (27, (.iconst (-1), (.inl (-1 : Int32), (28, (0, []))))), (28, (.ireturn, (sv_N, (29, (0, []))))), (29, (.aload_n 0, (sv_N, (30, (0, []))))), (30, (.iload_n 1, (sv_N, (31, (0, []))))), (31, (.iload_n 2, (sv_N, (32, (0, []))))), (32, (.iload_n 3, (sv_N, (33, (0, []))))), (33, (.invokestatic 95, (sv_N, (36, (0, []))))), (36, (.ireturn, (sv_N, (37, (0, [])))))]
noncomputable def ev_Jl_indexOf_4cfef : sv_E := (fun i => sv_lk i fl_22, (fun i => sv_lk i kc_22, (fun _ => 0, (true, (fun pc => sv_lk pc [(1, (1, .inl n_Jl_canEncode_9a6ad)), (11, (2, .inl n_Jm_max)), (18, (2, .inl n_Jm_min)), (33, (4, .inl n_Jl_indexOfChar_4cfef))], none)))))
noncomputable def kk_Jl_indexOf_4cfef_14 : sv_K (Int32 × sv_S) := fun pc => sv_lk pc []
set_option maxRecDepth 20000 in
theorem e_Jl_indexOf_4cfef_14 (x0 : Nat) (x1 : Int32) (x3 : Int32) (y0 : Int32) (z2 : Option sv_V) (σ : sv_S) : sv_ex ev_Jl_indexOf_4cfef sv_rI (kk_Jl_indexOf_4cfef_14) cd_Jl_indexOf_4cfef 27 14 [some (.inr (.inr (some (25, x0)))), some (.inl x1), z2, some (.inl x3)] [.inl y0] σ = f_Jl_indexOf_4cfef_14 x0 x1 x3 y0 σ := by
  unfold f_Jl_indexOf_4cfef_14
  delta ev_Jl_indexOf_4cfef kk_Jl_indexOf_4cfef_14 n_Jl_canEncode_9a6ad n_Jm_max n_Jm_min n_Jl_indexOfChar_4cfef
  generalize f_Jl_canEncode_9a6ad = c0
  generalize f_Jm_max = c1
  generalize f_Jm_min = c2
  generalize f_Jl_indexOfChar_4cfef = c3
  rfl
theorem s1_Jl {β : Type} (E : sv_E) (rt : sv_V → sv_S → Option β) (pc nx tg i : Nat) (cv : sv_V) (sw : List (Int × Nat)) (lo : sv_Lo) (st : List sv_V) (σ : sv_S) (go : Nat → sv_Lo → List sv_V → sv_S → Option β) : sv_i E rt pc cv nx tg sw lo st σ go (.invokestatic i) = sv_cl E pc nx lo st σ go := by
  simp only [sv_i]
theorem st11_Jl (E : sv_E) (K : sv_K (Int32 × sv_S)) (n : Nat) (lo : sv_Lo) (st : List sv_V) (σ : sv_S) : ∃ go : Nat → sv_Lo → List sv_V → sv_S → Option (Int32 × sv_S), sv_ex E sv_rI K cd_Jl_indexOf_4cfef (n + 1) 11 lo st σ = sv_cl E 11 14 lo st σ go ∧ ∀ pc k, K pc = some k → go pc = k := by
  have t1 : sv_at 11 cd_Jl_indexOf_4cfef = some (.invokestatic 92, (sv_N, (14, (0, [])))) := rfl
  rw [sv_ex, t1]
  refine ⟨_, s1_Jl _ _ _ _ _ _ _ _ _ _ _ _, fun pc k hk => ?_⟩
  funext lo st σ
  simp only [hk]
theorem t5_Jl (lo : sv_Lo) (y0 y1 : Int32) (σ : sv_S) (go : Nat → sv_Lo → List sv_V → sv_S → Option (Int32 × sv_S)) : sv_cl ev_Jl_indexOf_4cfef 11 14 lo [.inl y0, .inl y1] σ go = sv_b (f_Jm_max y1 y0 σ) (fun v σ => go 14 lo [.inl v] σ) := by
  delta ev_Jl_indexOf_4cfef n_Jm_max n_Jm_min n_Jl_canEncode_9a6ad n_Jl_indexOfChar_4cfef
  generalize f_Jm_max = c
  generalize f_Jm_min = c2
  generalize f_Jl_canEncode_9a6ad = c0
  generalize f_Jl_indexOfChar_4cfef = c3
  rfl
noncomputable def kk_Jl_indexOf_4cfef_11 : sv_K (Int32 × sv_S) := fun pc => sv_lk pc [(14, fun lo st σ => match lo, st with
    | [some (.inr (.inr (some (25, x0)))), some (.inl x1), _, some (.inl x3)], [.inl y0] => f_Jl_indexOf_4cfef_14 x0 x1 x3 y0 σ
    | _, _ => none)]
set_option maxRecDepth 20000 in
theorem e_Jl_indexOf_4cfef_11 (x0 : Nat) (x1 : Int32) (x3 : Int32) (y0 : Int32) (y1 : Int32) (z2 : Option sv_V) (σ : sv_S) : sv_ex ev_Jl_indexOf_4cfef sv_rI (kk_Jl_indexOf_4cfef_11) cd_Jl_indexOf_4cfef 27 11 [some (.inr (.inr (some (25, x0)))), some (.inl x1), z2, some (.inl x3)] [.inl y0, .inl y1] σ = f_Jl_indexOf_4cfef_11 x0 x1 x3 y0 y1 σ := by
  obtain ⟨go, h1, h2⟩ := st11_Jl ev_Jl_indexOf_4cfef kk_Jl_indexOf_4cfef_11 26 [some (.inr (.inr (some (25, x0)))), some (.inl x1), z2, some (.inl x3)] [.inl y0, .inl y1] σ
  refine h1.trans ((t5_Jl _ _ _ _ _).trans ?_)
  have h3 : ∃ k, kk_Jl_indexOf_4cfef_11 14 = some k ∧ ∀ v τ, k [some (.inr (.inr (some (25, x0)))), some (.inl x1), z2, some (.inl x3)] [.inl v] τ = f_Jl_indexOf_4cfef_14 x0 x1 x3 v τ := ⟨_, rfl, fun _ _ => rfl⟩
  obtain ⟨k, h3, h4⟩ := h3
  rw [h2 14 k h3]
  unfold f_Jl_indexOf_4cfef_11
  exact congrArg _ (funext fun v => funext fun τ => h4 v τ)
noncomputable def kk_Jl_indexOf_4cfef : sv_K (Int32 × sv_S) := fun pc => sv_lk pc [(11, fun lo st σ => match lo, st with
    | [some (.inr (.inr (some (25, x0)))), some (.inl x1), _, some (.inl x3)], [.inl y0, .inl y1] => f_Jl_indexOf_4cfef_11 x0 x1 x3 y0 y1 σ
    | _, _ => none)]
set_option maxRecDepth 20000 in
theorem e_Jl_indexOf_4cfef (a0 : Nat) (a1 : Int32) (a2 : Int32) (a3 : Int32) (σ : sv_S) : sv_ex ev_Jl_indexOf_4cfef sv_rI kk_Jl_indexOf_4cfef cd_Jl_indexOf_4cfef 27 0 [some (.inr (.inr (some (25, a0)))), some (.inl a1), some (.inl a2), some (.inl a3)] [] σ = f_Jl_indexOf_4cfef a0 a1 a2 a3 σ := by
  unfold f_Jl_indexOf_4cfef
  delta ev_Jl_indexOf_4cfef kk_Jl_indexOf_4cfef n_Jl_canEncode_9a6ad n_Jm_max n_Jm_min n_Jl_indexOfChar_4cfef
  generalize f_Jl_canEncode_9a6ad = c0
  generalize f_Jm_max = c1
  generalize f_Jm_min = c2
  generalize f_Jl_indexOfChar_4cfef = c3
  generalize f_Jl_indexOf_4cfef_11 = c4
  rfl
theorem d_Jl_indexOf_4cfef : cd_Jl_indexOf_4cfef.all (sv_dk cJ1_indexOf_4cfef) = true := by decide +kernel
set_option maxRecDepth 20000 in
theorem w_Jl_indexOf_4cfef_14 {Γ : sv_Ga} {res : Int32 × sv_S} (X : sv_Ok Γ ev_Jl_indexOf_4cfef cJ1_indexOf_4cfef sv_rI res) : ∀ (x0 : Nat) (x1 : Int32) (x3 : Int32) (y0 : Int32) (z2 : Option sv_V) (σ : sv_S), f_Jl_indexOf_4cfef_14 x0 x1 x3 y0 σ = some res → sv_T Γ 14 [some (.inr (.inr (some (25, x0)))), some (.inl x1), z2, some (.inl x3)] [.inl y0] σ := by
  intro x0 x1 x3 y0 z2 σ h
  refine sv_run X d_Jl_indexOf_4cfef (K := kk_Jl_indexOf_4cfef_14) (sv_lk_all (P := fun pc (k : sv_Lo → List sv_V → sv_S → Option (Int32 × sv_S)) => ∀ lo st σ, k lo st σ = some res → sv_T Γ pc lo st σ) ?_) _ _ _ _ _ ((e_Jl_indexOf_4cfef_14 x0 x1 x3 y0 z2 σ).trans h)
  clear h
  exact fun _ h => absurd h List.not_mem_nil

set_option maxRecDepth 20000 in
theorem w_Jl_indexOf_4cfef_11 {Γ : sv_Ga} {res : Int32 × sv_S} (X : sv_Ok Γ ev_Jl_indexOf_4cfef cJ1_indexOf_4cfef sv_rI res) : ∀ (x0 : Nat) (x1 : Int32) (x3 : Int32) (y0 : Int32) (y1 : Int32) (z2 : Option sv_V) (σ : sv_S), f_Jl_indexOf_4cfef_11 x0 x1 x3 y0 y1 σ = some res → sv_T Γ 11 [some (.inr (.inr (some (25, x0)))), some (.inl x1), z2, some (.inl x3)] [.inl y0, .inl y1] σ := by
  intro x0 x1 x3 y0 y1 z2 σ h
  refine sv_run X d_Jl_indexOf_4cfef (K := kk_Jl_indexOf_4cfef_11) (sv_lk_all (P := fun pc (k : sv_Lo → List sv_V → sv_S → Option (Int32 × sv_S)) => ∀ lo st σ, k lo st σ = some res → sv_T Γ pc lo st σ) ?_) _ _ _ _ _ ((e_Jl_indexOf_4cfef_11 x0 x1 x3 y0 y1 z2 σ).trans h)
  clear h
  refine List.forall_mem_cons.mpr ⟨fun lo st σ h => ?_, fun _ h => absurd h List.not_mem_nil⟩
  · dsimp only at h
    split at h
    · exact w_Jl_indexOf_4cfef_14 X _ _ _ _ _ _ h
    · cases h

set_option maxRecDepth 20000 in
theorem b_Jl_indexOf_4cfef (Γ : sv_Ga) (res : Int32 × sv_S) (X : sv_Ok Γ ev_Jl_indexOf_4cfef cJ1_indexOf_4cfef sv_rI res) (as : List sv_V) (σ : sv_S) (h : n_Jl_indexOf_4cfef as σ = some res) : sv_T Γ 0 (sv_e0 4 as) [] σ := by
  unfold n_Jl_indexOf_4cfef at h
  split at h
  · refine sv_run X d_Jl_indexOf_4cfef (K := kk_Jl_indexOf_4cfef) (sv_lk_all (P := fun pc (k : sv_Lo → List sv_V → sv_S → Option (Int32 × sv_S)) => ∀ lo st σ, k lo st σ = some res → sv_T Γ pc lo st σ) ?_) _ _ _ _ _ ((e_Jl_indexOf_4cfef _ _ _ _ _).trans h)
    clear h
    refine List.forall_mem_cons.mpr ⟨fun lo st σ h => ?_, fun _ h => absurd h List.not_mem_nil⟩
    · dsimp only at h
      split at h
      · exact w_Jl_indexOf_4cfef_11 X _ _ _ _ _ _ _ h
      · cases h
  · cases h
theorem a_Jl_indexOf_4cfef (as : List sv_V) (σ : sv_S) (x : Int32 × sv_S) (h : n_Jl_indexOf_4cfef as σ = some x) : sv_args 4 ev_Jl_indexOf_4cfef.2.2.2.1 as := by
  unfold n_Jl_indexOf_4cfef at h
  split at h
  · exact ⟨Nat.le_of_ble_eq_true rfl, fun _ v hv => by
      simp only [List.mem_cons, List.not_mem_nil, or_false] at hv
      rcases hv with rfl | rfl | rfl | rfl <;> trivial⟩
  · cases h
theorem tw_66 : Cond.initialized "java/lang/Math" ∈ gw_tbl := gw_at 66 (by decide +kernel) rfl
theorem tw_369 : Cond.static Lib.Math.min.name ∈ gw_tbl := gw_at 369 (by decide +kernel) rfl
theorem tw_370 : Cond.code Lib.Math.min.name Lib.Math.min.code 2 (some .int) ∈ gw_tbl := gw_at 370 (by decide +kernel) rfl
theorem tw_405 : Cond.static Lib.Math.max.name ∈ gw_tbl := gw_at 405 (by decide +kernel) rfl
theorem tw_406 : Cond.code Lib.Math.max.name Lib.Math.max.code 2 (some .int) ∈ gw_tbl := gw_at 406 (by decide +kernel) rfl
theorem tw_803 : Cond.methodLink RJ1 88 yJ1_canEncode_9a6ad ∈ gw_tbl := gw_at 803 (by decide +kernel) rfl
theorem tw_804 : Cond.static yJ1_canEncode_9a6ad ∈ gw_tbl := gw_at 804 (by decide +kernel) rfl
theorem tw_805 : Cond.code yJ1_canEncode_9a6ad cJ1_canEncode_9a6ad 1 (some .boolean) ∈ gw_tbl := gw_at 805 (by decide +kernel) rfl
theorem tw_806 : Cond.methodLink RJ1 92 Lib.Math.max.name ∈ gw_tbl := gw_at 806 (by decide +kernel) rfl
theorem tw_807 : Cond.methodLink RJ1 38 Lib.Math.min.name ∈ gw_tbl := gw_at 807 (by decide +kernel) rfl
theorem tw_808 : Cond.methodLink RJ1 95 yJ1_indexOfChar_4cfef ∈ gw_tbl := gw_at 808 (by decide +kernel) rfl
theorem tw_809 : Cond.static yJ1_indexOfChar_4cfef ∈ gw_tbl := gw_at 809 (by decide +kernel) rfl
theorem tw_810 : Cond.code yJ1_indexOfChar_4cfef cJ1_indexOfChar_4cfef 6 (some .int) ∈ gw_tbl := gw_at 810 (by decide +kernel) rfl
set_option maxRecDepth 20000 in
theorem m_Jl_indexOf_4cfef (l : Launch) : sv_M l yJ1_indexOf_4cfef cJ1_indexOf_4cfef 4 (some .int) (sv_gI n_Jl_indexOf_4cfef) 1 := by
  refine sv_mI (E := ev_Jl_indexOf_4cfef) (by decide +kernel) (ln_gen fk_22 kk_22 (sv_ns _ (fun _ => rfl) _)) rfl ?_ a_Jl_indexOf_4cfef b_Jl_indexOf_4cfef
  intro p e R s m args below meth c cells slots Q base ad dC dI cA n0 S hkn hR hf pc n f hcs
  refine sv_lk_all (P := fun pc (x : Nat × sv_F) => sv_cok p l e R s m args below meth c cells slots Q base ad dC dI cA true 4 n0 pc x.1 x.2) ?_ pc (n, f) hcs
  exact List.forall_mem_cons.mpr ⟨(sv_cS S hkn (m_Jl_canEncode_9a6ad l) ⟨Nat.le_trans (by decide) hR.1, Nat.le_trans (by decide) hR.2⟩ (by decide) hf (sv_w4 tw_803 tw_804 tw_70 tw_805) (by decide +kernel) (sv_dc3 d_Jl_indexOf_4cfef (pc := 1) rfl rfl)).I,
      List.forall_mem_cons.mpr ⟨(sv_cmax S ⟨Nat.le_trans (by decide) hR.1, Nat.le_trans (by decide) hR.2⟩ hf (sv_w4 tw_806 tw_405 tw_66 tw_406) (sv_dc3 d_Jl_indexOf_4cfef (pc := 11) rfl rfl)).I,
      List.forall_mem_cons.mpr ⟨(sv_cmin S ⟨Nat.le_trans (by decide) hR.1, Nat.le_trans (by decide) hR.2⟩ hf (sv_w4 tw_807 tw_369 tw_66 tw_370) (sv_dc3 d_Jl_indexOf_4cfef (pc := 18) rfl rfl)).I,
      List.forall_mem_cons.mpr ⟨(sv_cS S hkn (m_Jl_indexOfChar_4cfef l) ⟨Nat.le_trans (by decide) hR.1, Nat.le_trans (by decide) hR.2⟩ (by decide) hf (sv_w4 tw_808 tw_809 tw_70 tw_810) (by decide +kernel) (sv_dc3 d_Jl_indexOf_4cfef (pc := 33) rfl rfl)).I,
      fun _ h => absurd h List.not_mem_nil⟩⟩⟩⟩
noncomputable def f_Js_indexOf_7cf53 (a0 : Nat) (a1 : Int32) (a2 : Int32) (σ : sv_S) : Option (Int32 × sv_S) :=
  sv_b (f_Js_isLatin1_aae02 a0 σ) (fun v1 σ2 =>
    sv_if (v1 = 0)
      (sv_b (f_Js_length_8abf5 a0 σ2) (fun v3 σ4 =>
        none))
      (sv_b (f_Js_length_8abf5 a0 σ2) (fun v5 σ6 =>
        sv_b (f_Jl_indexOf_4cfef a0 a1 a2 v5 σ6) (fun v7 σ8 =>
          some (v7, σ8)))))
noncomputable def n_Js_indexOf_7cf53 : List sv_V → sv_S → Option (Int32 × sv_S)
  | [.inr (.inr (some (23, a0))), .inl a1, .inl a2], σ => f_Js_indexOf_7cf53 a0 a1 a2 σ
  | _, _ => none
def cd_Js_indexOf_7cf53 : sv_C := [(0, (.aload_n 0, (sv_N, (1, (0, []))))), (1, (.invokevirtual 492, (sv_N, (4, (0, []))))), (4, (.ifCond .eq 19, (sv_N, (7, (23, []))))), (7, (.aload_n 0, (sv_N, (8, (0, []))))), (8, (.getfield 9, (sv_N, (11, (0, []))))), (11, (.iload_n 1, (sv_N, (12, (0, []))))), (12, (.iload_n 2, (sv_N, (13, (0, []))))), (13, (.aload_n 0, (sv_N, (14, (0, []))))), (14, (.invokevirtual 505, (sv_N, (17, (0, []))))), (17, (.invokestatic 637, (sv_N, (20, (0, []))))), (20, (.goto 16, (sv_N, (23, (36, []))))), (23, (.aload_n 0, (sv_N, (24, (0, []))))), (24, (.getfield 9, (sv_N, (27, (0, []))))), (27, (.iload_n 1, (sv_N, (28, (0, []))))), (28, (.iload_n 2, (sv_N, (29, (0, []))))), (29, (.aload_n 0, (sv_N, (30, (0, []))))), (30, (.invokevirtual 505, (sv_N, (33, (0, []))))), (33, (.invokestatic 640, (sv_N, (36, (0, []))))), (36, (.ireturn, (sv_N, (37, (0, [])))))]
noncomputable def ev_Js_indexOf_7cf53 : sv_E := (fun i => sv_lk i fl_13, (fun i => sv_lk i kc_13, (fun i => bif Nat.beq i 38 then 2 else 0, (true, (fun pc => sv_lk pc [(1, (1, .inl n_Js_isLatin1_aae02)), (14, (1, .inl n_Js_length_8abf5)), (17, (4, .inl n_Jl_indexOf_4cfef)), (30, (1, .inl n_Js_length_8abf5))], none)))))
noncomputable def kk_Js_indexOf_7cf53 : sv_K (Int32 × sv_S) := fun pc => sv_lk pc []
set_option maxRecDepth 20000 in
theorem e_Js_indexOf_7cf53 (a0 : Nat) (a1 : Int32) (a2 : Int32) (σ : sv_S) : sv_ex ev_Js_indexOf_7cf53 sv_rI kk_Js_indexOf_7cf53 cd_Js_indexOf_7cf53 21 0 [some (.inr (.inr (some (23, a0)))), some (.inl a1), some (.inl a2)] [] σ = f_Js_indexOf_7cf53 a0 a1 a2 σ := by
  unfold f_Js_indexOf_7cf53
  delta ev_Js_indexOf_7cf53 kk_Js_indexOf_7cf53 n_Js_isLatin1_aae02 n_Js_length_8abf5 n_Jl_indexOf_4cfef
  generalize f_Js_isLatin1_aae02 = c0
  generalize f_Js_length_8abf5 = c1
  generalize f_Jl_indexOf_4cfef = c2
  rfl
theorem d_Js_indexOf_7cf53 : cd_Js_indexOf_7cf53.all (sv_dk cJ0_indexOf_7cf53) = true := by decide +kernel
set_option maxRecDepth 20000 in
theorem b_Js_indexOf_7cf53 (Γ : sv_Ga) (res : Int32 × sv_S) (X : sv_Ok Γ ev_Js_indexOf_7cf53 cJ0_indexOf_7cf53 sv_rI res) (as : List sv_V) (σ : sv_S) (h : n_Js_indexOf_7cf53 as σ = some res) : sv_T Γ 0 (sv_e0 3 as) [] σ := by
  unfold n_Js_indexOf_7cf53 at h
  split at h
  · refine sv_run X d_Js_indexOf_7cf53 (K := kk_Js_indexOf_7cf53) (sv_lk_all (P := fun pc (k : sv_Lo → List sv_V → sv_S → Option (Int32 × sv_S)) => ∀ lo st σ, k lo st σ = some res → sv_T Γ pc lo st σ) ?_) _ _ _ _ _ ((e_Js_indexOf_7cf53 _ _ _ _).trans h)
    clear h
    exact fun _ h => absurd h List.not_mem_nil
  · cases h
theorem a_Js_indexOf_7cf53 (as : List sv_V) (σ : sv_S) (x : Int32 × sv_S) (h : n_Js_indexOf_7cf53 as σ = some x) : sv_args 3 ev_Js_indexOf_7cf53.2.2.2.1 as := by
  unfold n_Js_indexOf_7cf53 at h
  split at h
  · exact ⟨Nat.le_of_ble_eq_true rfl, fun _ v hv => by
      simp only [List.mem_cons, List.not_mem_nil, or_false] at hv
      rcases hv with rfl | rfl | rfl <;> trivial⟩
  · cases h
theorem gj_Js_indexOf_7cf53 (as : List sv_V) (σ : sv_S) (x : Option sv_V × sv_S) (h : sv_gI n_Js_indexOf_7cf53 as σ = some x) : ∃ i as', as = sv_R 23 i :: as' := by
  obtain ⟨_, _, h, -⟩ := sv_b_some h
  unfold n_Js_indexOf_7cf53 at h
  split at h
  · exact ⟨_, _, rfl⟩
  · cases h
theorem tw_714 : Cond.instanceMethod yJ0_length_8abf5 ∈ gw_tbl := gw_at 714 (by decide +kernel) rfl
theorem tw_715 : Cond.selects RJ0 yJ0_length_8abf5 yJ0_length_8abf5 ∈ gw_tbl := gw_at 715 (by decide +kernel) rfl
theorem tw_716 : Cond.code yJ0_length_8abf5 cJ0_length_8abf5 1 (some .int) ∈ gw_tbl := gw_at 716 (by decide +kernel) rfl
theorem tw_799 : Cond.methodLink RJ0 505 yJ0_length_8abf5 ∈ gw_tbl := gw_at 799 (by decide +kernel) rfl
theorem tw_800 : Cond.methodLink RJ0 637 yJ1_indexOf_4cfef ∈ gw_tbl := gw_at 800 (by decide +kernel) rfl
theorem tw_801 : Cond.static yJ1_indexOf_4cfef ∈ gw_tbl := gw_at 801 (by decide +kernel) rfl
theorem tw_802 : Cond.code yJ1_indexOf_4cfef cJ1_indexOf_4cfef 4 (some .int) ∈ gw_tbl := gw_at 802 (by decide +kernel) rfl
set_option maxRecDepth 20000 in
theorem m_Js_indexOf_7cf53 (l : Launch) : sv_M l yJ0_indexOf_7cf53 cJ0_indexOf_7cf53 3 (some .int) (sv_gI n_Js_indexOf_7cf53) 2 := by
  refine sv_mI (E := ev_Js_indexOf_7cf53) (by decide +kernel) (ln_gen fk_13 kk_13 gk_13) rfl ?_ a_Js_indexOf_7cf53 b_Js_indexOf_7cf53
  intro p e R s m args below meth c cells slots Q base ad dC dI cA n0 S hkn hR hf pc n f hcs
  refine sv_lk_all (P := fun pc (x : Nat × sv_F) => sv_cok p l e R s m args below meth c cells slots Q base ad dC dI cA true 3 n0 pc x.1 x.2) ?_ pc (n, f) hcs
  exact List.forall_mem_cons.mpr ⟨(sv_cJ S hkn (m_Js_isLatin1_aae02 l) ⟨Nat.le_trans (by decide) hR.1, Nat.le_trans (by decide) hR.2⟩ (by decide) hf gj_Js_isLatin1_aae02 (sv_w5 tw_727 tw_728 tw_729 tw_69 tw_730) (by decide +kernel) (sv_dc3 d_Js_indexOf_7cf53 (pc := 1) rfl rfl)).I,
      List.forall_mem_cons.mpr ⟨(sv_cJ S hkn (m_Js_length_8abf5 l) ⟨Nat.le_trans (by decide) hR.1, Nat.le_trans (by decide) hR.2⟩ (by decide) hf gj_Js_length_8abf5 (sv_w5 tw_799 tw_714 tw_715 tw_69 tw_716) (by decide +kernel) (sv_dc3 d_Js_indexOf_7cf53 (pc := 14) rfl rfl)).I,
      List.forall_mem_cons.mpr ⟨(sv_cS S hkn (m_Jl_indexOf_4cfef l) ⟨Nat.le_trans (by decide) hR.1, Nat.le_trans (by decide) hR.2⟩ (by decide) hf (sv_w4 tw_800 tw_801 tw_70 tw_802) (by decide +kernel) (sv_dc3 d_Js_indexOf_7cf53 (pc := 17) rfl rfl)).I,
      List.forall_mem_cons.mpr ⟨(sv_cJ S hkn (m_Js_length_8abf5 l) ⟨Nat.le_trans (by decide) hR.1, Nat.le_trans (by decide) hR.2⟩ (by decide) hf gj_Js_length_8abf5 (sv_w5 tw_799 tw_714 tw_715 tw_69 tw_716) (by decide +kernel) (sv_dc3 d_Js_indexOf_7cf53 (pc := 30) rfl rfl)).I,
      fun _ h => absurd h List.not_mem_nil⟩⟩⟩⟩
noncomputable def f_Js_indexOf_0f7a4 (a0 : Nat) (a1 : Int32) (σ : sv_S) : Option (Int32 × sv_S) :=
  sv_b (f_Js_indexOf_7cf53 a0 a1 (0 : Int32) σ) (fun v1 σ2 =>
    some (v1, σ2))
noncomputable def n_Js_indexOf_0f7a4 : List sv_V → sv_S → Option (Int32 × sv_S)
  | [.inr (.inr (some (23, a0))), .inl a1], σ => f_Js_indexOf_0f7a4 a0 a1 σ
  | _, _ => none
def cd_Js_indexOf_0f7a4 : sv_C := [(0, (.aload_n 0, (sv_N, (1, (0, []))))), (1, (.iload_n 1, (sv_N, (2, (0, []))))), (2, (.iconst 0, (.inl (0 : Int32), (3, (0, []))))), (3, (.invokevirtual 633, (sv_N, (6, (0, []))))), (6, (.ireturn, (sv_N, (7, (0, [])))))]
noncomputable def ev_Js_indexOf_0f7a4 : sv_E := (fun i => sv_lk i fl_13, (fun i => sv_lk i kc_13, (fun i => bif Nat.beq i 38 then 2 else 0, (true, (fun pc => sv_lk pc [(3, (3, .inl n_Js_indexOf_7cf53))], none)))))
noncomputable def kk_Js_indexOf_0f7a4 : sv_K (Int32 × sv_S) := fun pc => sv_lk pc []
set_option maxRecDepth 20000 in
theorem e_Js_indexOf_0f7a4 (a0 : Nat) (a1 : Int32) (σ : sv_S) : sv_ex ev_Js_indexOf_0f7a4 sv_rI kk_Js_indexOf_0f7a4 cd_Js_indexOf_0f7a4 7 0 [some (.inr (.inr (some (23, a0)))), some (.inl a1)] [] σ = f_Js_indexOf_0f7a4 a0 a1 σ := by
  unfold f_Js_indexOf_0f7a4
  delta ev_Js_indexOf_0f7a4 kk_Js_indexOf_0f7a4 n_Js_indexOf_7cf53
  generalize f_Js_indexOf_7cf53 = c0
  rfl
theorem d_Js_indexOf_0f7a4 : cd_Js_indexOf_0f7a4.all (sv_dk cJ0_indexOf_0f7a4) = true := by decide +kernel
set_option maxRecDepth 20000 in
theorem b_Js_indexOf_0f7a4 (Γ : sv_Ga) (res : Int32 × sv_S) (X : sv_Ok Γ ev_Js_indexOf_0f7a4 cJ0_indexOf_0f7a4 sv_rI res) (as : List sv_V) (σ : sv_S) (h : n_Js_indexOf_0f7a4 as σ = some res) : sv_T Γ 0 (sv_e0 2 as) [] σ := by
  unfold n_Js_indexOf_0f7a4 at h
  split at h
  · refine sv_run X d_Js_indexOf_0f7a4 (K := kk_Js_indexOf_0f7a4) (sv_lk_all (P := fun pc (k : sv_Lo → List sv_V → sv_S → Option (Int32 × sv_S)) => ∀ lo st σ, k lo st σ = some res → sv_T Γ pc lo st σ) ?_) _ _ _ _ _ ((e_Js_indexOf_0f7a4 _ _ _).trans h)
    clear h
    exact fun _ h => absurd h List.not_mem_nil
  · cases h
theorem a_Js_indexOf_0f7a4 (as : List sv_V) (σ : sv_S) (x : Int32 × sv_S) (h : n_Js_indexOf_0f7a4 as σ = some x) : sv_args 2 ev_Js_indexOf_0f7a4.2.2.2.1 as := by
  unfold n_Js_indexOf_0f7a4 at h
  split at h
  · exact ⟨Nat.le_of_ble_eq_true rfl, fun _ v hv => by
      simp only [List.mem_cons, List.not_mem_nil, or_false] at hv
      rcases hv with rfl | rfl <;> trivial⟩
  · cases h
theorem gj_Js_indexOf_0f7a4 (as : List sv_V) (σ : sv_S) (x : Option sv_V × sv_S) (h : sv_gI n_Js_indexOf_0f7a4 as σ = some x) : ∃ i as', as = sv_R 23 i :: as' := by
  obtain ⟨_, _, h, -⟩ := sv_b_some h
  unfold n_Js_indexOf_0f7a4 at h
  split at h
  · exact ⟨_, _, rfl⟩
  · cases h
theorem tw_795 : Cond.methodLink RJ0 633 yJ0_indexOf_7cf53 ∈ gw_tbl := gw_at 795 (by decide +kernel) rfl
theorem tw_796 : Cond.instanceMethod yJ0_indexOf_7cf53 ∈ gw_tbl := gw_at 796 (by decide +kernel) rfl
theorem tw_797 : Cond.selects RJ0 yJ0_indexOf_7cf53 yJ0_indexOf_7cf53 ∈ gw_tbl := gw_at 797 (by decide +kernel) rfl
theorem tw_798 : Cond.code yJ0_indexOf_7cf53 cJ0_indexOf_7cf53 3 (some .int) ∈ gw_tbl := gw_at 798 (by decide +kernel) rfl
set_option maxRecDepth 20000 in
theorem m_Js_indexOf_0f7a4 (l : Launch) : sv_M l yJ0_indexOf_0f7a4 cJ0_indexOf_0f7a4 2 (some .int) (sv_gI n_Js_indexOf_0f7a4) 3 := by
  refine sv_mI (E := ev_Js_indexOf_0f7a4) (by decide +kernel) (ln_gen fk_13 kk_13 gk_13) rfl ?_ a_Js_indexOf_0f7a4 b_Js_indexOf_0f7a4
  intro p e R s m args below meth c cells slots Q base ad dC dI cA n0 S hkn hR hf pc n f hcs
  refine sv_lk_all (P := fun pc (x : Nat × sv_F) => sv_cok p l e R s m args below meth c cells slots Q base ad dC dI cA true 2 n0 pc x.1 x.2) ?_ pc (n, f) hcs
  exact List.forall_mem_cons.mpr ⟨(sv_cJ S hkn (m_Js_indexOf_7cf53 l) ⟨Nat.le_trans (by decide) hR.1, Nat.le_trans (by decide) hR.2⟩ (by decide) hf gj_Js_indexOf_7cf53 (sv_w5 tw_795 tw_796 tw_797 tw_69 tw_798) (by decide +kernel) (sv_dc3 d_Js_indexOf_0f7a4 (pc := 3) rfl rfl)).I,
      fun _ h => absurd h List.not_mem_nil⟩
theorem sb_all6 : ∀ j, j < 6 → (sv_tl.getD j 0 = (sv_tb.getD j []).length ∧ (sv_tb.getD j []).length ≤ 5 ∧ ∀ b ∈ sv_tb.getD j [], b.toInt8.toInt32 = b ∧ b &&& 255 = b) := by decide +kernel
theorem sb_all (j : Nat) : sv_tl.getD j 0 = (sv_tb.getD j []).length ∧ (sv_tb.getD j []).length ≤ 5 ∧ ∀ b ∈ sv_tb.getD j [], b.toInt8.toInt32 = b ∧ b &&& 255 = b := by
  by_cases h : j < 6
  · exact sb_all6 j h
  · have e1 : sv_tl.getD j 0 = 0 := by
      rw [List.getD_eq_getElem?_getD, List.getElem?_eq_none (by show 6 ≤ j; omega)]
      rfl
    have e2 : sv_tb.getD j [] = [] := by
      rw [List.getD_eq_getElem?_getD, List.getElem?_eq_none (by show 6 ≤ j; omega)]
      rfl
    rw [e1, e2]
    exact ⟨rfl, by decide, fun b hb => by cases hb⟩
theorem sb_len (j : Nat) (σ : sv_S) : f_Js_length_8abf5 j σ = some (nI (sv_tl.getD j 0), σ) := by
  obtain ⟨h1, h2, -⟩ := sb_all j
  unfold f_Js_length_8abf5 f_Js_coder_7d493
  rw [sv_if_f (by decide), sv_g_t (by decide)]
  show some (nI (sv_tl.getD j 0) >>> ((0 : Int32) &&& 31), σ) = _
  rw [sc_shr0 (by omega)]
theorem m_Js_length (l : Launch) : sv_M l yJ0_length_8abf5 cJ0_length_8abf5 1 (some .int) (sv_gI n_Js_length) 1 := by
  refine (m_Js_length_8abf5 l).sub (fun as σ x h => ?_)
  obtain ⟨v, τ, h1, h2⟩ := sv_b_some h
  refine sv_gI_of (v := v) (τ := τ) ?_ h2
  unfold n_Js_length at h1
  split at h1
  · unfold n_Js_length_8abf5
    rw [← h1]
    exact sb_len _ _
  · cases h1
theorem sb_isl (j : Nat) (σ : sv_S) : f_Js_isLatin1_aae02 j σ = some (1, σ) := by
  unfold f_Js_isLatin1_aae02
  rw [sv_if_f (by decide), sv_if_t rfl, sv_g_t (by decide)]
theorem sv_in_lt {k : Int32} {n : Nat} (h : sv_in k n) (hn : n < 2 ^ 31) : ¬ k < 0 ∧ k < nI n := by
  obtain ⟨h0, h1⟩ := h
  obtain ⟨i, hi, rfl⟩ := nI_of (x := k) (fun q => by rw [Int32.lt_iff_toInt_lt] at q; simp at q; omega)
  have e : (nI i).toInt = i := nI_toInt hi
  refine ⟨nI_pos hi, nI_lt ?_ hn⟩
  rw [e] at h1
  omega
theorem m_Js_charAt (l : Launch) : sv_M l yJ0_charAt_5068e cJ0_charAt_5068e 2 (some .char) (sv_gI n_Js_charAt) 3 := by
  refine (m_Js_charAt_5068e l).sub (fun as σ x h => ?_)
  obtain ⟨v, τ, h1, h2⟩ := sv_b_some h
  refine sv_gI_of (v := v) (τ := τ) ?_ h2
  unfold n_Js_charAt at h1
  split at h1
  · rename_i j k
    unfold f_Js_charAt at h1
    obtain ⟨hin, h1⟩ := sv_g_some h1
    cases h1
    obtain ⟨e1, e2, e3⟩ := sb_all j
    obtain ⟨g1, g2⟩ := sv_in_lt hin (by omega)
    show f_Js_charAt_5068e j k σ = _
    unfold f_Js_charAt_5068e
    rw [sb_isl]
    show sv_if ((1 : Int32) = 0) _ _ = _
    rw [sv_if_f (by decide)]
    have hb : ((sv_tb.getD j []).getD k.toNatClampNeg 0) &&& 255 = (sv_tb.getD j []).getD k.toNatClampNeg 0 := by
      rw [List.getD_eq_getElem?_getD]
      cases hq : (sv_tb.getD j [])[k.toNatClampNeg]? with
      | none => rfl
      | some b => exact (e3 b (List.mem_of_getElem? hq)).2
    have hc : f_Jl_charAt_3b067 j k σ = some ((sv_tb.getD j []).getD k.toNatClampNeg 0, σ) := by
      unfold f_Jl_charAt_3b067 f_Js_checkIndex_df160
      rw [sv_g_t ⟨g1, g2⟩]
      show sv_g (sv_in k (sv_tl.getD j 0)) _ = _
      rw [sv_g_t hin, sc_c2, hb, sv_g_t]
      rw [← hb]
      exact sc_nar _
    rw [hc]
    show sv_g _ _ = _
    rw [sv_g_t]
    rw [← hb]
    exact sc_nar _
  · cases h1
theorem sb_ixL (j : Nat) (cc : Int32) (σ : sv_S) : ∀ (l : List Int32) (k n : Nat), (sv_tb.getD j []).drop k = l → l.length < n → k ≤ (sv_tb.getD j []).length → f_Jl_indexOfChar_4cfef_7 n j (nI (sv_tl.getD j 0)) cc (nI k) σ = some (sv_ix cc l k, σ) := by
  obtain ⟨e1, e2, e3⟩ := sb_all j
  intro l
  induction l with
  | nil =>
    intro k n e hn hk
    obtain ⟨n, rfl⟩ : ∃ m, n = m + 1 := ⟨n - 1, by simp at hn; omega⟩
    have q : (sv_tb.getD j []).length ≤ k := List.drop_eq_nil_iff.mp e
    rw [f_Jl_indexOfChar_4cfef_7.eq_2, sv_if_t (nI_le (by omega) (by omega))]
    rfl
  | cons b l ih =>
    intro k n e hn hk
    obtain ⟨n, rfl⟩ : ∃ m, n = m + 1 := ⟨n - 1, by simp at hn; omega⟩
    obtain ⟨h1, h2, h3, h4⟩ := sc_dropC e
    have hin : sv_in (nI k) (sv_tl.getD j 0) := by
      have e := nI_toInt (n := k) (by omega)
      exact ⟨by omega, by omega⟩
    rw [f_Jl_indexOfChar_4cfef_7.eq_2, sv_if_f (nI_ge (by omega) (by omega)), sv_g_t hin, nI_clamp (by omega), h2]
    rw [sv_ix]
    by_cases hc : b = cc
    · rw [sv_if_t hc, if_pos hc]
    · rw [sv_if_f hc, if_neg hc, ← nI_succ]
      exact ih (k + 1) n h3 (by simp at hn; omega) (by omega)
theorem sb_ix_same {c d : Int32} : ∀ (l : List Int32) (k : Nat), (∀ b ∈ l, (b = c ↔ b = d)) → sv_ix c l k = sv_ix d l k
  | [], _, _ => rfl
  | b :: l, k, h => by
    rw [sv_ix, sv_ix, sb_ix_same l (k + 1) (fun q hq => h q (List.mem_cons_of_mem _ hq))]
    by_cases hc : b = c
    · rw [if_pos hc, if_pos ((h b List.mem_cons_self).mp hc)]
    · rw [if_neg hc, if_neg (fun q => hc ((h b List.mem_cons_self).mpr q))]
theorem sb_ix_out {c : Int32} : ∀ (l : List Int32) (k : Nat), (∀ b ∈ l, ¬ b = c) → sv_ix c l k = -1
  | [], _, _ => rfl
  | b :: l, k, h => by
    rw [sv_ix, if_neg (h b List.mem_cons_self)]
    exact sb_ix_out l (k + 1) (fun q hq => h q (List.mem_cons_of_mem _ hq))
theorem sb_max0 (σ : sv_S) : f_Jm_max 0 0 σ = some (0, σ) := by
  unfold f_Jm_max
  rw [ite_self]
theorem sb_min0 (x : Int32) (σ : sv_S) : f_Jm_min x x σ = some (x, σ) := by
  unfold f_Jm_min
  rw [ite_self]
theorem sv_b_eq {α β : Type} (a : α) (σ : sv_S) (k : α → sv_S → Option β) : sv_b (some (a, σ)) k = k a σ := rfl
theorem sv_b0_eq {β : Type} (σ : sv_S) (k : sv_S → Option β) : sv_b0 (some σ) k = k σ := rfl
theorem sb_indexOf (j : Nat) (c : Int32) (σ : sv_S) (h0 : 0 ≤ c) : f_Js_indexOf_0f7a4 j c σ = some (sv_ix c (sv_tb.getD j []) 0, σ) := by
  obtain ⟨e1, e2, e3⟩ := sb_all j
  have hn0 : ¬ c < 0 := fun q => Int32.lt_irrefl (Int32.lt_of_lt_of_le q h0)
  obtain ⟨n, hn, rfl⟩ := nI_of (x := c) hn0
  unfold f_Js_indexOf_0f7a4 f_Js_indexOf_7cf53
  rw [sb_isl]
  rw [sv_b_eq, sv_if_f (by decide), sb_len, sv_b_eq]
  have key : f_Jl_indexOf_4cfef j (nI n) 0 (nI (sv_tl.getD j 0)) σ = some (sv_ix (nI n) (sv_tb.getD j []) 0, σ) := by
    unfold f_Jl_indexOf_4cfef f_Jl_canEncode_9a6ad
    rw [sv_if_f hn0]
    by_cases h255 : (255 : Int32) < nI n
    · rw [sv_if_t h255, sv_g_t (by decide)]
      rw [sv_b_eq, sv_if_t rfl, sb_ix_out]
      intro b hb q
      have := (e3 b hb).2
      obtain ⟨i, hi, e2⟩ := pk_andE b (m := 255) 8 (by decide)
      rw [this, q] at e2
      rw [e2] at h255
      exact nI_nlt (a := 255) (b := i) (by omega) (by omega) h255
    · rw [sv_if_f h255, sv_g_t (by decide)]
      rw [sv_b_eq, sv_if_f (by decide)]
      have h256 : n < 256 := by
        rcases Nat.lt_or_ge n 256 with q | q
        · exact q
        · exact absurd (nI_lt (a := 255) (b := n) (by omega) hn) h255
      unfold f_Jl_indexOf_4cfef_11
      rw [sb_max0, sv_b_eq]
      unfold f_Jl_indexOf_4cfef_14
      rw [sb_min0, sv_b_eq]
      have hix : sv_ix (nI n).toInt8.toInt32 (sv_tb.getD j []) 0 = sv_ix (nI n) (sv_tb.getD j []) 0 := sb_ix_same _ _ (fun b hb => by
        rw [sc_eq (e3 b hb).1 h256, (e3 b hb).2])
      have hloop := sb_ixL j (nI n).toInt8.toInt32 σ (sv_tb.getD j []) 0 sv_fu rfl (by unfold sv_fu; omega) (Nat.zero_le _)
      by_cases hp : (0 : Int32) < nI (sv_tl.getD j 0)
      · rw [sv_if_t hp]
        unfold f_Jl_indexOfChar_4cfef
        rw [show (0 : Int32) = nI 0 from rfl, hloop, hix, sv_b_eq]
      · rw [sv_if_f hp]
        have : (sv_tb.getD j []) = [] := by
          rcases Nat.eq_zero_or_pos (sv_tb.getD j []).length with q | q
          · exact List.length_eq_zero_iff.mp q
          · exact absurd (nI_lt (a := 0) (b := sv_tl.getD j 0) (by omega) (by omega)) hp
        rw [this]
        rfl
  rw [key, sv_b_eq, sv_b_eq]
theorem m_Js_indexOf (l : Launch) : sv_M l yJ0_indexOf_0f7a4 cJ0_indexOf_0f7a4 2 (some .int) (sv_gI n_Js_indexOf) 3 := by
  refine (m_Js_indexOf_0f7a4 l).sub (fun as σ x h => ?_)
  obtain ⟨v, τ, h1, h2⟩ := sv_b_some h
  refine sv_gI_of (v := v) (τ := τ) ?_ h2
  unfold n_Js_indexOf at h1
  split at h1
  · unfold f_Js_indexOf at h1
    obtain ⟨⟨g0, -⟩, h1⟩ := sv_g_some h1
    cases h1
    exact sb_indexOf _ _ _ g0
  · cases h1

noncomputable def f_Ja_fill_5 : Nat → Nat → Int32 → Int32 → Int32 → sv_S → Option (sv_S)
  | 0, _, _, _, _, _ => none
  | n + 1, x0, x1, x2, x3, σ =>
    sv_if (x3 ≤ x2)
      (some σ)
      (sv_g (sv_in x2 24) (f_Ja_fill_5 n x0 x1 (x2 + (1 : Int32)) x3 (sv_up σ 13 x0 (x2.toNatClampNeg) x1)))
noncomputable def f_Ja_fill (a0 : Nat) (a1 : Int32) (σ : sv_S) : Option (sv_S) :=
  f_Ja_fill_5 sv_fu a0 a1 (0 : Int32) (nI 24) σ
noncomputable def n_Ja_fill : List sv_V → sv_S → Option (sv_S)
  | [.inr (.inr (some (13, a0))), .inl a1], σ => f_Ja_fill a0 a1 σ
  | _, _ => none
def cd_Ja_fill : sv_C := [(0, (.iconst 0, (.inl (0 : Int32), (1, (0, []))))), (1, (.istore_n 2, (sv_N, (2, (0, []))))), (2, (.aload_n 0, (sv_N, (3, (0, []))))), (3, (.arraylength, (sv_N, (4, (0, []))))), (4, (.istore_n 3, (sv_N, (5, (0, []))))), (5, (.iload_n 2, (sv_N, (6, (0, []))))), (6, (.iload_n 3, (sv_N, (7, (0, []))))), (7, (.if_icmp .ge 13, (sv_N, (10, (20, []))))), (10, (.aload_n 0, (sv_N, (11, (0, []))))), (11, (.iload_n 2, (sv_N, (12, (0, []))))), (12, (.iload_n 1, (sv_N, (13, (0, []))))), (13, (.iastore, (sv_N, (14, (0, []))))), (14, (.iinc 2 1, (.inl (1 : Int32), (17, (0, []))))), (17, (.goto (-12), (sv_N, (20, (5, []))))), (20, (.return_, (sv_N, (21, (0, [])))))]
noncomputable def ev_Ja_fill : sv_E := (fun i => sv_lk i fl_21, (fun i => sv_lk i kc_21, (fun _ => 0, (true, (fun pc => sv_lk pc [], none)))))
noncomputable def kk_Ja_fill_5 (n : Nat) : sv_K (sv_S) := fun pc => sv_lk pc [(5, fun lo st σ => match lo, st with
    | [some (.inr (.inr (some (13, x0)))), some (.inl x1), some (.inl x2), some (.inl x3)], [] => f_Ja_fill_5 n x0 x1 x2 x3 σ
    | _, _ => none)]
set_option maxRecDepth 20000 in
theorem e_Ja_fill_5 (n : Nat) (x0 : Nat) (x1 : Int32) (x2 : Int32) (x3 : Int32) (σ : sv_S) : sv_ex ev_Ja_fill sv_rV (kk_Ja_fill_5 n) cd_Ja_fill 17 5 [some (.inr (.inr (some (13, x0)))), some (.inl x1), some (.inl x2), some (.inl x3)] [] σ = f_Ja_fill_5 (n + 1) x0 x1 x2 x3 σ := by
  rw [f_Ja_fill_5.eq_2]
  delta ev_Ja_fill kk_Ja_fill_5
  generalize f_Ja_fill_5 = c0
  rfl
noncomputable def kk_Ja_fill : sv_K (sv_S) := fun pc => sv_lk pc [(5, fun lo st σ => match lo, st with
    | [some (.inr (.inr (some (13, x0)))), some (.inl x1), some (.inl x2), some (.inl x3)], [] => f_Ja_fill_5 sv_fu x0 x1 x2 x3 σ
    | _, _ => none)]
set_option maxRecDepth 20000 in
theorem e_Ja_fill (a0 : Nat) (a1 : Int32) (σ : sv_S) : sv_ex ev_Ja_fill sv_rV kk_Ja_fill cd_Ja_fill 17 0 [some (.inr (.inr (some (13, a0)))), some (.inl a1), none, none] [] σ = f_Ja_fill a0 a1 σ := by
  unfold f_Ja_fill
  delta ev_Ja_fill kk_Ja_fill
  generalize f_Ja_fill_5 = c0
  rfl
theorem d_Ja_fill : cd_Ja_fill.all (sv_dk cJ7_fill_53178) = true := by decide +kernel
set_option maxRecDepth 20000 in
theorem w_Ja_fill_5 {Γ : sv_Ga} {res : sv_S} (X : sv_Ok Γ ev_Ja_fill cJ7_fill_53178 sv_rV res) : ∀ (n : Nat) (x0 : Nat) (x1 : Int32) (x2 : Int32) (x3 : Int32) (σ : sv_S), f_Ja_fill_5 n x0 x1 x2 x3 σ = some res → sv_T Γ 5 [some (.inr (.inr (some (13, x0)))), some (.inl x1), some (.inl x2), some (.inl x3)] [] σ := by
  intro n
  induction n with
  | zero =>
    intro x0 x1 x2 x3 σ h
    rw [f_Ja_fill_5.eq_1] at h
    cases h
  | succ n ih =>
    intro x0 x1 x2 x3 σ h
    refine sv_run X d_Ja_fill (K := kk_Ja_fill_5 n) (sv_lk_all (P := fun pc (k : sv_Lo → List sv_V → sv_S → Option (sv_S)) => ∀ lo st σ, k lo st σ = some res → sv_T Γ pc lo st σ) ?_) _ _ _ _ _ ((e_Ja_fill_5 n x0 x1 x2 x3 σ).trans h)
    clear h
    refine List.forall_mem_cons.mpr ⟨fun lo st σ h => ?_, fun _ h => absurd h List.not_mem_nil⟩
    · dsimp only at h
      split at h
      · exact ih _ _ _ _ _ h
      · cases h

set_option maxRecDepth 20000 in
theorem b_Ja_fill (Γ : sv_Ga) (res : sv_S) (X : sv_Ok Γ ev_Ja_fill cJ7_fill_53178 sv_rV res) (as : List sv_V) (σ : sv_S) (h : n_Ja_fill as σ = some res) : sv_T Γ 0 (sv_e0 4 as) [] σ := by
  unfold n_Ja_fill at h
  split at h
  · refine sv_run X d_Ja_fill (K := kk_Ja_fill) (sv_lk_all (P := fun pc (k : sv_Lo → List sv_V → sv_S → Option (sv_S)) => ∀ lo st σ, k lo st σ = some res → sv_T Γ pc lo st σ) ?_) _ _ _ _ _ ((e_Ja_fill _ _ _).trans h)
    clear h
    refine List.forall_mem_cons.mpr ⟨fun lo st σ h => ?_, fun _ h => absurd h List.not_mem_nil⟩
    · dsimp only at h
      split at h
      · exact w_Ja_fill_5 X _ _ _ _ _ _ h
      · cases h
  · cases h
theorem a_Ja_fill (as : List sv_V) (σ : sv_S) (x : sv_S) (h : n_Ja_fill as σ = some x) : sv_args 4 ev_Ja_fill.2.2.2.1 as := by
  unfold n_Ja_fill at h
  split at h
  · exact ⟨Nat.le_of_ble_eq_true rfl, fun _ v hv => by
      simp only [List.mem_cons, List.not_mem_nil, or_false] at hv
      rcases hv with rfl | rfl <;> trivial⟩
  · cases h

set_option maxRecDepth 20000 in
theorem m_Ja_fill (l : Launch) : sv_M l yJ7_fill_53178 cJ7_fill_53178 4 none (sv_gV n_Ja_fill) 0 := by
  refine sv_mV (E := ev_Ja_fill) (by decide +kernel) (ln_gen fk_21 kk_21 (sv_ns _ (fun _ => rfl) _)) rfl ?_ a_Ja_fill b_Ja_fill
  intro p e R s m args below meth c cells slots Q base ad dC dI cA n0 S hkn hR hf pc n f hcs
  refine sv_lk_all (P := fun pc (x : Nat × sv_F) => sv_cok p l e R s m args below meth c cells slots Q base ad dC dI cA true 4 n0 pc x.1 x.2) ?_ pc (n, f) hcs
  exact fun _ h => absurd h List.not_mem_nil
