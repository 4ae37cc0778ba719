/-! ===== contracts of methods by their functions; calls ===== -/
def sv_ws (y : MethodName) (b : ByteArray) (n : Nat) (ret : Option FieldType) : List Cond := .code y b n ret :: gw_tbl
def sv_rm (h : Nat) : Room := { frames := h, cells := 0, slots := 0, locals := 64 * h }
def sv_Pc (base : Nat) (ad : Nat → Nat → Nat) (dC : Nat → ClassId) (dI : Nat → Nat → Nat) (cA : Nat → ClassId) (as : List sv_V) (σ : sv_S) : Array Value → State → Prop := fun v U => v = (as.map (sv_c ad)).toArray ∧ sv_kn base ad dC dI cA U ∧ sv_rep base ad dC dI cA σ U.heap
def sv_Qc (base : Nat) (ad : Nat → Nat → Nat) (dC : Nat → ClassId) (dI : Nat → Nat → Nat) (cA : Nat → ClassId) (n0 : Nat) (r : Option sv_V) (σ' : sv_S) : Array Value → State → Outcome → State → Prop := fun _ st oc t => oc = .returned (r.map (sv_c ad)) ∧ sv_rep base ad dC dI cA σ' t.heap ∧ va_F (fun q => base ≤ q) st t ∧ (∀ v, r = some v → sv_ok n0 v) ∧ sv_ct σ' = n0
abbrev sv_D : Type := List sv_V → sv_S → Option (Option sv_V × sv_S)
/-- the contract of a method whose function is G, at height h -/
def sv_M (l : Launch) (y : MethodName) (b : ByteArray) (n : Nat) (ret : Option FieldType) (G : sv_D) (h : Nat) : Prop :=
  ∀ (base : Nat) (ad : Nat → Nat → Nat) (dC : Nat → ClassId) (dI : Nat → Nat → Nat) (cA : Nat → ClassId) (as : List sv_V) (σ : sv_S) (r : Option sv_V) (σ' : sv_S), G as σ = some (r, σ') → (∀ v ∈ as, sv_ok (sv_ct σ) v) →
    Met l y (sv_ws y b n ret) (sv_rm h) (sv_Pc base ad dC dI cA as σ) (sv_Qc base ad dC dI cA (sv_ct σ) r σ') 0 0 (fun q => base ≤ q)
noncomputable def sv_gI (F : List sv_V → sv_S → Option (Int32 × sv_S)) : sv_D := fun as σ => sv_b (F as σ) (fun v σ => some (some (.inl v), σ))
noncomputable def sv_gV (F : List sv_V → sv_S → Option sv_S) : sv_D := fun as σ => sv_b0 (F as σ) (fun σ => some (none, σ))
noncomputable def sv_gR (q : Nat) (F : List sv_V → sv_S → Option (Nat × sv_S)) : sv_D := fun as σ => sv_b (F as σ) (fun i σ => some (some (sv_R q i), σ))
noncomputable def sv_gT (F : List sv_V → sv_S → Option (Option Nat × sv_S)) : sv_D := fun as σ => sv_bT (F as σ) (fun σ => some (some sv_N, σ)) (fun t σ => some (some (sv_R 18 t), σ))
theorem sv_blind {base : Nat} {ad : Nat → Nat → Nat} {dC : Nat → ClassId} {dI : Nat → Nat → Nat} {cA : Nat → ClassId} {as : List sv_V} {σ : sv_S} : FrameBlind (sv_Pc base ad dC dI cA as σ) :=
  fun _ _ _ _ h => ⟨h.1, h.2.1.same rfl rfl, h.2.2⟩
theorem gw_goodIn {ws : List Cond} (h : ∀ w ∈ ws, w ∈ gw_tbl) : GoodIn gw_tbl ws := fun w hw => ⟨h w hw, gw_good w (h w hw)⟩
theorem sv_ws_in {y : MethodName} {b : ByteArray} {n : Nat} {ret : Option FieldType} (h : Cond.code y b n ret ∈ gw_tbl) : ∀ w ∈ sv_ws y b n ret, w ∈ gw_tbl := List.forall_mem_cons.mpr ⟨h, fun _ q => q⟩
theorem sv_cat2 (v : Value) : v.category ≤ 2 := by rcases lv_cat v with h | h <;> omega
theorem sv_sm8 {ad : Nat → Nat → Nat} {rest : List sv_V} (h : sv_sm rest = true) : ((rest.map (sv_c ad)).map fun v => v.category).sum ≤ 8 := by
  match rest, h with
  | [], _ => simp
  | [a], _ => have := sv_cat2 (sv_c ad a); simp; omega
  | [a, b], _ => have := sv_cat2 (sv_c ad a); have := sv_cat2 (sv_c ad b); simp; omega
  | [a, b, c], _ => have := sv_cat2 (sv_c ad a); have := sv_cat2 (sv_c ad b); have := sv_cat2 (sv_c ad c); simp; omega
  | [a, b, c, d], _ => have := sv_cat2 (sv_c ad a); have := sv_cat2 (sv_c ad b); have := sv_cat2 (sv_c ad c); have := sv_cat2 (sv_c ad d); simp; omega
section SVK
variable {p : Program} {l : Launch} {e : Env} {R : Room} {s : State} {m : MethodId} {args : Array Value} {below : List Frame} {meth : Method} {c : Code} {cells slots : Nat} {Q : State → Prop}
variable {cc : ByteArray} {base : Nat} {ad : Nat → Nat → Nat} {dC : Nat → ClassId} {dI : Nat → Nat → Nat} {cA : Nat → ClassId} {own : String} {nL n0 : Nat} {nl : Bool}
def sv_cg (p : Program) (l : Launch) (e : Env) (R : Room) (s : State) (m : MethodId) (args : Array Value) (below : List Frame) (meth : Method) (c : Code) (cells slots : Nat) (Q : State → Prop) (base : Nat) (ad : Nat → Nat → Nat) (dC : Nat → ClassId) (dI : Nat → Nat → Nat) (cA : Nat → ClassId) (nl : Bool) (nL n0 : Nat) (pc n : Nat) (G : sv_D) : Prop :=
  ∀ (as rest : List sv_V) (lo : sv_Lo) (σ : sv_S) (r : Option sv_V) (σ' : sv_S), as.length = n → sv_sm rest = true → G as σ = some (r, σ') → sv_Wt p l e R s m args below meth c cells slots Q base ad dC dI cA nl nL n0 (pc + 3) lo (r.toList ++ rest) σ' → sv_Wt p l e R s m args below meth c cells slots Q base ad dC dI cA nl nL n0 pc lo (as.reverse ++ rest) σ
theorem sv_cg.I {pc n : Nat} {F : List sv_V → sv_S → Option (Int32 × sv_S)} (h : sv_cg p l e R s m args below meth c cells slots Q base ad dC dI cA nl nL n0 pc n (sv_gI F)) : sv_cok p l e R s m args below meth c cells slots Q base ad dC dI cA nl nL n0 pc n (.inl F) :=
  fun as rest lo σ hn hs v σ' hF hW => h as rest lo σ (some (.inl v)) σ' hn hs (by unfold sv_gI; rw [hF]; rfl) hW
theorem sv_cg.V {pc n : Nat} {F : List sv_V → sv_S → Option sv_S} (h : sv_cg p l e R s m args below meth c cells slots Q base ad dC dI cA nl nL n0 pc n (sv_gV F)) : sv_cok p l e R s m args below meth c cells slots Q base ad dC dI cA nl nL n0 pc n (.inr (.inl F)) :=
  fun as rest lo σ hn hs σ' hF hW => h as rest lo σ none σ' hn hs (by unfold sv_gV; rw [hF]; rfl) hW
theorem sv_cg.Rf {pc n q : Nat} {F : List sv_V → sv_S → Option (Nat × sv_S)} (h : sv_cg p l e R s m args below meth c cells slots Q base ad dC dI cA nl nL n0 pc n (sv_gR q F)) : sv_cok p l e R s m args below meth c cells slots Q base ad dC dI cA nl nL n0 pc n (.inr (.inr (.inl (q, F)))) :=
  fun as rest lo σ hn hs i σ' hF hW => h as rest lo σ (some (sv_R q i)) σ' hn hs (by unfold sv_gR; rw [show F as σ = some (i, σ') from hF]; rfl) hW
theorem sv_cg.T {pc n : Nat} {F : List sv_V → sv_S → Option (Option Nat × sv_S)} (h : sv_cg p l e R s m args below meth c cells slots Q base ad dC dI cA nl nL n0 pc n (sv_gT F)) : sv_cok p l e R s m args below meth c cells slots Q base ad dC dI cA nl nL n0 pc n (.inr (.inr (.inr F))) :=
  fun as rest lo σ hn hs => ⟨fun σ' hF hW => h as rest lo σ (some sv_N) σ' hn hs (by unfold sv_gT; rw [hF]; rfl) hW, fun t σ' hF hW => h as rest lo σ (some (sv_R 18 t)) σ' hn hs (by unfold sv_gT; rw [hF]; rfl) hW⟩
theorem sv_after {H : Heap} {locs : List Loc} {pc : Nat} {ls : Array Slot} {st0 rest : List Value} {a : Array Value} {r : Option sv_V} {σ' : sv_S} (hr : va_Run p l e R s m args below meth c H locs cells slots 0 0 (F0 m pc ls st0) rest (sv_Qc base ad dC dI cA n0 r σ' a) (fun q => base ≤ q)) (hS : va_S (fun q => base ≤ q) s.heap H locs)
    (kk : ∀ (H1 : Heap) (locs1 : List Loc), sv_rep base ad dC dI cA σ' H1 → va_S (fun q => base ≤ q) s.heap H1 locs1 → (∀ v, r = some v → sv_ok n0 v) → sv_ct σ' = n0 → W p l e R s m args below meth c H1 locs1 cells slots Q (F0 m (pc + 3) ls ((r.map (sv_c ad)).toList ++ rest))) : W p l e R s m args below meth c H locs cells slots Q (F0 m pc ls st0) := by
  intro T hT X
  obtain ⟨v, st₀, t, T', L, h0, X', hL, e1, e2, ⟨hv, hrep, ⟨hz, hk⟩, hok, hct⟩, st⟩ := hr T hT X
  cases hv
  rw [h0] at hz hk
  obtain ⟨t2, a1, b1⟩ := kk T'.heap (locs ++ L) (by rw [e1]; exact hrep)
    ⟨Nat.le_trans hS.1 (by rw [e1]; exact hz), fun q h1 h2 => by rw [e1, hk q (Nat.lt_of_lt_of_le h1 hS.1) h2]; exact hS.2.1 q h1 h2, fun q hq => by
      rcases List.mem_append.mp hq with h | h
      · exact hS.2.2 q h
      · exact hL q h⟩ hok hct T' rfl X'
  exact ⟨t2, st t2 a1, b1⟩
/-- behind a call: the rest of the frame is as it was -/
theorem sv_goOn {H : Heap} {locs : List Loc} {pc : Nat} {ls : Array Slot} {lo : sv_Lo} {as rest : List sv_V} {a : Array Value} {st0 : List Value} {r : Option sv_V} {σ' : sv_S} (hr : va_Run p l e R s m args below meth c H locs cells slots 0 0 (F0 m pc ls st0) (rest.map (sv_c ad)) (sv_Qc base ad dC dI cA n0 r σ' a) (fun q => base ≤ q)) (hS : va_S (fun q => base ≤ q) s.heap H locs) (hL : sv_lh ad ls nL lo) (hst : ∀ v ∈ as.reverse ++ rest, sv_ok n0 v) (hlo : ∀ i v, sv_ga lo i = some v → sv_ok n0 v ∧ (nl = true → sv_1 v))
    (hW : sv_Wt p l e R s m args below meth c cells slots Q base ad dC dI cA nl nL n0 (pc + 3) lo (r.toList ++ rest) σ') : W p l e R s m args below meth c H locs cells slots Q (F0 m pc ls st0) := by
  refine sv_after hr hS (fun H1 locs1 hR1 hS1 hok hct => ?_)
  have h := hW H1 locs1 ls hR1 hS1 hL hct (fun v hv => ?_) hlo
  · rw [List.map_append] at h
    have e : List.map (sv_c ad) r.toList = (r.map (sv_c ad)).toList := by cases r <;> rfl
    rw [e] at h
    exact h
  · rcases List.mem_append.mp hv with q | q
    · cases r with
      | none => cases q
      | some w => rw [List.mem_singleton.mp q]; exact hok w rfl
    · exact hst v (List.mem_append_right _ q)
theorem sv_pre {H : Heap} {locs : List Loc} {σ : sv_S} {as : List sv_V} (hkn : sv_kn base ad dC dI cA s) (hR : sv_rep base ad dC dI cA σ H) (hS : va_S (fun q => base ≤ q) s.heap H locs) {As : List Value} (hA : As = as.map (sv_c ad)) : ∀ U : State, U.heap = H → s.WarmedH U.vm → sv_Pc base ad dC dI cA as σ As.toArray U :=
  fun U hU hW => ⟨by rw [hA], hkn.go hW (fun a h1 h2 => by rw [hU]; exact hS.2.1 a h1 h2), by rw [hU]; exact hR⟩
/-- a static method -/
theorem sv_cS (S : CallFix p m c cc nL s args gw_tbl own) (hkn : sv_kn base ad dC dI cA s) {y : MethodName} {b : ByteArray} {mL h n idx pc : Nat} {ret : Option FieldType} {G : sv_D} (hM : sv_M l y b mL ret G h) (hR : h + 1 ≤ R.frames ∧ 64 * (h + 1) ≤ R.locals) (hmL : mL ≤ 45) (hf : cells ≤ R.cells ∧ slots ≤ R.slots)
    (hw : ∀ w ∈ [Cond.methodLink own idx y, Cond.static y, Cond.initialized y.cls, Cond.code y b mL ret], w ∈ gw_tbl) (hd : y.cls ≠ "java/lang/invoke/MethodHandle" ∧ y.cls ≠ "java/lang/invoke/VarHandle" ∧ (parseMethodDescriptor y.desc).map (fun d => d.parameters.length) = some n) (hdg : decode cc pc = .ok (.invokestatic idx, 3)) :
    sv_cg p l e R s m args below meth c cells slots Q base ad dC dI cA nl nL n0 pc n G := by
  intro as rest lo σ r σ' hn hsm hG hWt H locs ls hRp hS hL hct hst hlo
  subst hct
  have has : ∀ v ∈ as, sv_ok (sv_ct σ) v := fun v hv => hst v (List.mem_append_left _ (List.mem_reverse.mpr hv))
  have hgood : GoodIn gw_tbl (va_wsS own idx y (sv_ws y b mL ret)) := gw_goodIn (fun w h => by
    unfold va_wsS at h
    rcases List.mem_append.mp h with h | h
    · exact hw w (by simp only [List.mem_cons, List.not_mem_nil, or_false] at h ⊢; rcases h with h | h | h <;> simp [h])
    · exact sv_ws_in (hw _ (by simp)) w h)
  refine sv_goOn (rest := rest) (va_runS (As := as.map (sv_c ad)) S (hM base ad dC dI cA as σ r σ' hG has) (va_cwS n S.2.2.2.2 hgood rfl rfl rfl hd ⟨hR.1, ?_⟩) ⟨sv_blind, sv_pre hkn hRp hS rfl⟩ rfl (by rw [List.length_map]; exact hn) hL.2.1 (by simp [List.map_append, List.map_reverse]) (lv_room (sv_sm8 hsm)) hdg hf) hS hL hst hlo hWt
  show 8 + (mL + 11) + 64 * h ≤ R.locals
  omega
/-- the receiver -/
theorem sv_recv {H : Heap} {σ : sv_S} {r i ci : Nat} {q : vw_C} (hkn : sv_kn base ad dC dI cA s) (hR : sv_rep base ad dC dI cA σ H) (hl : sv_lv (sv_ct σ) r i) (hk : sv_kd r i = .inl ci) (hq : vwCl[ci]? = some q) : ∃ cellB : Cell, H[ad r i]? = some cellB ∧ cellB.vm.isStatics = false ∧ s.vm.findClass q.1 = some cellB.cls := by
  obtain ⟨cell, q1, q2, q3, -⟩ := (hR.1 r i hl (sv_my_obj hk (List.getElem?_eq_some_iff.mp hq).1)).2.ob hk
  exact ⟨cell, q1, by rw [q3]; rfl, by rw [q2]; exact (hkn.1.1 ci q hq).2.1⟩
/-- a method of the receiver's class -/
theorem sv_cV (S : CallFix p m c cc nL s args gw_tbl own) (hkn : sv_kn base ad dC dI cA s) {y : MethodName} {b : ByteArray} {mL h n idx pc ci : Nat} {q : vw_C} {ret : Option FieldType} {G : sv_D} (hM : sv_M l y b mL ret G h) (hR : h + 1 ≤ R.frames ∧ 64 * (h + 1) ≤ R.locals) (hmL : mL ≤ 45) (hf : cells ≤ R.cells ∧ slots ≤ R.slots)
    (hq : vwCl[ci]? = some q) (hG : ∀ as σ x, G as σ = some x → ∃ r i as', as = sv_R r i :: as' ∧ sv_kd r i = .inl ci) (hw : ∀ w ∈ [Cond.methodLink own idx y, Cond.instanceMethod y, Cond.selects q.1 y y, Cond.initialized q.1, Cond.code y b mL ret], w ∈ gw_tbl)
    (hd : y.cls = q.1 ∧ y.cls ≠ "java/lang/invoke/MethodHandle" ∧ y.cls ≠ "java/lang/invoke/VarHandle" ∧ (parseMethodDescriptor y.desc).map (fun d => d.parameters.length) = some n) (hdg : decode cc pc = .ok (.invokevirtual idx, 3)) :
    sv_cg p l e R s m args below meth c cells slots Q base ad dC dI cA nl nL n0 pc (n + 1) G := by
  intro as rest lo σ r σ' hn hsm hGs hWt H locs ls hRp hS hL hct hst hlo
  subst hct
  have has : ∀ v ∈ as, sv_ok (sv_ct σ) v := fun v hv => hst v (List.mem_append_left _ (List.mem_reverse.mpr hv))
  obtain ⟨r0, i0, as', rfl, hkd⟩ := hG as σ _ hGs
  have hlv : sv_lv (sv_ct σ) r0 i0 := has _ List.mem_cons_self
  have hgood : GoodIn gw_tbl (wsV own idx q.1 y (sv_ws y b mL ret)) := gw_goodIn (fun w h => by
    unfold wsV at h
    rcases List.mem_append.mp h with h | h
    · exact hw w (by simp only [List.mem_cons, List.not_mem_nil, or_false] at h ⊢; rcases h with h | h | h | h <;> simp [h])
    · exact sv_ws_in (hw _ (by simp)) w h)
  have hn' : as'.length = n := by simpa using hn
  refine sv_goOn (rest := rest) (as := sv_R r0 i0 :: as') (va_runV (As := as'.map (sv_c ad)) (b := ad r0 i0) S (hM base ad dC dI cA (sv_R r0 i0 :: as') σ r σ' hGs has) (cwV n S.2.2.2.2 hgood rfl rfl rfl hd ⟨hR.1, ?_⟩) ⟨sv_blind, sv_recv hkn hRp hlv hkd hq, sv_pre (as := sv_R r0 i0 :: as') hkn hRp hS rfl⟩ rfl (by rw [List.length_map]; exact hn') hL.2.1 ?_ (lv_room (sv_sm8 hsm)) hdg hf) hS hL hst hlo hWt
  · show 8 + (mL + 11) + 64 * h ≤ R.locals
    omega
  · simp [List.map_append, List.map_reverse, List.append_assoc]
    rfl
/-- a static method of a nest mate that is private -/
theorem sv_cN (S : CallFix p m c cc nL s args gw_tbl own) (hkn : sv_kn base ad dC dI cA s) {y : MethodName} {b : ByteArray} {mL h n idx pc : Nat} {ret : Option FieldType} {G : sv_D} {host : String} (hM : sv_M l y b mL ret G h) (hR : h + 1 ≤ R.frames ∧ 64 * (h + 1) ≤ R.locals) (hmL : mL ≤ 45) (hf : cells ≤ R.cells ∧ slots ≤ R.slots)
    (hl : va_Nw (.methodLinkNest own idx y host) s) (hw : ∀ w ∈ [Cond.static y, Cond.initialized y.cls, Cond.code y b mL ret], w ∈ gw_tbl) (hd : y.cls ≠ "java/lang/invoke/MethodHandle" ∧ y.cls ≠ "java/lang/invoke/VarHandle" ∧ (parseMethodDescriptor y.desc).map (fun d => d.parameters.length) = some n) (hdg : decode cc pc = .ok (.invokestatic idx, 3)) :
    sv_cg p l e R s m args below meth c cells slots Q base ad dC dI cA nl nL n0 pc n G := by
  intro as rest lo σ r σ' hn hsm hG hWt H locs ls hRp hS hL hct hst hlo
  subst hct
  have has : ∀ v ∈ as, sv_ok (sv_ct σ) v := fun v hv => hst v (List.mem_append_left _ (List.mem_reverse.mpr hv))
  have hgood : GoodIn gw_tbl (sv_ws y b mL ret) := gw_goodIn (sv_ws_in (hw _ (by simp)))
  have hts := S.2.2.2.2
  refine sv_goOn (rest := rest) (va_runSN (As := as.map (sv_c ad)) S (hM base ad dC dI cA as σ r σ' hG has) ⟨va_cnB n hts hgood rfl rfl rfl hl (hts _ (hw _ (by simp))) hd ⟨hR.1, ?_⟩, hts _ (hw _ (by simp)), trivial⟩ ⟨sv_blind, sv_pre hkn hRp hS rfl⟩ rfl (by rw [List.length_map]; exact hn) hL.2.1 (by simp [List.map_append, List.map_reverse]) (lv_room (sv_sm8 hsm)) hdg hf) hS hL hst hlo hWt
  show 8 + (mL + 11) + 64 * h ≤ R.locals
  omega
/-- super.method(..) -/
theorem sv_cU (S : CallFix p m c cc nL s args gw_tbl own) (hkn : sv_kn base ad dC dI cA s) {y : MethodName} {b : ByteArray} {mL h n idx pc : Nat} {ret : Option FieldType} {G : sv_D} (hM : sv_M l y b mL ret G h) (hR : h + 1 ≤ R.frames ∧ 64 * (h + 1) ≤ R.locals) (hmL : mL ≤ 45) (hf : cells ≤ R.cells ∧ slots ≤ R.slots)
    (hG : ∀ as σ x, G as σ = some x → ∃ r i as' ci q, as = sv_R r i :: as' ∧ sv_kd r i = .inl ci ∧ vwCl[ci]? = some q) (hw : ∀ w ∈ [Cond.methodLink own idx y, Cond.sameMethod y.cls y.cls y.name y.desc, Cond.superclass own y.cls, Cond.instanceMethod y, Cond.initialized y.cls, Cond.code y b mL ret], w ∈ gw_tbl)
    (hd : y.name ≠ "<init>" ∧ (parseMethodDescriptor y.desc).map (fun d => d.parameters.length) = some n) (hdg : decode cc pc = .ok (.invokespecial idx, 3)) :
    sv_cg p l e R s m args below meth c cells slots Q base ad dC dI cA nl nL n0 pc (n + 1) G := by
  intro as rest lo σ r σ' hn hsm hGs hWt H locs ls hRp hS hL hct hst hlo
  subst hct
  have has : ∀ v ∈ as, sv_ok (sv_ct σ) v := fun v hv => hst v (List.mem_append_left _ (List.mem_reverse.mpr hv))
  obtain ⟨r0, i0, as', ci, q, rfl, hkd, hq⟩ := hG as σ _ hGs
  have hlv : sv_lv (sv_ct σ) r0 i0 := has _ List.mem_cons_self
  have hgood : GoodIn gw_tbl (va_wsSU own idx y (sv_ws y b mL ret)) := gw_goodIn (fun w h => by
    unfold va_wsSU at h
    rcases List.mem_append.mp h with h | h
    · exact hw w (by simp only [List.mem_cons, List.not_mem_nil, or_false] at h ⊢; rcases h with h | h | h | h | h <;> simp [h])
    · exact sv_ws_in (hw _ (by simp)) w h)
  have hn' : as'.length = n := by simpa using hn
  refine sv_goOn (rest := rest) (as := sv_R r0 i0 :: as') (va_runSU (As := as'.map (sv_c ad)) (b := ad r0 i0) (hkn.1.1 ci q hq).2 S (hM base ad dC dI cA (sv_R r0 i0 :: as') σ r σ' hGs has) (va_cwSU n S.2.2.2.2 hgood rfl rfl rfl hd ⟨hR.1, ?_⟩) ⟨sv_blind, sv_recv hkn hRp hlv hkd hq, sv_pre (as := sv_R r0 i0 :: as') hkn hRp hS rfl⟩ rfl (by rw [List.length_map]; exact hn') hL.2.1 ?_ (lv_room (sv_sm8 hsm)) hdg hf) hS hL hst hlo hWt
  · show 8 + (mL + 11) + 64 * h ≤ R.locals
    omega
  · simp [List.map_append, List.map_reverse, List.append_assoc]
    rfl
/-- a method that the receiver's class inherits or overrides -/
theorem sv_cD (S : CallFix p m c cc nL s args gw_tbl own) (hkn : sv_kn base ad dC dI cA s) {x y : MethodName} {b : ByteArray} {mL h n idx pc ci : Nat} {q : vw_C} {owner : String} {ret : Option FieldType} {G : sv_D} (hM : sv_M l y b mL ret G h) (hf : cells ≤ R.cells ∧ slots ≤ R.slots)
    (hq : vwCl[ci]? = some q) (hG : ∀ as σ x, G as σ = some x → ∃ r i as', as = sv_R r i :: as' ∧ sv_kd r i = .inl ci) (cw : va_CU R s args own q.1 owner idx x y b mL ret (sv_ws y b mL ret) (sv_rm h) 0 0 n) (hdg : decode cc pc = .ok (.invokevirtual idx, 3)) :
    sv_cg p l e R s m args below meth c cells slots Q base ad dC dI cA nl nL n0 pc (n + 1) G := by
  intro as rest lo σ r σ' hn hsm hGs hWt H locs ls hRp hS hL hct hst hlo
  subst hct
  have has : ∀ v ∈ as, sv_ok (sv_ct σ) v := fun v hv => hst v (List.mem_append_left _ (List.mem_reverse.mpr hv))
  obtain ⟨r0, i0, as', rfl, hkd⟩ := hG as σ _ hGs
  have hlv : sv_lv (sv_ct σ) r0 i0 := has _ List.mem_cons_self
  have hn' : as'.length = n := by simpa using hn
  refine sv_goOn (rest := rest) (as := sv_R r0 i0 :: as') (va_runU (As := as'.map (sv_c ad)) (b := ad r0 i0) S (hM base ad dC dI cA (sv_R r0 i0 :: as') σ r σ' hGs has) cw ⟨sv_blind, sv_recv hkn hRp hlv hkd hq, sv_pre (as := sv_R r0 i0 :: as') hkn hRp hS rfl⟩ rfl (by rw [List.length_map]; exact hn') hL.2.1 ?_ (lv_room (sv_sm8 hsm)) hdg hf) hS hL hst hlo hWt
  simp [List.map_append, List.map_reverse, List.append_assoc]
  rfl
theorem sv_cwI (S : CallFix p m c cc nL s args gw_tbl own) {x y : MethodName} {b : ByteArray} {mL h n idx : Nat} {C owner : String} {ret : Option FieldType} (hR : h + 1 ≤ R.frames ∧ 64 * (h + 1) ≤ R.locals) (hmL : mL ≤ 45) (hyx : y = ⟨owner, x.name, x.desc⟩)
    (hw : ∀ w ∈ [Cond.methodLink own idx x, Cond.sameMethod x.cls owner x.name x.desc, Cond.selects C x y, Cond.instanceMethod y, Cond.initialized y.cls, Cond.code y b mL ret], w ∈ gw_tbl) (hd : owner ≠ "java/lang/invoke/MethodHandle" ∧ owner ≠ "java/lang/invoke/VarHandle" ∧ (parseMethodDescriptor x.desc).map (fun d => d.parameters.length) = some n) :
    va_CU R s args own C owner idx x y b mL ret (sv_ws y b mL ret) (sv_rm h) 0 0 n := by
  have hgood : GoodIn gw_tbl (va_wsU own idx C owner x y (sv_ws y b mL ret)) := gw_goodIn (fun w h => by
    unfold va_wsU at h
    rcases List.mem_append.mp h with h | h
    · exact hw w (by simp only [List.mem_cons, List.not_mem_nil, or_false] at h ⊢; rcases h with h | h | h | h | h <;> simp [h])
    · exact sv_ws_in (hw _ (by simp)) w h)
  exact va_cwU n S.2.2.2.2 hgood rfl rfl rfl hyx hd ⟨hR.1, by show 8 + (mL + 11) + 64 * h ≤ R.locals; omega⟩
theorem sv_cwO (S : CallFix p m c cc nL s args gw_tbl own) {x y : MethodName} {b b0 : ByteArray} {mL m0 h n idx : Nat} {C owner : String} {ret r0 : Option FieldType} (hR : h + 1 ≤ R.frames ∧ 64 * (h + 1) ≤ R.locals) (hmL : mL ≤ 45)
    (hw : ∀ w ∈ [Cond.methodLink own idx x, Cond.sameMethod x.cls owner x.name x.desc, Cond.instanceMethod ⟨owner, x.name, x.desc⟩, Cond.selects C x y, Cond.instanceMethod y, Cond.initialized y.cls, Cond.code y b mL ret], w ∈ gw_tbl) (h0 : Cond.code ⟨owner, x.name, x.desc⟩ b0 m0 r0 ∈ gw_tbl) (hd : owner ≠ "java/lang/invoke/MethodHandle" ∧ owner ≠ "java/lang/invoke/VarHandle" ∧ (parseMethodDescriptor x.desc).map (fun d => d.parameters.length) = some n) :
    va_CU R s args own C owner idx x y b mL ret (sv_ws y b mL ret) (sv_rm h) 0 0 n := by
  have hgood : GoodIn gw_tbl (va_wsO own idx C owner x y (sv_ws y b mL ret)) := gw_goodIn (fun w h => by
    unfold va_wsO at h
    rcases List.mem_append.mp h with h | h
    · exact hw w (by simp only [List.mem_cons, List.not_mem_nil, or_false] at h ⊢; rcases h with h | h | h | h | h | h <;> simp [h])
    · exact sv_ws_in (hw _ (by simp)) w h)
  exact va_cwO n S.2.2.2.2 hgood rfl rfl rfl h0 hd ⟨hR.1, by show 8 + (mL + 11) + 64 * h ≤ R.locals; omega⟩
theorem sv_cg.of {pc n : Nat} {G : sv_D} (h : ∀ as σ x, G as σ = some x → ∃ G', G' as σ = some x ∧ sv_cg p l e R s m args below meth c cells slots Q base ad dC dI cA nl nL n0 pc n G') : sv_cg p l e R s m args below meth c cells slots Q base ad dC dI cA nl nL n0 pc n G := by
  intro as rest lo σ r σ' hn hsm hG hWt
  obtain ⟨G', h1, h2⟩ := h as σ _ hG
  exact h2 as rest lo σ r σ' hn hsm h1 hWt
end SVK
