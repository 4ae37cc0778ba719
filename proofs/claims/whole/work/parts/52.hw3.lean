/-! ===== contracts of constructors ===== -/
def hw_nest : List Cond := [.methodLinkNest "OneStroke" 9 ⟨"OneStroke$Kind", "<init>", "()V"⟩ "OneStroke", .methodLinkNest "OneStroke" 12 ⟨"OneStroke$Sleepy", "<init>", "()V"⟩ "OneStroke", .methodLinkNest "OneStroke$Sleepy" 1 ⟨"OneStroke$Kind", "<init>", "()V"⟩ "OneStroke", .methodLinkNest "OneStroke" 15 ⟨"OneStroke$Eager", "<init>", "()V"⟩ "OneStroke", .methodLinkNest "OneStroke$Eager" 3 ⟨"OneStroke$Kind", "<init>", "()V"⟩ "OneStroke", .methodLinkNest "OneStroke" 18 ⟨"OneStroke$Late", "<init>", "()V"⟩ "OneStroke", .methodLinkNest "OneStroke$Late" 1 ⟨"OneStroke$Sleepy", "<init>", "()V"⟩ "OneStroke", .methodLinkNest "OneStroke" 21 ⟨"OneStroke$Traitor", "<init>", "()V"⟩ "OneStroke", .methodLinkNest "OneStroke$Traitor" 3 ⟨"OneStroke$Eager", "<init>", "()V"⟩ "OneStroke", .methodLinkNest "OneStroke" 24 ⟨"OneStroke$Deaf", "<init>", "()V"⟩ "OneStroke", .methodLinkNest "OneStroke$Deaf" 1 ⟨"OneStroke$Kind", "<init>", "()V"⟩ "OneStroke", .methodLinkNest "OneStroke$Line" 21 ⟨"OneStroke$Drummer", "<init>", "()V"⟩ "OneStroke", .methodLinkNest "OneStroke" 72 ⟨"OneStroke$Drummer", "<init>", "()V"⟩ "OneStroke"]
def hw_kn (dC : Nat → ClassId) (dI : Nat → Nat → Nat) (cA : Nat → ClassId) (U : State) : Prop := va_K (dC, dI) vwCl (sv_tys cA) U ∧ hw_fact U cA ∧ ∀ w ∈ hw_nest, va_Nw w U
theorem hw_fact.moved {cA : Nat → ClassId} {u U : State} (hvm : u.vm.Alike U.vm) (h : hw_fact u cA) : hw_fact U cA :=
  ⟨h.1, fun C hC => va_AO.moved hvm (h.2.1 C hC), fun t cv hh => by
    obtain ⟨C, q, a, b, d⟩ := h.2.2 t cv hh
    exact ⟨C, q, a, b, fun comp c0 h1 h2 => by rw [hvm.assignable]; rw [hvm.findClass] at h1 h2; exact d comp c0 h1 h2⟩⟩
theorem hw_nest_is {w : Cond} (hw : w ∈ hw_nest) : ∃ a b c d, w = .methodLinkNest a b c d := by
  simp only [hw_nest, List.mem_cons, List.not_mem_nil, or_false] at hw
  rcases hw with rfl | rfl | rfl | rfl | rfl | rfl | rfl | rfl | rfl | rfl | rfl | rfl | rfl <;> exact ⟨_, _, _, _, rfl⟩
theorem hw_kn.go {dC : Nat → ClassId} {dI : Nat → Nat → Nat} {cA : Nat → ClassId} {s U : State} (h : hw_kn dC dI cA s) (hW : s.WarmedH U.vm) : hw_kn dC dI cA U := ⟨va_K.moved hW.alike h.1, h.2.1.moved hW.alike, fun w hw => by obtain ⟨a, b, c, d, rfl⟩ := hw_nest_is hw; exact va_Nw.warmM hW (h.2.2 _ hw)⟩
theorem hw_kn.same {dC : Nat → ClassId} {dI : Nat → Nat → Nat} {cA : Nat → ClassId} {s U : State} (h : hw_kn dC dI cA s) (hv : U.vm = s.vm) : hw_kn dC dI cA U := by
  have ha : s.vm.Alike U.vm := by rw [hv]; exact Vm.Alike.refl _
  refine ⟨va_K.moved ha h.1, h.2.1.moved ha, fun w hw => ?_⟩
  obtain ⟨a, b, c, d, rfl⟩ := hw_nest_is hw
  exact va_Nw.same rfl hv.symm (h.2.2 _ hw)
def hw_rm (h mc ms : Nat) : Room := { frames := h, cells := mc, slots := ms, locals := 64 * h }
def hw_Pc (base : Nat) (dC : Nat → ClassId) (dI : Nat → Nat → Nat) (cA : Nat → ClassId) (as : List sv_V) (w : List hw_E) : Array Value → State → Prop := fun v U => v = (as.map (sv_c (hw_ad base))).toArray ∧ hw_kn dC dI cA U ∧ HW base dC dI cA w U.heap
def hw_Qc (base : Nat) (dC : Nat → ClassId) (dI : Nat → Nat → Nat) (cA : Nat → ClassId) (w' : List hw_E) : Array Value → State → Outcome → State → Prop := fun _ st oc t => oc = .returned none ∧ HW base dC dI cA w' t.heap ∧ va_F (fun q => base ≤ q) st t
def hw_M (l : Launch) (y : MethodName) (b : ByteArray) (mL : Nat) (F : hw_F) (h mc ms : Nat) : Prop :=
  ∀ (base : Nat) (dC : Nat → ClassId) (dI : Nat → Nat → Nat) (cA : Nat → ClassId) (as : List sv_V) (w w' : List hw_E), F as w = some w' → Met l y (sv_ws y b mL none) (hw_rm h mc ms) (hw_Pc base dC dI cA as w) (hw_Qc base dC dI cA w') mc ms (fun q => base ≤ q)
theorem hw_blind {base : Nat} {dC : Nat → ClassId} {dI : Nat → Nat → Nat} {cA : Nat → ClassId} {as : List sv_V} {w : List hw_E} : FrameBlind (hw_Pc base dC dI cA as w) :=
  fun _ _ _ _ h => ⟨h.1, h.2.1.same rfl, h.2.2⟩
section HWM
variable {p : Program} {l : Launch} {e : Env} {R : Room} {s : State} {m : MethodId} {args : Array Value} {below : List Frame} {meth : Method} {c : Code} {Q : State → Prop}
variable {cc : ByteArray} {base : Nat} {dC : Nat → ClassId} {dI : Nat → Nat → Nat} {cA : Nat → ClassId} {own : String} {nL MC MS : Nat} {X : hw_T}
theorem hw_after {H : Heap} {locs : List Loc} {pc cl sl mc ms : Nat} {ls : Array Slot} {st0 rest : List Value} {a : Array Value} {w' : List hw_E} (hr : va_Run p l e R s m args below meth c H locs cl sl mc ms (F0 m pc ls st0) rest (hw_Qc base dC dI cA w' a) (fun q => base ≤ q)) (hS : va_S (fun q => base ≤ q) s.heap H locs)
    (kk : ∀ (H1 : Heap) (locs1 : List Loc), HW base dC dI cA w' H1 → va_S (fun q => base ≤ q) s.heap H1 locs1 → W p l e R s m args below meth c H1 locs1 (cl + mc) (sl + ms) Q (F0 m (pc + 3) ls rest)) : W p l e R s m args below meth c H locs cl sl Q (F0 m pc ls st0) := by
  intro T hT X
  obtain ⟨v, st₀, t, T', L, h0, X', hL, e1, e2, ⟨hv, hrep, ⟨hz, hk⟩⟩, st⟩ := hr T hT X
  cases hv
  rw [h0] at hz hk
  obtain ⟨t2, a1, b1⟩ := kk T'.heap (locs ++ L) (by rw [e1]; exact hrep)
    ⟨Nat.le_trans hS.1 (by rw [e1]; exact hz), fun q h1 h2 => by rw [e1, hk q (Nat.lt_of_lt_of_le h1 hS.1) h2]; exact hS.2.1 q h1 h2, fun q hq => by
      rcases List.mem_append.mp hq with h | h
      · exact hS.2.2 q h
      · exact hL q h⟩ T' rfl X'
  exact ⟨t2, st t2 a1, b1⟩
/-- a constructor is called -/
theorem hw_cI (S : CallFix p m c cc nL s args gw_tbl own) (hkn : hw_kn dC dI cA s) {y : MethodName} {b : ByteArray} {mL h n idx pc mc ms : Nat} {F : hw_F} (hM : hw_M l y b mL F h mc ms) (hR : h + 1 ≤ R.frames ∧ 64 * (h + 1) ≤ R.locals) (hmL : mL ≤ 45) (hMC : MC ≤ R.cells ∧ MS ≤ R.slots)
    (hF : ∀ as w x, F as w = some x → ∃ r j as', as = sv_R r j :: as') (hw : ∀ w ∈ [Cond.methodLink own idx y, Cond.instanceMethod y, Cond.initialized y.cls, Cond.code y b mL none], w ∈ gw_tbl) (hy : y.name = "<init>")
    (hd : y.cls ≠ "java/lang/invoke/MethodHandle" ∧ y.cls ≠ "java/lang/invoke/VarHandle" ∧ (parseMethodDescriptor y.desc).map (fun d => d.parameters.length) = some n) (hdg : decode cc pc = .ok (.invokespecial idx, 3)) : hw_cok p l e R s m args below meth c Q base dC dI cA nL MC MS pc (n + 1) mc ms F := by
  intro as rest lo w w' cl sl hn hsm hFs h1 h2 hWt H locs ls hW hS hL hlo
  obtain ⟨r, j, as', rfl⟩ := hF as w w' hFs
  have hts := S.2.2.2.2
  have hgood : GoodIn gw_tbl (sv_ws y b mL none) := gw_goodIn (sv_ws_in (hw _ (by simp)))
  have hn' : as'.length = n := by simpa using hn
  refine hw_after (rest := rest.map (sv_c (hw_ad base))) (va_runI (As := as'.map (sv_c (hw_ad base))) (b := hw_ad base r j) S (hM base dC dI cA (sv_R r j :: as') w w' hFs) (cwI n hts hgood rfl rfl rfl (hts _ (hw _ (by simp))) (hts _ (hw _ (by simp))) (hts _ (hw _ (by simp))) hy hd ⟨hR.1, ?_⟩) ⟨hw_blind, fun U hU hWa => ⟨rfl, hkn.go hWa, by rw [hU]; exact hW⟩⟩ rfl (by rw [List.length_map]; exact hn') hL.2.1 ?_ (lv_room (sv_sm8 hsm)) hdg ⟨by have := hMC.1; omega, by have := hMC.2; omega⟩) hS (fun H1 locs1 g1 g2 => hWt H1 locs1 ls g1 g2 hL hlo)
  · show 8 + (mL + 11) + 64 * h ≤ R.locals
    omega
  · simp [List.map_append, List.map_reverse, List.append_assoc]
    rfl
/-- a nest mate's constructor is called -/
theorem hw_cIN (S : CallFix p m c cc nL s args gw_tbl own) (hkn : hw_kn dC dI cA s) {y : MethodName} {b : ByteArray} {mL h n idx pc mc ms : Nat} {F : hw_F} (hM : hw_M l y b mL F h mc ms) (hR : h + 1 ≤ R.frames ∧ 64 * (h + 1) ≤ R.locals) (hmL : mL ≤ 45) (hMC : MC ≤ R.cells ∧ MS ≤ R.slots)
    (hF : ∀ as w x, F as w = some x → ∃ r j as', as = sv_R r j :: as') (hl : Cond.methodLinkNest own idx y "OneStroke" ∈ hw_nest) (hw : ∀ w ∈ [Cond.instanceMethod y, Cond.initialized y.cls, Cond.code y b mL none], w ∈ gw_tbl) (hy : y.name = "<init>")
    (hd : y.cls ≠ "java/lang/invoke/MethodHandle" ∧ y.cls ≠ "java/lang/invoke/VarHandle" ∧ (parseMethodDescriptor y.desc).map (fun d => d.parameters.length) = some n) (hdg : decode cc pc = .ok (.invokespecial idx, 3)) : hw_cok p l e R s m args below meth c Q base dC dI cA nL MC MS pc (n + 1) mc ms F := by
  intro as rest lo w w' cl sl hn hsm hFs h1 h2 hWt H locs ls hW hS hL hlo
  obtain ⟨r, j, as', rfl⟩ := hF as w w' hFs
  have hts := S.2.2.2.2
  have hgood : GoodIn gw_tbl (sv_ws y b mL none) := gw_goodIn (sv_ws_in (hw _ (by simp)))
  have hn' : as'.length = n := by simpa using hn
  refine hw_after (rest := rest.map (sv_c (hw_ad base))) (va_runIN (As := as'.map (sv_c (hw_ad base))) (b := hw_ad base r j) S (hM base dC dI cA (sv_R r j :: as') w w' hFs) ⟨va_cnB n hts hgood rfl rfl rfl (hkn.2.2 _ hl) (hts _ (hw _ (by simp))) hd ⟨hR.1, ?_⟩, hy, hts _ (hw _ (by simp))⟩ ⟨hw_blind, fun U hU hWa => ⟨rfl, hkn.go hWa, by rw [hU]; exact hW⟩⟩ rfl (by rw [List.length_map]; exact hn') hL.2.1 ?_ (lv_room (sv_sm8 hsm)) hdg ⟨by have := hMC.1; omega, by have := hMC.2; omega⟩) hS (fun H1 locs1 g1 g2 => hWt H1 locs1 ls g1 g2 hL hlo)
  · show 8 + (mL + 11) + 64 * h ≤ R.locals
    omega
  · simp [List.map_append, List.map_reverse, List.append_assoc]
    rfl
/-- a static method is called -/
theorem hw_cS (S : CallFix p m c cc nL s args gw_tbl own) (hkn : hw_kn dC dI cA s) {y : MethodName} {b : ByteArray} {mL h n idx pc mc ms : Nat} {F : hw_F} (hM : hw_M l y b mL F h mc ms) (hR : h + 1 ≤ R.frames ∧ 64 * (h + 1) ≤ R.locals) (hmL : mL ≤ 45) (hMC : MC ≤ R.cells ∧ MS ≤ R.slots)
    (hw : ∀ w ∈ [Cond.methodLink own idx y, Cond.static y, Cond.initialized y.cls, Cond.code y b mL none], w ∈ gw_tbl)
    (hd : y.cls ≠ "java/lang/invoke/MethodHandle" ∧ y.cls ≠ "java/lang/invoke/VarHandle" ∧ (parseMethodDescriptor y.desc).map (fun d => d.parameters.length) = some n) (hdg : decode cc pc = .ok (.invokestatic idx, 3)) : hw_cok p l e R s m args below meth c Q base dC dI cA nL MC MS pc n mc ms F := by
  intro as rest lo w w' cl sl hn hsm hFs h1 h2 hWt H locs ls hW hS hL hlo
  have hgood : GoodIn gw_tbl (va_wsS own idx y (sv_ws y b mL none)) := gw_goodIn (fun w h => by
    unfold va_wsS at h
    rcases List.mem_append.mp h with h | h
    · exact hw w (by simp only [List.mem_cons, List.not_mem_nil, or_false] at h ⊢; rcases h with h | h | h <;> simp [h])
    · exact sv_ws_in (hw _ (by simp)) w h)
  refine hw_after (rest := rest.map (sv_c (hw_ad base))) (va_runS (As := as.map (sv_c (hw_ad base))) S (hM base dC dI cA as w w' hFs) (va_cwS n S.2.2.2.2 hgood rfl rfl rfl hd ⟨hR.1, ?_⟩) ⟨hw_blind, fun U hU hWa => ⟨rfl, hkn.go hWa, by rw [hU]; exact hW⟩⟩ rfl (by rw [List.length_map]; exact hn) hL.2.1 (by simp [List.map_append, List.map_reverse]) (lv_room (sv_sm8 hsm)) hdg ⟨by have := hMC.1; omega, by have := hMC.2; omega⟩) hS (fun H1 locs1 g1 g2 => hWt H1 locs1 ls g1 g2 hL hlo)
  show 8 + (mL + 11) + 64 * h ≤ R.locals
  omega
end HWM
/-- a constructor's contract out of the machine -/
theorem hw_mk {l : Launch} {y : MethodName} {cc : ByteArray} {nL h MC MS : Nat} {F : hw_F} {X : hw_T} {cd : hw_Cd} {fu : Nat} (hy : plainFor y = true) (h1 : 1 ≤ h) (hD : cd.all (hw_dk cc) = true)
    (hF : ∀ as w x, F as w = some x → ((sv_l0 as).length ≤ nL ∧ ∀ v ∈ as, sv_1 v) ∧ hw_ex X MC MS cd fu 0 (sv_e0 nL as) [] w 0 0 = some x)
    (hX : ∀ (p : Program) (e : Env) (R : Room) (s : State) (m : MethodId) (args : Array Value) (below : List Frame) (meth : Method) (c : Code) (Q : State → Prop) (base : Nat) (dC : Nat → ClassId) (dI : Nat → Nat → Nat) (cA : Nat → ClassId), CallFix p m c cc nL s args gw_tbl y.cls → hw_kn dC dI cA s → meth.name = y.name → (h ≤ R.frames ∧ 64 * h ≤ R.locals) → (MC ≤ R.cells ∧ MS ≤ R.slots) → hw_ok p l e R s m args below meth c Q base dC dI cA y.cls nL MC MS X) : hw_M l y cc nL F h MC MS := by
  intro base dC dI cA as w w' hFs
  obtain ⟨⟨hll, h1v⟩, hex⟩ := hF as w w' hFs
  refine va_MetF (cc := cc) (maxL := nL) (ret := none) hy rfl ?_
  intro p e s m args below meth c s₁ B hml hv
  obtain ⟨rfl, hkn, hW⟩ := hv
  have hx := B.exec
  have hb := B.bytes
  have hr := B.returns
  have hts := atoms_spec (ws := sv_ws y cc nL none) B.pre
  have hts' : ∀ w ∈ gw_tbl, w.before (List.map (sv_c (hw_ad base)) as).toArray s = true := fun w hw => hts w (List.mem_cons_of_mem _ hw)
  have hown : s.vm.findClass y.cls = some m.cls := findClass_of_methodNamed B.named
  have hnm : meth.name = y.name := (name_of_methodNamed B.named B.method).1
  have hlocks := B.notSynchronized
  have hl := lv_entry (as.map (sv_c (hw_ad base))) (n := nL) (by rw [← sv_l0_len (hw_ad base)]; exact hll)
  rw [lg_entry_eq]
  generalize (lg_sl (as.map (sv_c (hw_ad base))) ++ List.replicate (nL - (lg_sl (as.map (sv_c (hw_ad base)))).length) Slot.unset).toArray = ls at hl ⊢
  have hL : sv_lh (hw_ad base) ls nL (sv_e0 nL as) := by
    refine ⟨?_, ?_⟩
    · unfold sv_e0
      rw [List.length_append, List.length_replicate]
      omega
    · unfold sv_e0
      rw [sv_ll_l0]
      exact hl
  have hS : va_S (fun q => base ≤ q) s.heap s.heap [] := va_S.rf
  have hrm : (headSpec (sv_ws y cc nL none) (hw_rm h MC MS)).room = hw_rm h MC MS := rfl
  refine hw_ex_ok (own := y.cls) (MC := MC) (MS := MS) (X := X) hx hb hml hts' hown hkn.1 ck_all ⟨Nat.le_refl _, Nat.le_refl _, h1, by show 20 ≤ 64 * h; omega⟩ (hX p e _ s m _ below meth c _ base dC dI cA ⟨hx, hb, hml, hown, hts'⟩ hkn hnm ⟨Nat.le_refl _, Nat.le_refl _⟩ ⟨Nat.le_refl _, Nat.le_refl _⟩) hkn.2.1 ?_ hD fu 0 (sv_e0 nL as) [] w 0 0 hex s.heap [] ls hW hS hL (fun i v hi => h1v v (sv_ga_l0 as _ i v hi))
  intro pc lo cl sl hdg hc1 hc2 H1 locs1 ls1 g1 g2 g3 g4
  refine W.widen (k := MC) (n := MS) hc1 hc2 ?_
  exact W.vret hx hb hr (fun t ht hWa => ⟨rfl, by rw [ht]; exact g1, g2.F ht⟩) g2.2.2 hdg
