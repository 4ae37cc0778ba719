/-! ===== Arrays.copyOf, Tape.readText ===== -/
theorem tw_218 : Cond.arrayClass .int ∈ gw_tbl := gw_at 218 (by decide +kernel) rfl
theorem tw_232 : Cond.fieldLink "OneStroke$Tape" 25 "OneStroke$Tape" "key" "I" ∈ gw_tbl := gw_at 232 (by decide +kernel) rfl
theorem tw_233 : Cond.fieldLink "OneStroke$Tape" 28 "OneStroke$Tape" "operands" "I" ∈ gw_tbl := gw_at 233 (by decide +kernel) rfl
theorem tw_234 : Cond.fieldLink "OneStroke$Tape" 31 "OneStroke$Tape" "codeCount" "I" ∈ gw_tbl := gw_at 234 (by decide +kernel) rfl
theorem tw_853 : Cond.classLink "OneStroke$Tape" 23 "OneStroke$Text" ∈ gw_tbl := gw_at 853 (by decide +kernel) rfl
theorem tw_854 : Cond.instantiable "OneStroke$Text" 4 ∈ gw_tbl := gw_at 854 (by decide +kernel) rfl
theorem tw_855 : Cond.methodLink "OneStroke$Tape" 34 ⟨"java/util/Arrays", "copyOf", "([II)[I"⟩ ∈ gw_tbl := gw_at 855 (by decide +kernel) rfl
theorem tw_856 : Cond.static ⟨"java/util/Arrays", "copyOf", "([II)[I"⟩ ∈ gw_tbl := gw_at 856 (by decide +kernel) rfl
theorem tw_857 : Cond.code yJ7_copyOf_59c91 cJ7_copyOf_59c91 3 (some (.array .int)) ∈ gw_tbl := gw_at 857 (by decide +kernel) rfl
theorem tw_858 : Cond.methodLink "java/util/Arrays" 316 ⟨"[I", "clone", "()Ljava/lang/Object;"⟩ ∈ gw_tbl := gw_at 858 (by decide +kernel) rfl
theorem tw_859 : Cond.sameMethod "[I" "java/lang/Object" "clone" "()Ljava/lang/Object;" ∈ gw_tbl := gw_at 859 (by decide +kernel) rfl
theorem tw_860 : Cond.native ⟨"java/lang/Object", "clone", "()Ljava/lang/Object;"⟩ ∈ gw_tbl := gw_at 860 (by decide +kernel) rfl
theorem tw_861 : Cond.instanceMethod ⟨"java/lang/Object", "clone", "()Ljava/lang/Object;"⟩ ∈ gw_tbl := gw_at 861 (by decide +kernel) rfl
theorem tw_862 : Cond.selects "[I" ⟨"[I", "clone", "()Ljava/lang/Object;"⟩ ⟨"java/lang/Object", "clone", "()Ljava/lang/Object;"⟩ ∈ gw_tbl := gw_at 862 (by decide +kernel) rfl
theorem tw_864 : Cond.classLink "java/util/Arrays" 317 "[I" ∈ gw_tbl := gw_at 864 (by decide +kernel) rfl
theorem tw_865 : Cond.methodLink "java/util/Arrays" 304 Lib.Math.min.name ∈ gw_tbl := gw_at 865 (by decide +kernel) rfl
theorem tw_866 : Cond.methodLink "java/util/Arrays" 150 arraycopyName ∈ gw_tbl := gw_at 866 (by decide +kernel) rfl
theorem tw_867 : Cond.methodLink "OneStroke$Tape" 40 ⟨"OneStroke$Text", "<init>", "(II[I)V"⟩ ∈ gw_tbl := gw_at 867 (by decide +kernel) rfl
theorem tw_868 : Cond.instanceMethod ⟨"OneStroke$Text", "<init>", "(II[I)V"⟩ ∈ gw_tbl := gw_at 868 (by decide +kernel) rfl
theorem tw_869 : Cond.code yX9_init cX9_init 4 none ∈ gw_tbl := gw_at 869 (by decide +kernel) rfl
theorem dd_cp_0 : decode cJ7_copyOf_59c91 0 = .ok (.iload_n 1, 1) := by decide +kernel
theorem dd_cp_1 : decode cJ7_copyOf_59c91 1 = .ok (.aload_n 0, 1) := by decide +kernel
theorem dd_cp_2 : decode cJ7_copyOf_59c91 2 = .ok (.arraylength, 1) := by decide +kernel
theorem dd_cp_3 : decode cJ7_copyOf_59c91 3 = .ok (.if_icmp .ne 11, 3) := by decide +kernel
theorem dd_cp_6 : decode cJ7_copyOf_59c91 6 = .ok (.aload_n 0, 1) := by decide +kernel
theorem dd_cp_7 : decode cJ7_copyOf_59c91 7 = .ok (.invokevirtual 316, 3) := by decide +kernel
theorem dd_cp_10 : decode cJ7_copyOf_59c91 10 = .ok (.checkcast 317, 3) := by decide +kernel
theorem dd_cp_13 : decode cJ7_copyOf_59c91 13 = .ok (.areturn, 1) := by decide +kernel
theorem dd_cp_14 : decode cJ7_copyOf_59c91 14 = .ok (.iload_n 1, 1) := by decide +kernel
theorem dd_cp_15 : decode cJ7_copyOf_59c91 15 = .ok (.newarray .int, 2) := by decide +kernel
theorem dd_cp_17 : decode cJ7_copyOf_59c91 17 = .ok (.astore_n 2, 1) := by decide +kernel
theorem dd_cp_18 : decode cJ7_copyOf_59c91 18 = .ok (.aload_n 0, 1) := by decide +kernel
theorem dd_cp_19 : decode cJ7_copyOf_59c91 19 = .ok (.iconst 0, 1) := by decide +kernel
theorem dd_cp_20 : decode cJ7_copyOf_59c91 20 = .ok (.aload_n 2, 1) := by decide +kernel
theorem dd_cp_21 : decode cJ7_copyOf_59c91 21 = .ok (.iconst 0, 1) := by decide +kernel
theorem dd_cp_22 : decode cJ7_copyOf_59c91 22 = .ok (.aload_n 0, 1) := by decide +kernel
theorem dd_cp_23 : decode cJ7_copyOf_59c91 23 = .ok (.arraylength, 1) := by decide +kernel
theorem dd_cp_24 : decode cJ7_copyOf_59c91 24 = .ok (.iload_n 1, 1) := by decide +kernel
theorem dd_cp_25 : decode cJ7_copyOf_59c91 25 = .ok (.invokestatic 304, 3) := by decide +kernel
theorem dd_cp_28 : decode cJ7_copyOf_59c91 28 = .ok (.invokestatic 150, 3) := by decide +kernel
theorem dd_cp_31 : decode cJ7_copyOf_59c91 31 = .ok (.aload_n 2, 1) := by decide +kernel
theorem dd_cp_32 : decode cJ7_copyOf_59c91 32 = .ok (.areturn, 1) := by decide +kernel
theorem dd_rt_0 : decode cX8_readText 0 = .ok (.new 23, 3) := by decide +kernel
theorem dd_rt_3 : decode cX8_readText 3 = .ok (.dup, 1) := by decide +kernel
theorem dd_rt_4 : decode cX8_readText 4 = .ok (.aload_n 0, 1) := by decide +kernel
theorem dd_rt_5 : decode cX8_readText 5 = .ok (.getfield 25, 3) := by decide +kernel
theorem dd_rt_8 : decode cX8_readText 8 = .ok (.aload_n 0, 1) := by decide +kernel
theorem dd_rt_9 : decode cX8_readText 9 = .ok (.getfield 28, 3) := by decide +kernel
theorem dd_rt_12 : decode cX8_readText 12 = .ok (.aload_n 0, 1) := by decide +kernel
theorem dd_rt_13 : decode cX8_readText 13 = .ok (.getfield 15, 3) := by decide +kernel
theorem dd_rt_16 : decode cX8_readText 16 = .ok (.aload_n 0, 1) := by decide +kernel
theorem dd_rt_17 : decode cX8_readText 17 = .ok (.getfield 31, 3) := by decide +kernel
theorem dd_rt_20 : decode cX8_readText 20 = .ok (.invokestatic 34, 3) := by decide +kernel
theorem dd_rt_23 : decode cX8_readText 23 = .ok (.invokespecial 40, 3) := by decide +kernel
theorem dd_rt_26 : decode cX8_readText 26 = .ok (.areturn, 1) := by decide +kernel
def tk_cl : Cond := .castable "[I" "java/lang/Cloneable"
def cy_ups (f : Nat → Int32) (L : Nat) : List (Nat × sv_V) := (List.range L).map (fun j => (j, .inl (f j)))
theorem cy_lk1 (g : Nat → sv_V) (j : Nat) : ∀ l : List Nat, j ∈ l → sv_lk j (l.map (fun j => (j, g j))) = some (g j)
  | [], h => by cases h
  | a :: l, h => by
    rw [List.map_cons]
    simp only [sv_lk]
    cases hb : Nat.beq j a with
    | true =>
      have e := Nat.eq_of_beq_eq_true hb
      subst e
      rfl
    | false =>
      rcases List.mem_cons.mp h with e | e
      · subst e
        rw [Nat.beq_refl] at hb
        cases hb
      · exact cy_lk1 g j l e
theorem cy_lk {f : Nat → Int32} {L j : Nat} {df : sv_V} (h : j < L) : hw_lk (cy_ups f L) df j = .inl (f j) := by
  unfold hw_lk cy_ups
  rw [cy_lk1 (fun j => .inl (f j)) j _ (List.mem_range.mpr h)]
  rfl
theorem hf_X9_is (key ops : Int32) (E1 : hw_E) (h0 : ¬ ops < 0) (h1 : ops.toNatClampNeg ≤ 96) : hf_X9_init [sv_R 0 0, .inl key, .inl ops, sv_R 0 1] [.inl (9, [.inl 0, .inl 0, sv_N, sv_N]), E1] = some [.inl (9, [.inl key, .inl ops, sv_R 0 1, sv_R 0 2]), E1, .inr (0, (ops.toNatClampNeg, (.inl 0, [])))] := by
  have e : hf_X9_init [sv_R 0 0, .inl key, .inl ops, sv_R 0 1] [.inl (9, [.inl 0, .inl 0, sv_N, sv_N]), E1] = hw_jn (!(decide (ops < 0)) && (Nat.ble ops.toNatClampNeg 10000 && (Nat.ble (0 + 1) 1 && Nat.ble (0 + ops.toNatClampNeg) 96))) (hw_jn (Nat.ble (0 + 1) 1 && Nat.ble (0 + ops.toNatClampNeg) 96) (some [.inl (9, [.inl key, .inl ops, sv_R 0 1, sv_R 0 2]), E1, .inr (0, (ops.toNatClampNeg, (.inl 0, [])))])) := rfl
  have b1 : Nat.ble ops.toNatClampNeg 10000 = true := Nat.ble_eq_true_of_le (by omega)
  have b2 : Nat.ble (0 + ops.toNatClampNeg) 96 = true := Nat.ble_eq_true_of_le (by omega)
  rw [e, decide_eq_false h0, b1, b2]
  rfl
section TYR
variable {p : Program} {l : Launch} {e : Env} {R : Room} {s : State} {m : MethodId} {args : Array Value} {below : List Frame} {meth : Method} {c : Code} {H : Heap} {locs : List Loc} {cells slots : Nat} {Q : State → Prop}
variable {cc : ByteArray} {pc : Nat} {ls : Array Slot} {rest : List Value} {dC : Nat → ClassId} {dI : Nat → Nat → Nat} {cA : Nat → ClassId} {own : String}
set_option maxHeartbeats 4000000 in
theorem ty_acopy (hx : p.tables.exec = Jvm.exec) (hb : c.code = cc) (hml : c.maxLocals = ls.size) (hown : s.vm.findClass own = some m.cls) (hts : ∀ w ∈ gw_tbl, w.before args s = true) (hK : va_K (dC, dI) vwCl (sv_tys cA) s) {idx : Nat} (hw1 : Cond.methodLink own idx arraycopyName ∈ gw_tbl) (hw2 : Cond.native arraycopyName ∈ gw_tbl) (hw3 : Cond.static arraycopyName ∈ gw_tbl) (hw4 : Cond.initialized "java/lang/System" ∈ gw_tbl) (hR : 1 ≤ R.frames ∧ 64 ≤ R.locals) (hr8 : (rest.map fun v => v.category).sum ≤ 8)
    {a a0 n0 n1 : Nat} {f g : Nat → Int32} (hc0 : H[a0]? = some (arrV (cA 0) n0 (fun k => .int (f k)))) (hc1 : H[a]? = some (arrV (cA 0) n1 (fun k => .int (g k)))) {sp dp n : Int32} (g1 : ¬ sp < 0) (g2 : ¬ dp < 0) (g3 : ¬ n < 0) (g4 : sp.toNatClampNeg + n.toNatClampNeg ≤ n0) (g5 : dp.toNatClampNeg + n.toNatClampNeg ≤ n1) (hdg : decode cc pc = .ok (.invokestatic idx, 3))
    (kk : ∀ (H1 : Heap) (locs1 : List Loc), H1[a]? = some (arrV (cA 0) n1 (fun k => .int (va_cpy f g sp.toNatClampNeg dp.toNatClampNeg n.toNatClampNeg k))) → H1.size = H.size → (∀ q, q ≠ a → H1[q]? = H[q]?) → (∀ z ∈ locs1, z ∈ locs ∨ z.base = a) → W p l e R s m args below meth c H1 locs1 cells slots Q (F0 m (pc + 3) ls rest)) :
    W p l e R s m args below meth c H locs cells slots Q (F0 m pc ls (.int n :: .int dp :: .ref a :: .int sp :: .ref a0 :: rest)) := by
  have nn : ∀ z : Int32, ¬ z < 0 → z.toInt = (z.toNatClampNeg : Int) := by
    intro z hz
    have hz0 : (0 : Int) ≤ z.toInt := by
      have := Int32.not_lt.mp hz
      simpa using Int32.le_iff_toInt_le.mp this
    show z.toInt = ((z.toInt.toNat : Nat) : Int)
    omega
  intro T hT X
  obtain ⟨-, k0, hk0, cm0, hkk0⟩ := (hK.2 0 _ rfl).1 n0 (fun k => .int (f k))
  obtain ⟨-, k1, hk1, cm1, hkk1⟩ := (hK.2 0 _ rfl).1 n1 (fun k => .int (g k))
  have hloc : (rest.map fun v => v.category).sum + (nativeFrameWords "java/lang/System" "arraycopy" 5 + 11) ≤ R.locals := by
    have hnf : nativeFrameWords "java/lang/System" "arraycopy" 5 + 11 ≤ 56 := by decide +kernel
    omega
  obtain ⟨vm', X', step⟩ := X.arraycopy hx hown (hts (Cond.methodLink own idx arraycopyName) hw1) (hts (Cond.native arraycopyName) hw2) (hts (Cond.static arraycopyName) hw3) (hts (Cond.initialized "java/lang/System") hw4) (src := a0) (dst := a) (srcPos := sp) (destPos := dp) (n := n) (by rw [hT]; exact hc0) (by rw [hT]; exact hc1)
    (fun _ h => by cases h) (fun _ h => by cases h) (fun h => by cases h) (fun h => by cases h) hk0 hk1 hkk0 hkk1 (by simp [refKind]) g1 g2 g3
    (by rw [nn sp g1, nn n g3, arrV_size]; omega)
    (by rw [nn dp g2, nn n g3, arrV_size]; omega)
    (fun vm₁ _ k hk => by
      have e : (arrV (cA 0) n0 (fun k => .int (f k))).slots.getD (sp.toNatClampNeg + k) .null = .int (f (sp.toNatClampNeg + k)) := by
        rw [Array.getD_eq_getD_getElem?, arrV_read _ _ (by omega)]
        rfl
      refine ⟨?_, ?_⟩
      · rw [e]; rfl
      · rw [e]; exact trivial)
    (g := F0 m pc ls (.int n :: .int dp :: .ref a :: .int sp :: .ref a0 :: rest)) rfl (by show ls.size = c.maxLocals; rw [hml]) (rest := rest) rfl (by rw [hb]; exact hdg) hR.1 (by show 2 * 0 + _ + _ ≤ _; omega)
  have e1 : copied (arrV (cA 0) n0 (fun k => Value.int (f k))) (arrV (cA 0) n1 (fun k => Value.int (g k))) sp dp n = arrV (cA 0) n1 (fun k => .int (va_cpy f g sp.toNatClampNeg dp.toNatClampNeg n.toNatClampNeg k)) := va_copied (fun z => .int z) (cA 0) (cA 0) f g g4
  rw [e1] at X' step
  have hlt : a < H.size := (Array.getElem?_eq_some_iff.mp hc1).1
  generalize hce : arrV (cA 0) n1 (fun k => .int (va_cpy f g sp.toNatClampNeg dp.toNatClampNeg n.toNatClampNeg k)) = ce at X' step kk
  have hheap : ((T.setVm vm').setCell a ce).heap = H.setIfInBounds a ce := by rw [← hT]; rfl
  obtain ⟨t, a1, b1⟩ := kk (H.setIfInBounds a ce) _ (by simp [Array.getElem?_setIfInBounds, hlt]) (by simp) (fun z hz => by simp [Array.getElem?_setIfInBounds, Ne.symm hz]) (fun z hz => by
      rcases List.mem_append.mp hz with h | h
      · exact Or.inl h
      · obtain ⟨w, -, hw⟩ := List.mem_map.mp h
        exact Or.inr (by rw [← hw])) _ hheap X'
  exact ⟨t, step t a1, b1⟩
set_option maxHeartbeats 4000000 in
theorem ty_clone (hx : p.tables.exec = Jvm.exec) (hb : c.code = cc) (hml : c.maxLocals = ls.size) (hown : s.vm.findClass own = some m.cls) (hts : ∀ w ∈ gw_tbl, w.before args s = true) (hK : va_K (dC, dI) vwCl (sv_tys cA) s) {idx : Nat} (hw1 : Cond.methodLink own idx ⟨"[I", "clone", "()Ljava/lang/Object;"⟩ ∈ gw_tbl) (hcl : va_Nw tk_cl s) (hR : 1 ≤ R.frames ∧ 64 ≤ R.locals) (hr8 : (rest.map fun v => v.category).sum ≤ 8)
    {a N : Nat} {f : Nat → Int32} (hc0 : H[a]? = some (arrV (cA 0) N (fun k => .int (f k)))) (hcells : cells + 1 ≤ R.cells) (hslots : slots + N ≤ R.slots) (hdg : decode cc pc = .ok (.invokevirtual idx, 3))
    (kk : ∀ H1 : Heap, H1[H.size]? = some (arrV (cA 0) N (fun k => .int (f k))) → H1.size = H.size + 1 → (∀ q, q < H.size → H1[q]? = H[q]?) → W p l e R s m args below meth c H1 locs (cells + 1) (slots + N) Q (F0 m (pc + 3) ls (.ref H.size :: rest))) :
    W p l e R s m args below meth c H locs cells slots Q (F0 m pc ls (.ref a :: rest)) := by
  generalize hce : arrV (cA 0) N (fun k => .int (f k)) = ce at hc0 kk
  have hsz : ce.slots.size = N := by rw [← hce]; exact arrV_size _ _ _
  have hvm0 : ce.vm = .none := by rw [← hce]; rfl
  have hcl0 : ce.cls = cA 0 := by rw [← hce]; rfl
  have hcellE : ({ cls := ce.cls, slots := ce.slots } : Cell) = ce := by rw [← hce]; rfl
  have hnm : s.vm.findClass "[I" = some (cA 0) := (hK.2 0 _ rfl).2
  obtain ⟨c0, t0', f1, f2, f3⟩ := Cond.castable_spec (va_Nw.use (A := args) rfl hcl)
  cases hnm.symm.trans f1
  intro T hT X
  have hcellT : T.heap[a]? = some ce := by rw [hT]; exact hc0
  obtain ⟨-, kA, hkA, comp, hkind⟩ := State.isArrayOf_alike X.warmed.alike ((hK.2 0 _ rfl).1 0 (fun _ => .null))
  obtain ⟨-, kS, hkS, compS, hkindS⟩ := (hK.2 0 _ rfl).1 0 (fun _ => .null)
  obtain ⟨vm', X', st⟩ := X.cloneArray hx hown (hts _ hw1) (hts _ tw_859) (hts _ tw_860) (hts _ tw_861) (hts _ tw_862) (a := a) (cell := ce) hcellT (fun k h => by rw [hvm0] at h; cases h) (by rw [hvm0]; exact fun h => by cases h) (by rw [hcl0]; exact hnm) f2 (by rw [hcl0]; exact f3)
    (fun i v hv => by
      rw [hcl0]
      have hk' : T.vm.classes[cA 0]? = some kA := hkA
      have hfit : fits .int v = true := by
        by_cases hi : i < N
        · rw [← hce, arrV_read _ _ hi] at hv
          cases hv
          rfl
        · rw [Array.getElem?_eq_none (by rw [hsz]; omega)] at hv
          cases hv
      simpa [State.fitsSlot, State.slotType?, hk', hkind] using hfit)
    (g := F0 m pc ls (.ref a :: rest)) rfl (by rw [hml]) rfl (by rw [hb]; exact hdg) hR.1 (by show 2 * 0 + _ + 14 ≤ _; omega) hcells (by rw [hsz]; exact hslots) (hloader := by rw [hcl0]; exact Vm.clonesLoader_of_array hkS hkindS)
  rw [hcellE, hsz] at X'
  generalize hH1 : H.push ce = H1
  have z1 : H1.size = H.size + 1 := by rw [← hH1, Array.size_push]
  have e1 : H1[H.size]? = some ce := by rw [← hH1, Array.getElem?_push_size]
  have o1 : ∀ q : Nat, q < H.size → H1[q]? = H[q]? := fun q hq => by rw [← hH1, Array.getElem?_push, if_neg (Nat.ne_of_lt hq)]
  obtain ⟨t, b1, b2⟩ := kk H1 e1 z1 o1 ((T.setVm vm').pushCell ce) (by rw [← hH1, ← hT]; rfl) X'
  refine ⟨t, st t ?_, b2⟩
  rw [hcellE, hT]
  exact b1
end TYR
/-- Arrays.copyOf of a row of 96 ints, with cells w from sz on -/
def cy_Pc (sz : Nat) (dC : Nat → ClassId) (dI : Nat → Nat → Nat) (cA : Nat → ClassId) (a L : Nat) (f : Nat → Int32) (w : List hw_E) : Array Value → State → Prop := fun v U => v = ([.ref a, .int (nI L)] : List Value).toArray ∧ va_K (dC, dI) vwCl (sv_tys cA) U ∧ va_Nw tk_cl U ∧ HW sz dC dI cA w U.heap ∧ U.heap[a]? = some (arrV (cA 0) 96 (fun j => .int (f j))) ∧ a < sz
def cy_Qc (sz : Nat) (dC : Nat → ClassId) (dI : Nat → Nat → Nat) (cA : Nat → ClassId) (L : Nat) (f : Nat → Int32) (w : List hw_E) : Array Value → State → Outcome → State → Prop := fun _ st oc t => oc = .returned (some (.ref (sz + w.length))) ∧ HW sz dC dI cA (w ++ [.inr (0, (L, (.inl 0, cy_ups f L)))]) t.heap ∧ va_F (fun q => sz ≤ q) st t
theorem cy_blind {sz : Nat} {dC : Nat → ClassId} {dI : Nat → Nat → Nat} {cA : Nat → ClassId} {a L : Nat} {f : Nat → Int32} {w : List hw_E} : FrameBlind (cy_Pc sz dC dI cA a L f w) :=
  fun _ U g mk h => ⟨h.1, va_K.moved (u := U) (U := U.calling g mk _) (Vm.Alike.refl U.vm) h.2.1, va_Nw.same rfl rfl h.2.2.1, h.2.2.2⟩
set_option maxHeartbeats 4000000 in
set_option maxRecDepth 20000 in
theorem m_copyOf (l : Launch) (sz : Nat) (dC : Nat → ClassId) (dI : Nat → Nat → Nat) (cA : Nat → ClassId) (a L : Nat) (hL : L ≤ 96) (f : Nat → Int32) (w : List hw_E) : Met l yJ7_copyOf_59c91 (sv_ws yJ7_copyOf_59c91 cJ7_copyOf_59c91 3 (some (.array .int))) (hw_rm 1 1 96) (cy_Pc sz dC dI cA a L f w) (cy_Qc sz dC dI cA L f w) 1 96 (fun q => sz ≤ q) := by
  refine va_MetF (cc := cJ7_copyOf_59c91) (maxL := 3) (ret := some (.array .int)) (by decide) rfl ?_
  intro p e s m args below meth c s₁ B hml hv
  obtain ⟨rfl, hK, hcl, hW, ha, haz⟩ := hv
  have hx := B.exec
  have hb := B.bytes
  have hr := B.returns
  have hts0 := atoms_spec (ws := sv_ws yJ7_copyOf_59c91 cJ7_copyOf_59c91 3 (some (.array .int))) B.pre
  have hts : ∀ w ∈ gw_tbl, w.before ([.ref a, .int (nI L)] : List Value).toArray s = true := fun w hw => hts0 w (List.mem_cons_of_mem _ hw)
  have hown : s.vm.findClass "java/util/Arrays" = some m.cls := findClass_of_methodNamed B.named
  have hlocks := B.notSynchronized
  have hl := lv_entry ([.ref a, .int (nI L)]) (n := 3) (Nat.le_of_ble_eq_true rfl)
  rw [lg_entry_eq]
  generalize (lg_sl ([.ref a, .int (nI L)]) ++ List.replicate (3 - (lg_sl ([.ref a, .int (nI L)])).length) Slot.unset).toArray = ls at hl ⊢
  have hl : lv_has ls 3 [(0, .ref a), (1, .int (nI L))] := hl
  have hS : va_S (fun q => sz ≤ q) s.heap s.heap [] := va_S.rf
  have hR : 1 ≤ (headSpec (sv_ws yJ7_copyOf_59c91 cJ7_copyOf_59c91 3 (some (.array .int))) (hw_rm 1 1 96)).room.frames ∧ 64 ≤ (headSpec (sv_ws yJ7_copyOf_59c91 cJ7_copyOf_59c91 3 (some (.array .int))) (hw_rm 1 1 96)).room.locals := ⟨Nat.le_refl 1, Nat.le_refl 64⟩
  refine lv_iload_n hx hb dd_cp_0 rfl (lv_at hl 1 rfl) ?_
  refine lv_aload_n hx hb dd_cp_1 rfl (lv_at hl 0 rfl) ?_
  refine W.alen (n := nI 96) hx hb ha ((hK.2 0 _ rfl).1 _ _) (by rw [arrV_size]; rfl) rfl rfl dd_cp_2 ?_
  refine lv_icmp_ne (tgt := 14) hx hb dd_cp_3 rfl (fun hne => ?_) (fun he => ?_)
  · refine lv_iload_n hx hb dd_cp_14 rfl (lv_at hl 1 rfl) ?_
    refine hw_newa (t := 0) (atype := .int) hx hb hts hW hS (hK.2 0 _ rfl).2 rfl (by decide) tw_218 (nI_pos (by omega)) (nI_clamp (by omega)) (by omega) (Nat.le_refl 1) (by show 0 + L ≤ 96; omega) dd_cp_15 (fun H1 hW1 hS1 => ?_)
    refine lv_astore_n (lv' := [(2, .ref (sz + w.length)), (0, .ref a), (1, .int (nI L))]) hx hb dd_cp_17 rfl hl (by decide) rfl (fun ls hl => ?_)
    have ha1 : H1[a]? = some (arrV (cA 0) 96 (fun j => .int (f j))) := by rw [hS1.2.1 a (Array.getElem?_eq_some_iff.mp ha).1 (by omega)]; exact ha
    refine lv_aload_n hx hb dd_cp_18 rfl (lv_at hl 1 rfl) ?_
    refine lv_iconst (v := 0) hx hb dd_cp_19 (by decide) ?_
    refine lv_aload_n hx hb dd_cp_20 rfl (lv_at hl 0 rfl) ?_
    refine lv_iconst (v := 0) hx hb dd_cp_21 (by decide) ?_
    refine lv_aload_n hx hb dd_cp_22 rfl (lv_at hl 1 rfl) ?_
    refine W.alen (n := nI 96) hx hb ha1 ((hK.2 0 _ rfl).1 _ _) (by rw [arrV_size]; rfl) rfl rfl dd_cp_23 ?_
    refine lv_iload_n hx hb dd_cp_24 rfl (lv_at hl 2 rfl) ?_
    refine va_mmin hx hb (hml.trans hl.1.symm) hown (hts _ tw_865) (hts _ tw_369) (hts _ tw_66) (hts _ tw_370) hR.1 (by show 4 + 13 ≤ 64; decide) (Nat.le_refl 1) (by show 0 + L ≤ 96; omega) dd_cp_25 ?_
    have hlt : L < 96 := by
      rcases Nat.lt_or_ge L 96 with q | q
      · exact q
      · exact absurd (by rw [show L = 96 by omega]) hne
    rw [if_pos (nI_lt hlt (by omega))]
    refine ty_acopy (f := f) (g := fun _ => 0) (n0 := 96) (n1 := L) hx hb (hml.trans hl.1.symm) hown hts hK tw_866 tw_562 tw_561 tw_68 hR (by decide) ha1 (by have := hw_ar hW1 (k := w.length) (t := 0) (n := L) (df := .inl 0) (ups := []) (by simp); exact this) (by decide) (by decide) (nI_pos (by omega)) (by rw [nI_clamp (by omega)]; show 0 + L ≤ 96; omega) (by rw [nI_clamp (by omega)]; show 0 + L ≤ L; omega) dd_cp_28 (fun H2 locs2 e1 e2 e3 e4 => ?_)
    refine lv_aload_n hx hb dd_cp_31 rfl (lv_at hl 0 rfl) ?_
    have hW2 : HW sz dC dI cA (w ++ [.inr (0, (L, (.inl 0, cy_ups f L)))]) H2 := by
      have := hW1.set (k := w.length) (E := .inr (0, (L, (.inl 0, cy_ups f L)))) e2 e3 (by
        show H2[sz + w.length]? = _
        rw [e1]
        congr 1
        refine arrV_to (fun j hj => ?_)
        rw [cy_lk hj]
        show Value.int _ = Value.int (f j)
        unfold va_cpy
        rw [nI_clamp (by omega), if_pos ⟨Nat.zero_le _, by show j < 0 + L; omega⟩]
        show Value.int (f (0 + (j - 0))) = _
        rw [Nat.zero_add, Nat.sub_zero])
      rw [List.set_append_right _ _ (Nat.le_refl _), Nat.sub_self] at this
      exact this
    have hS2 : va_S (fun q => sz ≤ q) s.heap H2 locs2 := ⟨by rw [e2]; exact hS1.1, fun q h1 h2 => by rw [e3 q (by omega)]; exact hS1.2.1 q h1 h2, fun z hz => by
      rcases e4 z hz with h | h
      · exact hS1.2.2 z h
      · rw [h]; exact Nat.le_add_right _ _⟩
    refine W.widen (k := 1) (n := 96) (Nat.le_refl 1) (by omega) ?_
    exact W.aret hx hb hr (Or.inr ⟨_, rfl⟩) (Or.inr ⟨_, rfl⟩) (fun t ht hWa => ⟨rfl, by rw [ht]; exact hW2, hS2.F ht⟩) hS2.2.2 dd_cp_32
  · have hLe : L = 96 := by
      have := congrArg Int32.toNatClampNeg he
      rw [nI_clamp (by omega), nI_clamp (by omega)] at this
      exact this
    subst hLe
    refine lv_aload_n hx hb dd_cp_6 rfl (lv_at hl 0 rfl) ?_
    refine ty_clone hx hb (hml.trans hl.1.symm) hown hts hK tw_858 hcl hR (by decide) ha (Nat.le_refl 1) (by show 0 + 96 ≤ 96; decide) dd_cp_7 (fun H1 e1 e2 e3 => ?_)
    rw [hW.1] at e1 e2 e3 ⊢
    refine va_castA (D := (dC, dI)) (cl := vwCl) (ws := [(sz + w.length, .inl (cA 0, (96, .inl f)))]) hx hb hown (hts _ tw_864) (fun k q hq => ?_) 0 rfl (hK.2 0 _ rfl).2 dd_cp_10 ?_
    · have hz : k < 1 := (List.getElem?_eq_some_iff.mp hq).1
      rw [show k = 0 by omega] at hq
      cases hq
      exact e1
    · have hS1 : va_S (fun q => sz ≤ q) s.heap H1 [] := hw_S hS hW.1 e2 e3
      have hW1 : HW sz dC dI cA (w ++ [.inr (0, (96, (.inl 0, cy_ups f 96)))]) H1 := hW.push e2 e3 (by
        show H1[sz + w.length]? = _
        rw [e1]
        exact congrArg some (arrV_to (fun j hj => by rw [cy_lk hj]; rfl)))
      exact W.aret hx hb hr (Or.inr ⟨_, rfl⟩) (Or.inr ⟨_, rfl⟩) (fun t ht hWa => ⟨rfl, by rw [ht]; exact hW1, hS1.F ht⟩) hS1.2.2 dd_cp_13
