/-! ===== cells that a constructor makes ===== -/
abbrev hw_E : Type := (Nat × List sv_V) ⊕ (Nat × (Nat × (sv_V × List (Nat × sv_V))))
def hw_ad (base : Nat) : Nat → Nat → Nat := fun _ i => base + i
def hw_lk (ups : List (Nat × sv_V)) (df : sv_V) (j : Nat) : sv_V := (sv_lk j ups).getD df
def hw_at (base : Nat) (dC : Nat → ClassId) (dI : Nat → Nat → Nat) (cA : Nat → ClassId) (k : Nat) (E : hw_E) (H : Heap) : Prop := match E with
  | .inl (c, fs) => t_OB (base + k) (dC c) (sv_nf c) (dI c) H (fun j => sv_c (hw_ad base) (fs.getD j sv_N))
  | .inr (t, (n, (df, ups))) => H[base + k]? = some (arrV (cA t) n (fun j => sv_c (hw_ad base) (hw_lk ups df j)))
/-- the heap's new end: one cell after the other -/
def HW (base : Nat) (dC : Nat → ClassId) (dI : Nat → Nat → Nat) (cA : Nat → ClassId) (w : List hw_E) (H : Heap) : Prop := H.size = base + w.length ∧ ∀ (k : Nat) (E : hw_E), w[k]? = some E → hw_at base dC dI cA k E H
theorem hw_at.kept {base : Nat} {dC : Nat → ClassId} {dI : Nat → Nat → Nat} {cA : Nat → ClassId} {k : Nat} {E : hw_E} {H H1 : Heap} (h : hw_at base dC dI cA k E H) (hq : H1[base + k]? = H[base + k]?) : hw_at base dC dI cA k E H1 := by
  unfold hw_at at h ⊢
  split
  · exact t_OB.kept h hq
  · exact hq.trans h
theorem HW.push {base : Nat} {dC : Nat → ClassId} {dI : Nat → Nat → Nat} {cA : Nat → ClassId} {w : List hw_E} {E : hw_E} {H H1 : Heap} (h : HW base dC dI cA w H) (hz : H1.size = base + w.length + 1) (ho : ∀ q, q < base + w.length → H1[q]? = H[q]?) (hn : hw_at base dC dI cA w.length E H1) : HW base dC dI cA (w ++ [E]) H1 := by
  refine ⟨by rw [List.length_append]; exact hz, fun k E' hk => ?_⟩
  by_cases g : k < w.length
  · rw [List.getElem?_append_left g] at hk
    exact (h.2 k E' hk).kept (ho _ (by omega))
  · have hl : k < (w ++ [E]).length := (List.getElem?_eq_some_iff.mp hk).1
    rw [List.length_append] at hl
    have e : k = w.length := by simp at hl; omega
    subst e
    rw [List.getElem?_append_right (Nat.le_refl _), Nat.sub_self] at hk
    cases hk
    exact hn
theorem HW.set {base : Nat} {dC : Nat → ClassId} {dI : Nat → Nat → Nat} {cA : Nat → ClassId} {w : List hw_E} {E : hw_E} {H H1 : Heap} {k : Nat} (h : HW base dC dI cA w H) (hz : H1.size = H.size) (ho : ∀ q, q ≠ base + k → H1[q]? = H[q]?) (hn : hw_at base dC dI cA k E H1) : HW base dC dI cA (w.set k E) H1 := by
  refine ⟨by rw [List.length_set, hz]; exact h.1, fun j E' hj => ?_⟩
  by_cases g : j = k
  · subst g
    have hl : j < (w.set j E).length := (List.getElem?_eq_some_iff.mp hj).1
    rw [List.getElem?_set_self (by rw [List.length_set] at hl; exact hl)] at hj
    cases hj
    exact hn
  · rw [List.getElem?_set_ne (fun q => g q.symm)] at hj
    exact (h.2 j E' hj).kept (ho _ (by omega))
theorem hw_ob {base : Nat} {dC : Nat → ClassId} {dI : Nat → Nat → Nat} {cA : Nat → ClassId} {w : List hw_E} {H : Heap} (h : HW base dC dI cA w H) {k ci : Nat} {fs : List sv_V} (hk : w[k]? = some (.inl (ci, fs))) : t_OB (base + k) (dC ci) (sv_nf ci) (dI ci) H (fun j => sv_c (hw_ad base) (fs.getD j sv_N)) := h.2 k _ hk
theorem hw_ar {base : Nat} {dC : Nat → ClassId} {dI : Nat → Nat → Nat} {cA : Nat → ClassId} {w : List hw_E} {H : Heap} (h : HW base dC dI cA w H) {k t n : Nat} {df : sv_V} {ups : List (Nat × sv_V)} (hk : w[k]? = some (.inr (t, (n, (df, ups))))) : H[base + k]? = some (arrV (cA t) n (fun j => sv_c (hw_ad base) (hw_lk ups df j))) := h.2 k _ hk
theorem hw_lk_up {ups : List (Nat × sv_V)} {df v : sv_V} {x j : Nat} : hw_lk ((x, v) :: ups) df j = if j = x then v else hw_lk ups df j := by
  unfold hw_lk
  simp only [sv_lk]
  by_cases g : j = x
  · subst g
    rw [if_pos rfl]
    simp
  · rw [if_neg g]
    have : Nat.beq j x = false := by
      cases hb : Nat.beq j x with
      | true => exact absurd (Nat.eq_of_beq_eq_true hb) g
      | false => rfl
    rw [this]
    rfl
theorem hw_S {A : Nat → Prop} {H0 H H1 : Heap} {locs : List Loc} {n : Nat} (hS : va_S A H0 H locs) (hn : H.size = n) (hz : H1.size = n + 1) (ho : ∀ q, q < n → H1[q]? = H[q]?) : va_S A H0 H1 locs := ⟨by have := hS.1; omega, fun x h1 h2 => (ho x (by have := hS.1; omega)).trans (hS.2.1 x h1 h2), hS.2.2⟩
section HWR
variable {p : Program} {l : Launch} {e : Env} {R : Room} {s : State} {m : MethodId} {args : Array Value} {below : List Frame} {meth : Method} {c : Code} {H : Heap} {locs : List Loc} {cells slots : Nat} {Q : State → Prop}
variable {cc : ByteArray} {pc : Nat} {ls : Array Slot} {rest : List Value} {base : Nat} {dC : Nat → ClassId} {dI : Nat → Nat → Nat} {cA : Nat → ClassId} {own : String} {w : List hw_E}
theorem hw_new (hx : p.tables.exec = Jvm.exec) (hb : c.code = cc) (hts : ∀ w ∈ gw_tbl, w.before args s = true) (hown : s.vm.findClass own = some m.cls) (hK : va_K (dC, dI) vwCl (sv_tys cA) s) (hW : HW base dC dI cA w H) (hS : va_S (fun q => base ≤ q) s.heap H locs) {ci idx : Nat} {q : vw_C} (hq : vwCl[ci]? = some q) (hck : sv_ck ci q) {tyf : Nat → FieldType} (hty : ∀ k, k < q.2.2 → parseFieldDescriptor (q.2.1 k).2.2.1 = some (tyf k)) {fs : List sv_V} (hfs : ∀ k, k < q.2.2 → defaultValue (tyf k) = sv_c (hw_ad base) (fs.getD k sv_N))
    (hcl : Cond.classLink own idx q.1 ∈ gw_tbl) (hins : Cond.instantiable q.1 q.2.2 ∈ gw_tbl) (hini : Cond.initialized q.1 ∈ gw_tbl) (hcells : cells + 1 ≤ R.cells) (hslots : slots + q.2.2 ≤ R.slots) (hdg : decode cc pc = .ok (.new idx, 3))
    (kk : ∀ H1, HW base dC dI cA (w ++ [.inl (ci, fs)]) H1 → va_S (fun q => base ≤ q) s.heap H1 locs → W p l e R s m args below meth c H1 locs (cells + 1) (slots + q.2.2) Q (F0 m (pc + 3) ls (.ref (base + w.length) :: rest))) : W p l e R s m args below meth c H locs cells slots Q (F0 m pc ls rest) := by
  have hKn := hK.1 ci _ hq
  refine W.newcK hx hb hown (hts _ hcl) (hts _ hins) (hts _ hini) rfl hdg hcells hslots hKn.2.1 hW.1 fun H1 kC hkC e1 z1 o1 => ?_
  refine kk H1 (hW.push z1 o1 ?_) (hw_S hS hW.1 z1 o1)
  have h1 := u_born tyf hts hck.2.1 hKn hkC e1 hty
  have h2 := h1.to hfs
  rw [hck.1] at h2
  exact h2
theorem hw_newa (hx : p.tables.exec = Jvm.exec) (hb : c.code = cc) (hts : ∀ w ∈ gw_tbl, w.before args s = true) (hW : HW base dC dI cA w H) (hS : va_S (fun q => base ≤ q) s.heap H locs) {atype : ArrayType} {t : Nat} (hfc : s.vm.findClass ("[" ++ (newarray.typeOf atype).toString) = some (cA t)) (hdf : defaultValue (newarray.typeOf atype) = .int 0) (hcb : componentBytes (newarray.typeOf atype) ≤ 4) (harr : Cond.arrayClass (newarray.typeOf atype) ∈ gw_tbl)
    {n : Int32} {N : Nat} (hn : ¬ n < 0) (hN : n.toNatClampNeg = N) (hN2 : N ≤ 10000) (hcells : cells + 1 ≤ R.cells) (hslots : slots + N ≤ R.slots) (hdg : decode cc pc = .ok (.newarray atype, 2))
    (kk : ∀ H1, HW base dC dI cA (w ++ [.inr (t, (N, (.inl 0, [])))]) H1 → va_S (fun q => base ≤ q) s.heap H1 locs → W p l e R s m args below meth c H1 locs (cells + 1) (slots + N) Q (F0 m (pc + 2) ls (.ref (base + w.length) :: rest))) : W p l e R s m args below meth c H locs cells slots Q (F0 m pc ls (.int n :: rest)) := by
  refine va_newaK hx hb (hts _ harr) rfl hdg rfl hn hN (by have := Nat.mul_le_mul hN2 hcb; omega) hcells hslots hW.1 fun H1 cA' e1 z1 o1 _ hNm => ?_
  have ec : cA' = cA t := Option.some.inj (hNm.symm.trans hfc)
  subst ec
  refine kk H1 (hW.push z1 o1 ?_) (hw_S hS hW.1 z1 o1)
  show H1[base + w.length]? = _
  rw [e1, hdf]
  rfl
theorem hw_anew (hx : p.tables.exec = Jvm.exec) (hb : c.code = cc) (hts : ∀ w ∈ gw_tbl, w.before args s = true) (hown : s.vm.findClass own = some m.cls) (hK : va_K (dC, dI) vwCl (sv_tys cA) s) (hW : HW base dC dI cA w H) (hS : va_S (fun q => base ≤ q) s.heap H locs) {t idx : Nat} {C : String} (ht : (sv_tys cA)[t]? = some (cA t, .object C)) (hcl : Cond.classLink own idx C ∈ gw_tbl) (hover : va_AO C s)
    {n : Int32} {N : Nat} (hn : ¬ n < 0) (hN : n.toNatClampNeg = N) (hN2 : N ≤ 10000) (hcells : cells + 1 ≤ R.cells) (hslots : slots + N ≤ R.slots) (hdg : decode cc pc = .ok (.anewarray idx, 3))
    (kk : ∀ H1, HW base dC dI cA (w ++ [.inr (t, (N, (sv_N, [])))]) H1 → va_S (fun q => base ≤ q) s.heap H1 locs → W p l e R s m args below meth c H1 locs (cells + 1) (slots + N) Q (F0 m (pc + 3) ls (.ref (base + w.length) :: rest))) : W p l e R s m args below meth c H locs cells slots Q (F0 m pc ls (.int n :: rest)) := by
  subst hN
  refine W.anew hx hb hown (hts _ hcl) hover.use rfl hdg rfl hn (by omega) hcells hslots fun cA' kA comp h1 _ _ _ => ?_
  obtain ⟨-, -, -, -, -, h4⟩ := (hK.2 t _ ht).2
  have ec : cA' = cA t := Option.some.inj (h1.symm.trans h4)
  subst ec
  have hz : (H.push { cls := cA t, slots := Array.replicate n.toNatClampNeg Value.null, vm := .none }).size = base + w.length + 1 := by rw [Array.size_push, hW.1]
  have ho : ∀ q, q < base + w.length → (H.push { cls := cA t, slots := Array.replicate n.toNatClampNeg Value.null, vm := .none })[q]? = H[q]? := fun q hq => by rw [Array.getElem?_push, if_neg (by rw [hW.1]; exact Nat.ne_of_lt hq)]
  have g := kk _ (hW.push hz ho ?_) (hw_S hS hW.1 hz ho)
  · rw [← hW.1] at g; exact g
  · show (H.push _)[base + w.length]? = _
    rw [← hW.1, Array.getElem?_push, if_pos rfl]
    rw [show Array.replicate n.toNatClampNeg Value.null = Array.replicate n.toNatClampNeg (defaultValue (.object C)) from rfl, arrV_new]
    rfl
theorem hw_get (hx : p.tables.exec = Jvm.exec) (hb : c.code = cc) (hts : ∀ w ∈ gw_tbl, w.before args s = true) (hown : s.vm.findClass own = some m.cls) (hK : va_K (dC, dI) vwCl (sv_tys cA) s) (hW : HW base dC dI cA w H) {ci k j idx : Nat} {fs : List sv_V} (hj : w[j]? = some (.inl (ci, fs))) {q : vw_C} (hq : vwCl[ci]? = some q) (hck : sv_ck ci q) (hkN : k < q.2.2) (hlink : Cond.fieldLink own idx (q.2.1 k).1 (q.2.1 k).2.1 (q.2.1 k).2.2.1 ∈ gw_tbl) (hdg : decode cc pc = .ok (.getfield idx, 3))
    (kk : W p l e R s m args below meth c H locs cells slots Q (F0 m (pc + 3) ls (sv_c (hw_ad base) (fs.getD k sv_N) :: rest))) : W p l e R s m args below meth c H locs cells slots Q (F0 m pc ls (.ref (base + j) :: rest)) := by
  obtain ⟨cell, q1, q2, q3, q4⟩ := hw_ob hW hj
  obtain ⟨hN, hin, -⟩ := hck
  obtain ⟨hS, hfc, kC, hkC, hkind⟩ := hK.1 ci _ hq
  obtain ⟨cf, kf, fi, f, hi, hsl⟩ := hS k hkN
  refine W.getf hx hb hown (hts _ hlink) hi (u_facts hfc hkC (u_lays hts hin hkN) hi).1 q1 (by rw [q3]; exact fun h => by cases h) (v := sv_c (hw_ad base) (fs.getD k sv_N)) ?_ rfl rfl hdg kk
  rw [hsl, q4 k (by rw [← hN]; exact hkN)]
theorem hw_set_ob {H1 : Heap} {cell cell1 : Cell} {ci k j : Nat} {fs : List sv_V} {v : sv_V} (hk : k < fs.length) (h : H1[base + j]? = some cell1 ∧ cell1.cls = dC ci ∧ cell1.vm = .none ∧ ∀ i, i < sv_nf ci → cell1.slots[dI ci i]? = some (updV (fun i => sv_c (hw_ad base) (fs.getD i sv_N)) k (sv_c (hw_ad base) v) i)) : hw_at base dC dI cA j (.inl (ci, fs.set k v)) H1 := by
  refine t_OB.to (V := updV (fun i => sv_c (hw_ad base) (fs.getD i sv_N)) k (sv_c (hw_ad base) v)) ⟨cell1, h⟩ (fun i _ => ?_)
  by_cases g : i = k
  · subst g
    simp only [updV, if_true]
    simp only [List.getD, List.getElem?_set_self hk]
    rfl
  · simp only [updV, if_neg g]
    simp only [List.getD, List.getElem?_set_ne (fun q => g q.symm)]
/-- a field that is not final -/
theorem hw_put (hx : p.tables.exec = Jvm.exec) (hb : c.code = cc) (hts : ∀ w ∈ gw_tbl, w.before args s = true) (hown : s.vm.findClass own = some m.cls) (hK : va_K (dC, dI) vwCl (sv_tys cA) s) (hW : HW base dC dI cA w H) (hS0 : va_S (fun q => base ≤ q) s.heap H locs) {ci k j idx : Nat} {fs : List sv_V} (hj : w[j]? = some (.inl (ci, fs))) (hkl : k < fs.length) {q : vw_C} (hq : vwCl[ci]? = some q) (hck : sv_ck ci q) (hkN : k < q.2.2) (hlink : Cond.fieldLink own idx (q.2.1 k).1 (q.2.1 k).2.1 (q.2.1 k).2.2.1 ∈ gw_tbl)
    (hfin : (q.2.1 k).2.2.2 = false) {ty : FieldType} (hd : parseFieldDescriptor (q.2.1 k).2.2.1 = some ty) {v : sv_V} (hn : narrow ty (sv_c (hw_ad base) v) = sv_c (hw_ad base) v) (hfit : fits ty (sv_c (hw_ad base) v) = true) (hdg : decode cc pc = .ok (.putfield idx, 3))
    (kk : ∀ (H1 : Heap) (locs1 : List Loc), HW base dC dI cA (w.set j (.inl (ci, fs.set k v))) H1 → va_S (fun q => base ≤ q) s.heap H1 locs1 → W p l e R s m args below meth c H1 locs1 cells slots Q (F0 m (pc + 3) ls rest)) : W p l e R s m args below meth c H locs cells slots Q (F0 m pc ls (sv_c (hw_ad base) v :: .ref (base + j) :: rest)) := by
  obtain ⟨cell, q1, q2, q3, q4⟩ := hw_ob hW hj
  obtain ⟨hN, hin, ⟨ty0, hty⟩, hnm, -⟩ := hck
  obtain ⟨C, T, N⟩ := q
  have hap := va_apart (own := own) hts hin ty0 hty hnm hK hq
  obtain ⟨hS, hfc, kC, hkC, hkind⟩ := hK.1 ci _ hq
  obtain ⟨cf, kf, fi, f, hi, hsl⟩ := hS k hkN
  have hlay := hts _ (hin _ (u_in_lay hkN))
  unfold u_lay at hlay
  rw [if_neg (by rw [hfin]; decide)] at hlay
  have hst := (u_facts hfc hkC (u_lays hts hin hkN) hi).1
  have h6 := u_store hfc hkC hkind hlay hi hd hn hfit
  have hN : N = sv_nf ci := hN
  subst hN
  refine W.putK hx hb (f := f) ⟨hown, hts _ hlink, ⟨_, _, _, hi⟩, hst⟩ (by rw [q2]; exact h6) q1 q3 (by rw [hsl]; exact k2_hasslot (q4 k hkN)) rfl rfl hdg fun H' e1 e2 e3 => ?_
  rw [hsl] at e1 ⊢
  exact kk H' _ (hW.set e2 e3 (hw_set_ob (cell := cell) hkl ⟨e1, q2, q3, t_set q4 hap hkN _⟩)) (hS0.put e2 e3 (Nat.le_add_right base j))
/-- a final field, in the class's own constructor -/
theorem hw_putF (hx : p.tables.exec = Jvm.exec) (hb : c.code = cc) (hts : ∀ w ∈ gw_tbl, w.before args s = true) (hown : s.vm.findClass own = some m.cls) (hK : va_K (dC, dI) vwCl (sv_tys cA) s) (hW : HW base dC dI cA w H) (hS0 : va_S (fun q => base ≤ q) s.heap H locs) {ci k j idx : Nat} {fs : List sv_V} (hj : w[j]? = some (.inl (ci, fs))) (hkl : k < fs.length) {q : vw_C} (hq : vwCl[ci]? = some q) (hck : sv_ck ci q) (hkN : k < q.2.2) (hlink : Cond.fieldLink own idx (q.2.1 k).1 (q.2.1 k).2.1 (q.2.1 k).2.2.1 ∈ gw_tbl)
    (hfin : (q.2.1 k).2.2.2 = true) (hin2 : meth.name = "<init>") (hdecl : (q.2.1 k).1 = own) {ty : FieldType} (hd : parseFieldDescriptor (q.2.1 k).2.2.1 = some ty) {v : sv_V} (hn : narrow ty (sv_c (hw_ad base) v) = sv_c (hw_ad base) v) (hfit : fits ty (sv_c (hw_ad base) v) = true) (hdg : decode cc pc = .ok (.putfield idx, 3))
    (kk : ∀ (H1 : Heap) (locs1 : List Loc), HW base dC dI cA (w.set j (.inl (ci, fs.set k v))) H1 → va_S (fun q => base ≤ q) s.heap H1 locs1 → W p l e R s m args below meth c H1 locs1 cells slots Q (F0 m (pc + 3) ls rest)) : W p l e R s m args below meth c H locs cells slots Q (F0 m pc ls (sv_c (hw_ad base) v :: .ref (base + j) :: rest)) := by
  obtain ⟨cell, q1, q2, q3, q4⟩ := hw_ob hW hj
  obtain ⟨hN, hin, ⟨ty0, hty⟩, hnm, -⟩ := hck
  obtain ⟨C, T, N⟩ := q
  have hap := va_apart (own := own) hts hin ty0 hty hnm hK hq
  obtain ⟨hS, hfc, kC, hkC, hkind⟩ := hK.1 ci _ hq
  obtain ⟨cf, kf, fi, f, hi, hsl⟩ := hS k hkN
  have hlay := hts _ (hin _ (u_in_lay hkN))
  unfold u_lay at hlay
  rw [if_pos hfin] at hlay
  have hst := (u_facts hfc hkC (u_lays hts hin hkN) hi).1
  have hcf : m.cls = cf := by
    obtain ⟨_, _, c', _, _, _, -, -, hf', -, -, -, hown2, -⟩ := Cond.laysFinal_spec hlay
    have e1 : c' = cf := by have := hi.symm.trans hf'; simp at this; exact this.1.symm
    rw [hdecl] at hown2
    rw [← e1]; exact Option.some.inj (hown.symm.trans hown2)
  have h6 := u_fits hfc hkC hkind (Or.inr hlay) hi hd hn hfit
  have hN : N = sv_nf ci := hN
  subst hN
  refine W.putFinK hx hb hown (hts _ hlink) hi hst hcf hin2 (by rw [q2]; exact h6) q1 q3 (by rw [hsl]; exact k2_hasslot (q4 k hkN)) rfl rfl hdg fun H' e1 e2 e3 => ?_
  rw [hsl] at e1 ⊢
  exact kk H' _ (hW.set e2 e3 (hw_set_ob (cell := cell) hkl ⟨e1, q2, q3, t_set q4 hap hkN _⟩)) (hS0.put e2 e3 (Nat.le_add_right base j))
theorem hw_set_ar {H1 : Heap} {t n x k : Nat} {df v : sv_V} {ups : List (Nat × sv_V)} (h : H1[base + k]? = some (arrV (cA t) n (updV (fun j => sv_c (hw_ad base) (hw_lk ups df j)) x (sv_c (hw_ad base) v)))) : hw_at base dC dI cA k (.inr (t, (n, (df, (x, v) :: ups)))) H1 := by
  show H1[base + k]? = _
  rw [h]
  congr 2
  funext j
  rw [hw_lk_up]
  by_cases g : j = x
  · simp only [updV, if_pos g]
  · simp only [updV, if_neg g]
theorem hw_iast (hx : p.tables.exec = Jvm.exec) (hb : c.code = cc) (hK : va_K (dC, dI) vwCl (sv_tys cA) s) (hW : HW base dC dI cA w H) (hS0 : va_S (fun q => base ≤ q) s.heap H locs) {k n : Nat} {df : sv_V} {ups : List (Nat × sv_V)} (hk : w[k]? = some (.inr (0, (n, (df, ups))))) {x y : Int32} (hin : sv_in x n) (hdg : decode cc pc = .ok (.iastore, 1))
    (kk : ∀ (H1 : Heap) (locs1 : List Loc), HW base dC dI cA (w.set k (.inr (0, (n, (df, (x.toNatClampNeg, .inl y) :: ups))))) H1 → va_S (fun q => base ≤ q) s.heap H1 locs1 → W p l e R s m args below meth c H1 locs1 cells slots Q (F0 m (pc + 1) ls rest)) : W p l e R s m args below meth c H locs cells slots Q (F0 m pc ls (.int y :: .int x :: .ref (base + k) :: rest)) := by
  refine W.iast hx hb (hw_ar hW hk) ((hK.2 0 _ rfl).1 _ _) (fun q => by cases q) (by rw [arrV_size]; exact sv_inv hin) rfl rfl hdg fun H1 e1 e2 e3 => ?_
  refine kk H1 _ (hW.set e2 e3 (hw_set_ar ?_)) (hS0.put e2 e3 (Nat.le_add_right base k))
  rw [e1, arrV_store]
  rfl
/-- an object into a row of objects -/
theorem hw_aast (hx : p.tables.exec = Jvm.exec) (hb : c.code = cc) (hK : va_K (dC, dI) vwCl (sv_tys cA) s) (hW : HW base dC dI cA w H) (hS0 : va_S (fun q => base ≤ q) s.heap H locs) {k n t : Nat} {df : sv_V} {ups : List (Nat × sv_V)} {C : String} (hk : w[k]? = some (.inr (t, (n, (df, ups))))) (ht : (sv_tys cA)[t]? = some (cA t, .object C)) {kv cv : Nat} {fs : List sv_V} (hv : w[kv]? = some (.inl (cv, fs))) {qv : vw_C} (hqv : vwCl[cv]? = some qv) (hasg : ∀ comp c0, s.vm.findClass C = some comp → s.vm.findClass qv.1 = some c0 → s.vm.assignable c0 comp = true) {x : Int32} (hin : sv_in x n) (hdg : decode cc pc = .ok (.aastore, 1))
    (kk : ∀ (H1 : Heap) (locs1 : List Loc), HW base dC dI cA (w.set k (.inr (t, (n, (df, (x.toNatClampNeg, sv_R 0 kv) :: ups))))) H1 → va_S (fun q => base ≤ q) s.heap H1 locs1 → W p l e R s m args below meth c H1 locs1 cells slots Q (F0 m (pc + 1) ls rest)) : W p l e R s m args below meth c H locs cells slots Q (F0 m pc ls (.ref (base + kv) :: .int x :: .ref (base + k) :: rest)) := by
  obtain ⟨cellV, g1, g2, g3, -⟩ := hw_ob hW hv
  have hcls := (hK.1 cv _ hqv).2
  obtain ⟨kA, comp, k1, k2, k3, -⟩ := (hK.2 t _ ht).2
  have hass := hasg comp _ k3 hcls.1
  obtain ⟨kC, hkC, -⟩ := hcls.2
  obtain ⟨kO, hkO, -⟩ := Vm.findClass_spec k3
  have h0 : ¬ x < 0 := fun q => sv_inv hin (Or.inl q)
  refine W.aast hx hb (hw_ar hW hk) (fun q h => by cases h) (fun h => by cases h) k1 k2 rfl hkO ⟨h0, by rw [arrV_size]; exact sv_int hin⟩ g1 (fun q h => by rw [g3] at h; cases h) (by rw [g2]; exact hkC) (by rw [g2]; exact hass) rfl rfl hdg fun H1 e1 e2 e3 => ?_
  refine kk H1 _ (hW.set e2 e3 (hw_set_ar ?_)) (hS0.put e2 e3 (Nat.le_add_right base k))
  rw [e1, arrV_store]
  rfl
end HWR
