/-! ===== the interpreter is right: what is known of the tables, one instruction, a run ===== -/
def sv_tys (cA : Nat → ClassId) : List (ClassId × FieldType) := [(cA 0, .int), (cA 1, .byte), (cA 2, .object "OneStroke$Drummer"), (cA 3, .object "OneStroke$Text"), (cA 4, .object "OneStroke$Kind"), (cA 5, .object "OneStroke$Sheet")]
def sv_tx6 : List String := ["hear", "start", "fine", "lrn", "snb", "mb"]
def sv_nest : Cond := .methodLinkNest "OneStroke$Line" 102 ⟨"OneStroke", "withinStarts", "(I)I"⟩ "OneStroke"
/-- what is known of a state, and stays: classes, the static row, text constants -/
def sv_kn (base : Nat) (ad : Nat → Nat → Nat) (dC : Nat → ClassId) (dI : Nat → Nat → Nat) (cA : Nat → ClassId) (U : State) : Prop :=
  va_K (dC, dI) vwCl (sv_tys cA) U ∧ va_Z "OneStroke" "ABOVE" "[I" (.ref (ad 21 0)) (fun q => base ≤ q) U U.heap ∧ va_T .int (ad 21 0) 6 (fun j => .int (sv_ab j)) (fun q => base ≤ q) U U.heap ∧ va_Nw sv_nest U ∧
  (∀ i, i < 6 → vk_R "OneStroke$Text" (25 + 2 * i) (sv_tx6.getD i "") (ad 23 i) U) ∧ vk_S 6 sv_tl sv_tb (ad 23) (ad 25) (fun q => base ≤ q) U U.heap ∧ va_Z "java/lang/String" "COMPACT_STRINGS" "Z" (.int 1) (fun q => base ≤ q) U U.heap ∧ va_Zq "jdk/internal/util/Preconditions" "SIOOBE_FORMATTER" "Ljava/util/function/BiFunction;" (fun q => base ≤ q) U U.heap
theorem sv_kn.go {base : Nat} {ad : Nat → Nat → Nat} {dC : Nat → ClassId} {dI : Nat → Nat → Nat} {cA : Nat → ClassId} {s U : State} (h : sv_kn base ad dC dI cA s) (hW : s.WarmedH U.vm) (hq : ∀ a : Nat, a < s.heap.size → ¬ base ≤ a → U.heap[a]? = s.heap[a]?) : sv_kn base ad dC dI cA U := by
  obtain ⟨h1, h2, h3, h4, h5, h6, h7, h8⟩ := h
  exact ⟨va_K.moved hW.alike h1, (va_Z.moved hW.alike h2).kept hq, (va_T.moved hW.alike h3).kept hq, va_Nw.warmM hW h4, fun i hi => vk_R.warm hW (h5 i hi), (vk_S.moved hW.alike h6).kept hq, (va_Z.moved hW.alike h7).kept hq, (va_Zq.moved hW.alike h8).kept hq⟩
theorem sv_kn.same {base : Nat} {ad : Nat → Nat → Nat} {dC : Nat → ClassId} {dI : Nat → Nat → Nat} {cA : Nat → ClassId} {s U : State} (h : sv_kn base ad dC dI cA s) (hv : U.vm = s.vm) (hh : U.heap = s.heap) : sv_kn base ad dC dI cA U := by
  obtain ⟨h1, h2, h3, h4, h5, h6, h7, h8⟩ := h
  have ha : s.vm.Alike U.vm := by rw [hv]; exact Vm.Alike.refl _
  rw [← hh] at h2 h3 h6 h7 h8
  exact ⟨va_K.moved ha h1, va_Z.moved ha h2, va_T.moved ha h3, va_Nw.same rfl hv.symm h4, fun i hi => vk_R.same hv (h5 i hi), vk_S.moved ha h6, va_Z.moved ha h7, va_Zq.moved ha h8⟩
/-- what the tables say of a class of ours -/
def sv_ck (ci : Nat) (q : vw_C) : Prop := q.2.2 = sv_nf ci ∧ (∀ w ∈ u_ws q.1 q.2.1 q.2.2, w ∈ gw_tbl) ∧ (∃ ty : Nat → FieldType, ∀ k, k < q.2.2 → parseFieldDescriptor (q.2.1 k).2.2.1 = some (ty k)) ∧ (∀ a, a < q.2.2 → ∀ b, b < q.2.2 → a ≠ b → (q.2.1 a).2.1 ≠ (q.2.1 b).2.1) ∧
  (∀ k, k < q.2.2 → sv_ft ci k = 0 → (q.2.1 k).2.2.2 = false ∧ parseFieldDescriptor (q.2.1 k).2.2.1 = some .int) ∧ (∀ k, k < q.2.2 → sv_ft ci k = 1 → (q.2.1 k).2.2.2 = false ∧ parseFieldDescriptor (q.2.1 k).2.2.1 = some .boolean)
/-- a field's link -/
def sv_fk (own : String) (idx ci k : Nat) : Prop := (∃ q : vw_C, vwCl[ci]? = some q ∧ k < q.2.2 ∧ Cond.fieldLink own idx (q.2.1 k).1 (q.2.1 k).2.1 (q.2.1 k).2.2.1 ∈ gw_tbl) ∨ (ci = 13 ∧ (k = 0 ∧ Cond.fieldLink own idx "java/lang/String" "value" "[B" ∈ gw_tbl ∨ k = 1 ∧ Cond.fieldLink own idx "java/lang/String" "coder" "B" ∈ gw_tbl))
def sv_1k (own : String) (idx : Nat) (v : sv_V) : Prop := match v with
  | .inl n => Cond.constant own idx n ∈ gw_tbl
  | .inr (.inl n) => Cond.constantLong own idx n ∈ gw_tbl
  | .inr (.inr (some (r, i))) => r = 23 ∧ i < 6 ∧ own = "OneStroke$Text" ∧ idx = 25 + 2 * i
  | _ => False
theorem sv_my_obj {r i k : Nat} (h : sv_kd r i = .inl k) (hk : k < 13) : sv_my r := by
  refine ⟨?_, ?_, ?_, ?_⟩ <;> (rintro rfl; simp [sv_kd] at h; try omega)
theorem sv_my_arr {r i t : Nat} (h : sv_kd r i = .inr t) (ht : t < 6) : sv_my r := by
  refine ⟨?_, ?_, ?_, ?_⟩ <;> (rintro rfl; simp [sv_kd] at h; try omega)
theorem sv_no18 {r i t : Nat} (h : sv_kd r i = .inr t) (ht : t < 6) : r ≠ 18 ∧ r ≠ 22 := by
  refine ⟨?_, ?_⟩ <;> (rintro rfl; simp [sv_kd] at h; try omega)
section SV
variable {p : Program} {l : Launch} {e : Env} {R : Room} {s : State} {m : MethodId} {args : Array Value} {below : List Frame} {meth : Method} {c : Code} {H : Heap} {locs : List Loc} {cells slots : Nat} {Q : State → Prop}
variable {cc : ByteArray} {pc : Nat} {ls : Array Slot} {rest : List Value} {base : Nat} {ad : Nat → Nat → Nat} {dC : Nat → ClassId} {dI : Nat → Nat → Nat} {cA : Nat → ClassId} {σ : sv_S} {own : String} {r i : Nat}
theorem sv_get (hx : p.tables.exec = Jvm.exec) (hb : c.code = cc) (hts : ∀ w ∈ gw_tbl, w.before args s = true) (hown : s.vm.findClass own = some m.cls) (hK : va_K (dC, dI) vwCl (sv_tys cA) s) (hR : sv_rep base ad dC dI cA σ H) (hl : sv_lv (sv_ct σ) r i) {ci k idx : Nat} (hk : sv_kd r i = .inl ci) (hck : ∀ q, vwCl[ci]? = some q → sv_ck ci q) (hf : ∃ q : vw_C, vwCl[ci]? = some q ∧ k < q.2.2 ∧ Cond.fieldLink own idx (q.2.1 k).1 (q.2.1 k).2.1 (q.2.1 k).2.2.1 ∈ gw_tbl) (hdg : decode cc pc = .ok (.getfield idx, 3))
    (kk : W p l e R s m args below meth c H locs cells slots Q (F0 m (pc + 3) ls (sv_c ad (sv_df ci i k (σ r i k)) :: rest))) : W p l e R s m args below meth c H locs cells slots Q (F0 m pc ls (.ref (ad r i) :: rest)) := by
  obtain ⟨q, hq, hkN, hlink⟩ := hf
  have hci : ci < 13 := (List.getElem?_eq_some_iff.mp hq).1
  obtain ⟨cell, q1, q2, q3, q4⟩ := (hR.1 r i hl (sv_my_obj hk hci)).2.ob hk
  obtain ⟨hN, hin, -⟩ := hck q hq
  obtain ⟨hS, hfc, kC, hkC, hkind⟩ := hK.1 ci _ hq
  obtain ⟨cf, kf, fi, f, hi, hsl⟩ := hS k hkN
  refine W.getf hx hb hown (hts _ hlink) hi (u_facts hfc hkC (u_lays hts hin hkN) hi).1 q1 (by rw [q3]; exact fun h => by cases h) (v := sv_c ad (sv_df ci i k (σ r i k))) ?_ rfl rfl hdg kk
  rw [hsl, q4 k (by rw [← hN]; exact hkN)]
theorem sv_put (hx : p.tables.exec = Jvm.exec) (hb : c.code = cc) (hts : ∀ w ∈ gw_tbl, w.before args s = true) (hown : s.vm.findClass own = some m.cls) (hK : va_K (dC, dI) vwCl (sv_tys cA) s) (hR : sv_rep base ad dC dI cA σ H) (hS0 : va_S (fun q => base ≤ q) s.heap H locs) (hl : sv_lv (sv_ct σ) r i) {ci k idx : Nat} {n : Int32} (hk : sv_kd r i = .inl ci) (hck : ∀ q, vwCl[ci]? = some q → sv_ck ci q) (hf : ∃ q : vw_C, vwCl[ci]? = some q ∧ k < q.2.2 ∧ Cond.fieldLink own idx (q.2.1 k).1 (q.2.1 k).2.1 (q.2.1 k).2.2.1 ∈ gw_tbl)
    (hfr : sv_fr ci i k = none) (h18 : r ≠ 18) (h22 : r ≠ 22) (hft : sv_ft ci k = 0 ∨ sv_ft ci k = 1 ∧ (n = 0 ∨ n = 1)) (hdg : decode cc pc = .ok (.putfield idx, 3))
    (kk : ∀ (H1 : Heap) (locs1 : List Loc), sv_rep base ad dC dI cA (sv_up σ r i k n) H1 → va_S (fun q => base ≤ q) s.heap H1 locs1 → W p l e R s m args below meth c H1 locs1 cells slots Q (F0 m (pc + 3) ls rest)) : W p l e R s m args below meth c H locs cells slots Q (F0 m pc ls (.int n :: .ref (ad r i) :: rest)) := by
  obtain ⟨q, hq, hkN, hlink⟩ := hf
  have hci : ci < 13 := (List.getElem?_eq_some_iff.mp hq).1
  obtain ⟨hA, hcell⟩ := hR.1 r i hl (sv_my_obj hk hci)
  obtain ⟨cell, q1, q2, q3, q4⟩ := hcell.ob hk
  obtain ⟨hN, hin, ⟨ty0, hty⟩, hnm, hf0, hf1⟩ := hck q hq
  obtain ⟨C, T, N⟩ := q
  have hap := va_apart (own := own) hts hin ty0 hty hnm hK hq
  obtain ⟨hS, hfc, kC, hkC, hkind⟩ := hK.1 ci _ hq
  obtain ⟨cf, kf, fi, f, hi, hsl⟩ := hS k hkN
  have hlay := hts _ (hin _ (u_in_lay hkN))
  have h3 : ∃ ty, (T k).2.2.2 = false ∧ parseFieldDescriptor (T k).2.2.1 = some ty ∧ narrow ty (.int n) = .int n ∧ fits ty (.int n) = true := by
    rcases hft with h | ⟨h, hn⟩
    · exact ⟨.int, (hf0 k hkN h).1, (hf0 k hkN h).2, rfl, rfl⟩
    · refine ⟨.boolean, (hf1 k hkN h).1, (hf1 k hkN h).2, ?_⟩
      rcases hn with rfl | rfl <;> exact ⟨by decide, by decide⟩
  obtain ⟨ty, hfin, hd, hn1, hn2⟩ := h3
  unfold u_lay at hlay
  rw [if_neg (by rw [hfin]; decide)] at hlay
  have hst := (u_facts hfc hkC (u_lays hts hin hkN) hi).1
  have h6 := u_store hfc hkC hkind hlay hi hd hn1 hn2
  have hkn : k < sv_nf ci := by rw [← hN]; exact hkN
  refine W.putK hx hb (f := f) ⟨hown, hts _ hlink, ⟨_, _, _, hi⟩, hst⟩ (by rw [q2]; exact h6) q1 q3 (by rw [hsl]; exact k2_hasslot (q4 k hkn)) rfl rfl hdg fun H' e1 e2 e3 => ?_
  rw [hsl] at e1 ⊢
  have hN : N = sv_nf ci := hN
  subst hN
  refine kk H' _ (hR.up hl (sv_my_obj hk hci) h18 h22 (fun q => by subst q; simp [sv_kd] at hk) ?_ e3) (hS0.put e2 e3 hA)
  unfold sv_cell
  rw [hk]
  refine t_OB.to (V := updV (fun j => sv_c ad (sv_df ci i j (σ r i j))) k (.int n)) ⟨_, e1, q2, q3, t_set q4 hap hkN (.int n)⟩ (fun j hj => ?_)
  by_cases hjk : j = k
  · subst hjk
    simp only [updV, if_true, sv_up_self]
    show Value.int n = sv_c ad (sv_df ci i j n)
    unfold sv_df
    rw [hfr]
    rfl
  · simp only [updV, if_neg hjk]
    rw [sv_up_k hjk]
theorem sv_inv {x : Int32} {n : Nat} (h : sv_in x n) : ¬ (x < 0 ∨ n ≤ x.toNatClampNeg) := vp_in_iff.mpr h
theorem sv_int {x : Int32} {n : Nat} (h : sv_in x n) : x.toNatClampNeg < n := Nat.not_le.mp fun q => sv_inv h (Or.inr q)
theorem sv_iald (hx : p.tables.exec = Jvm.exec) (hb : c.code = cc) (hK : va_K (dC, dI) vwCl (sv_tys cA) s) (hR : sv_rep base ad dC dI cA σ H) (hl : sv_lv (sv_ct σ) r i) (hk : sv_kd r i = .inr 0) {x : Int32} (hin : sv_in x (sv_ln r i σ)) (hdg : decode cc pc = .ok (.iaload, 1))
    (kk : W p l e R s m args below meth c H locs cells slots Q (F0 m (pc + 1) ls (.int (σ r i x.toNatClampNeg) :: rest))) : W p l e R s m args below meth c H locs cells slots Q (F0 m pc ls (.int x :: .ref (ad r i) :: rest)) :=
  W.iald (v := .int (σ r i x.toNatClampNeg)) hx hb ((hR.1 r i hl (sv_my_arr hk (by decide))).2.ar hk) ((hK.2 0 _ rfl).1 _ _) (fun q => by cases q) (by rw [arrV_size]; exact sv_inv hin) (by rw [arrV_read _ _ (sv_int hin)]; rfl) rfl rfl hdg kk
theorem sv_bald (hx : p.tables.exec = Jvm.exec) (hb : c.code = cc) (hK : va_K (dC, dI) vwCl (sv_tys cA) s) (hR : sv_rep base ad dC dI cA σ H) (hl : sv_lv (sv_ct σ) r i) (hk : sv_kd r i = .inr 1) {x : Int32} (hin : sv_in x (sv_ln r i σ)) (hdg : decode cc pc = .ok (.baload, 1))
    (kk : W p l e R s m args below meth c H locs cells slots Q (F0 m (pc + 1) ls (.int (σ r i x.toNatClampNeg) :: rest))) : W p l e R s m args below meth c H locs cells slots Q (F0 m pc ls (.int x :: .ref (ad r i) :: rest)) :=
  W.bald (v := .int (σ r i x.toNatClampNeg)) hx hb ((hR.1 r i hl (sv_my_arr hk (by decide))).2.ar hk) ((hK.2 1 _ rfl).1 _ _) (fun q => by cases q) (by rw [arrV_size]; exact sv_inv hin) (by rw [arrV_read _ _ (sv_int hin)]; rfl) rfl rfl hdg kk
theorem sv_aald (hx : p.tables.exec = Jvm.exec) (hb : c.code = cc) (hK : va_K (dC, dI) vwCl (sv_tys cA) s) (hR : sv_rep base ad dC dI cA σ H) (hl : sv_lv (sv_ct σ) r i) {t : Nat} {C : String} (hk : sv_kd r i = .inr t) (ht : t < 6) (hty : (sv_tys cA)[t]? = some (cA t, .object C)) {x : Int32} (hin : sv_in x (sv_ln r i σ)) (hdg : decode cc pc = .ok (.aaload, 1))
    (kk : W p l e R s m args below meth c H locs cells slots Q (F0 m (pc + 1) ls (sv_c ad (sv_de t i x.toNatClampNeg (σ r i x.toNatClampNeg)) :: rest))) : W p l e R s m args below meth c H locs cells slots Q (F0 m pc ls (.int x :: .ref (ad r i) :: rest)) :=
  W.aald (v := sv_c ad (sv_de t i x.toNatClampNeg (σ r i x.toNatClampNeg))) (ty := .object C) hx hb ((hR.1 r i hl (sv_my_arr hk ht)).2.ar hk) ((hK.2 t _ hty).1 _ _) rfl (fun q => by cases q) (by rw [arrV_size]; exact sv_inv hin) (by rw [arrV_read _ _ (sv_int hin)]) rfl rfl hdg kk
theorem sv_alen (hx : p.tables.exec = Jvm.exec) (hb : c.code = cc) (hK : va_K (dC, dI) vwCl (sv_tys cA) s) (hR : sv_rep base ad dC dI cA σ H) (hl : sv_lv (sv_ct σ) r i) {t : Nat} {ty : FieldType} (hk : sv_kd r i = .inr t) (ht : t < 6) (hty : (sv_tys cA)[t]? = some (cA t, ty)) (hdg : decode cc pc = .ok (.arraylength, 1))
    (kk : W p l e R s m args below meth c H locs cells slots Q (F0 m (pc + 1) ls (.int (nI (sv_ln r i σ)) :: rest))) : W p l e R s m args below meth c H locs cells slots Q (F0 m pc ls (.ref (ad r i) :: rest)) :=
  W.alen hx hb ((hR.1 r i hl (sv_my_arr hk ht)).2.ar hk) ((hK.2 t _ hty).1 _ _) (by rw [arrV_size]; rfl) rfl rfl hdg kk
theorem sv_iast (hx : p.tables.exec = Jvm.exec) (hb : c.code = cc) (hK : va_K (dC, dI) vwCl (sv_tys cA) s) (hR : sv_rep base ad dC dI cA σ H) (hS0 : va_S (fun q => base ≤ q) s.heap H locs) (hl : sv_lv (sv_ct σ) r i) (hk : sv_kd r i = .inr 0) {x n : Int32} (hin : sv_in x (sv_ln r i σ)) (hdg : decode cc pc = .ok (.iastore, 1))
    (kk : ∀ (H1 : Heap) (locs1 : List Loc), sv_rep base ad dC dI cA (sv_up σ r i x.toNatClampNeg n) H1 → va_S (fun q => base ≤ q) s.heap H1 locs1 → W p l e R s m args below meth c H1 locs1 cells slots Q (F0 m (pc + 1) ls rest)) : W p l e R s m args below meth c H locs cells slots Q (F0 m pc ls (.int n :: .int x :: .ref (ad r i) :: rest)) := by
  obtain ⟨hA, hcell⟩ := hR.1 r i hl (sv_my_arr hk (by decide))
  obtain ⟨h18, h22⟩ := sv_no18 hk (by decide)
  refine W.iast hx hb (hcell.ar hk) ((hK.2 0 _ rfl).1 _ _) (fun q => by cases q) (by rw [arrV_size]; exact sv_inv hin) rfl rfl hdg fun H1 e1 e2 e3 => ?_
  refine kk H1 _ (hR.up hl (sv_my_arr hk (by decide)) h18 h22 (fun q => by subst q; simp [sv_kd] at hk) ?_ e3) (hS0.put e2 e3 hA)
  unfold sv_cell
  rw [hk]
  show H1[ad r i]? = _
  rw [e1, arrV_store, sv_ln_up h18]
  congr 2
  funext j
  by_cases hj : j = x.toNatClampNeg
  · subst hj
    simp only [updV, if_true, sv_up_self]; rfl
  · simp only [updV, if_neg hj]; rw [sv_up_k hj]
theorem sv_bast (hx : p.tables.exec = Jvm.exec) (hb : c.code = cc) (hK : va_K (dC, dI) vwCl (sv_tys cA) s) (hR : sv_rep base ad dC dI cA σ H) (hS0 : va_S (fun q => base ≤ q) s.heap H locs) (hl : sv_lv (sv_ct σ) r i) (hk : sv_kd r i = .inr 1) {x n : Int32} (hin : sv_in x (sv_ln r i σ)) (hdg : decode cc pc = .ok (.bastore, 1))
    (kk : ∀ (H1 : Heap) (locs1 : List Loc), sv_rep base ad dC dI cA (sv_up σ r i x.toNatClampNeg n.toInt8.toInt32) H1 → va_S (fun q => base ≤ q) s.heap H1 locs1 → W p l e R s m args below meth c H1 locs1 cells slots Q (F0 m (pc + 1) ls rest)) : W p l e R s m args below meth c H locs cells slots Q (F0 m pc ls (.int n :: .int x :: .ref (ad r i) :: rest)) := by
  obtain ⟨hA, hcell⟩ := hR.1 r i hl (sv_my_arr hk (by decide))
  obtain ⟨h18, h22⟩ := sv_no18 hk (by decide)
  refine W.bast hx hb (hcell.ar hk) ((hK.2 1 _ rfl).1 _ _) (fun q => by cases q) (by rw [arrV_size]; exact sv_inv hin) rfl rfl hdg fun H1 e1 e2 e3 => ?_
  refine kk H1 _ (hR.up hl (sv_my_arr hk (by decide)) h18 h22 (fun q => by subst q; simp [sv_kd] at hk) ?_ e3) (hS0.put e2 e3 hA)
  unfold sv_cell
  rw [hk]
  show H1[ad r i]? = _
  rw [e1, arrV_store, sv_ln_up h18]
  congr 2
  funext j
  by_cases hj : j = x.toNatClampNeg
  · subst hj
    simp only [updV, if_true, sv_up_self]; rfl
  · simp only [updV, if_neg hj]; rw [sv_up_k hj]
end SV
