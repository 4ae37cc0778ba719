/-! ===== what is known at the law's entry ===== -/
theorem tw_75 : Cond.instantiable "OneStroke" 13 ∈ gw_tbl := gw_at 75 (by decide +kernel) rfl
theorem tw_985 : Cond.instantiable "OneStrokeModel" 34 ∈ gw_tbl := gw_at 985 (by decide +kernel) rfl
theorem sv_kn.adq {base : Nat} {ad ad' : Nat → Nat → Nat} {dC : Nat → ClassId} {dI : Nat → Nat → Nat} {cA : Nat → ClassId} {U : State} (h : sv_kn base ad dC dI cA U) (e1 : ad' 21 = ad 21) (e2 : ad' 23 = ad 23) (e3 : ad' 25 = ad 25) : sv_kn base ad' dC dI cA U := by
  unfold sv_kn at *
  rw [e1, e2, e3]
  exact h
theorem lk_inst : ∀ (ci : Nat) (q : vw_C), vwCl[ci]? = some q → ∃ n, Cond.instantiable q.1 n ∈ gw_tbl := by
  intro ci q h
  match ci, h with
  | 0, h => exact ⟨0, (Option.some.inj h) ▸ tw_119⟩
  | 1, h => exact ⟨8, (Option.some.inj h) ▸ tw_133⟩
  | 2, h => exact ⟨0, (Option.some.inj h) ▸ tw_98⟩
  | 3, h => exact ⟨0, (Option.some.inj h) ▸ tw_84⟩
  | 4, h => exact ⟨0, (Option.some.inj h) ▸ tw_105⟩
  | 5, h => exact ⟨9, (Option.some.inj h) ▸ tw_126⟩
  | 6, h => exact ⟨3, (Option.some.inj h) ▸ tw_258⟩
  | 7, h => exact ⟨0, (Option.some.inj h) ▸ tw_91⟩
  | 8, h => exact ⟨9, (Option.some.inj h) ▸ tw_220⟩
  | 9, h => exact ⟨4, (Option.some.inj h) ▸ tw_854⟩
  | 10, h => exact ⟨0, (Option.some.inj h) ▸ tw_112⟩
  | 11, h => exact ⟨13, (Option.some.inj h) ▸ tw_75⟩
  | 12, h => exact ⟨34, (Option.some.inj h) ▸ tw_985⟩
  | n + 13, h => simp [vwCl] at h
theorem lk_cls {s : State} {args : Array Value} (hts : ∀ w ∈ gw_tbl, w.before args s = true) : ∃ (dC : Nat → ClassId) (dI : Nat → Nat → Nat), ∀ (k : Nat) (q : vw_C), vwCl[k]? = some q → u_Kn s q.1 q.2.1 q.2.2 (dC k) (dI k) := by
  have h0 : ∀ k : Nat, ∃ x : ClassId × (Nat → Nat), ∀ q : vw_C, vwCl[k]? = some q → u_Kn s q.1 q.2.1 q.2.2 x.1 x.2 := by
    intro k
    cases hk : vwCl[k]? with
    | none => exact ⟨((0 : Nat), fun _ => 0), fun q h => by cases h⟩
    | some q =>
      obtain ⟨n, hn⟩ := lk_inst k q hk
      obtain ⟨c0, i0, h1⟩ := u_known (ws := gw_tbl) hts (ck_all k q hk).2.1 (hts _ hn)
      exact ⟨(c0, i0), fun q' h => by cases h; exact h1⟩
  obtain ⟨f, hf⟩ := Classical.axiomOfChoice h0
  exact ⟨fun k => (f k).1, fun k => (f k).2, fun k q h => hf k q h⟩
theorem lk_arr {s : State} {args : Array Value} {ty : FieldType} (hty : ty = .int ∨ ty = .byte) (h : (Cond.arrayClass ty).before args s = true) : ∃ c : ClassId, ArrOfT s c ty ∧ va_RA s c ty := by
  obtain ⟨c, k, comp, h1, h2, h3⟩ := Cond.arrayClass_spec h
  exact ⟨c, fun n z => ⟨fun k h => (by cases h), k, h2, comp, h3⟩, by rcases hty with rfl | rfl <;> exact h1⟩
theorem lk_arrO {s : State} {args : Array Value} {C : String} (h : (Cond.arrayOver (.object C)).before args s = true) : ∃ c : ClassId, ArrOfT s c (.object C) ∧ va_RA s c (.object C) := by
  obtain ⟨comp, c, k, h1, h2, h3, h4, h5⟩ := Cond.arrayOver_spec h
  exact ⟨c, fun n z => ⟨fun k h => (by cases h), k, h3, comp, h4⟩, k, comp, h3, h4, h1, h5⟩
def lk_F : List Cond := flatC (Jvm.Cond.and given_1 narrow_1)
def lk_tm (i : Nat) : Term := .string "OneStroke$Text" (25 + 2 * i)
set_option maxRecDepth 20000 in
theorem lk_f1 : ∀ i, i < 6 → Cond.exactly (lk_tm i) "java/lang/String" ∈ lk_F := by decide +kernel
set_option maxRecDepth 20000 in
theorem lk_f2 : ∀ i, i < 6 → Cond.eq (.field (lk_tm i) "java/lang/String" "coder" "B") (.int 0) ∈ lk_F := by decide +kernel
set_option maxRecDepth 20000 in
theorem lk_f3 : ∀ i, i < 6 → Cond.arrayOf (.field (lk_tm i) "java/lang/String" "value" "[B") .byte ∈ lk_F := by decide +kernel
set_option maxRecDepth 20000 in
theorem lk_f4 : ∀ i, i < 6 → Cond.eq (.length (.field (lk_tm i) "java/lang/String" "value" "[B")) (.int (Int32.ofNat (sv_tl.getD i 0))) ∈ lk_F := by decide +kernel
set_option maxRecDepth 20000 in
theorem lk_f5 : ∀ i, i < 6 → ∀ j, j < sv_tl.getD i 0 → Cond.eq (.elem (.field (lk_tm i) "java/lang/String" "value" "[B") (.int (Int32.ofNat j))) (.int ((sv_tb.getD i []).getD j 0)) ∈ lk_F := by decide +kernel
set_option maxRecDepth 20000 in
theorem lk_f6 : ∀ i, i < 6 → ∀ j, j < 6 → i < j → Cond.not (Cond.eq (lk_tm i) (lk_tm j)) ∈ lk_F := by decide +kernel
set_option maxRecDepth 20000 in
theorem lk_f7 : ∀ j, j < 6 → Cond.eq (.elem (.static "OneStroke" "ABOVE" "[I") (.int (Int32.ofNat j))) (.int (sv_ab j)) ∈ lk_F := by decide +kernel
set_option maxRecDepth 20000 in
theorem lk_f8 : Cond.arrayOf (.static "OneStroke" "ABOVE" "[I") .int ∈ lk_F ∧ Cond.eq (.length (.static "OneStroke" "ABOVE" "[I")) (.int (Int32.ofNat 6)) ∈ lk_F ∧ Cond.eq (.static "java/lang/String" "COMPACT_STRINGS" "Z") (.int 1) ∈ lk_F ∧ Cond.isRef (.static "jdk/internal/util/Preconditions" "SIOOBE_FORMATTER" "Ljava/util/function/BiFunction;") ∈ lk_F := by decide +kernel
theorem lk_f9 : ∀ i, i < 6 → sv_tl.getD i 0 < 2 ^ 31 := by decide +kernel
theorem lk_str : ∀ i, i < 6 → Cond.stringRef "OneStroke$Text" (25 + 2 * i) (sv_tx6.getD i "") ∈ lw_tbl := by
  intro i hi
  match i, hi with
  | 0, _ => exact List.mem_of_getElem? (i := 706) (by decide +kernel)
  | 1, _ => exact List.mem_of_getElem? (i := 707) (by decide +kernel)
  | 2, _ => exact List.mem_of_getElem? (i := 708) (by decide +kernel)
  | 3, _ => exact List.mem_of_getElem? (i := 788) (by decide +kernel)
  | 4, _ => exact List.mem_of_getElem? (i := 789) (by decide +kernel)
  | 5, _ => exact List.mem_of_getElem? (i := 790) (by decide +kernel)
  | n + 6, h => exact absurd h (by omega)
theorem lk_nest : ∀ w ∈ hw_nest, w ∈ lw_tbl := List.forall_mem_cons.mpr ⟨List.mem_of_getElem? (i := 85) (by decide +kernel), List.forall_mem_cons.mpr ⟨List.mem_of_getElem? (i := 92) (by decide +kernel), List.forall_mem_cons.mpr ⟨List.mem_of_getElem? (i := 95) (by decide +kernel), List.forall_mem_cons.mpr ⟨List.mem_of_getElem? (i := 99) (by decide +kernel), List.forall_mem_cons.mpr ⟨List.mem_of_getElem? (i := 102) (by decide +kernel), List.forall_mem_cons.mpr ⟨List.mem_of_getElem? (i := 106) (by decide +kernel), List.forall_mem_cons.mpr ⟨List.mem_of_getElem? (i := 109) (by decide +kernel), List.forall_mem_cons.mpr ⟨List.mem_of_getElem? (i := 113) (by decide +kernel), List.forall_mem_cons.mpr ⟨List.mem_of_getElem? (i := 116) (by decide +kernel), List.forall_mem_cons.mpr ⟨List.mem_of_getElem? (i := 120) (by decide +kernel), List.forall_mem_cons.mpr ⟨List.mem_of_getElem? (i := 123) (by decide +kernel), List.forall_mem_cons.mpr ⟨List.mem_of_getElem? (i := 134) (by decide +kernel), List.forall_mem_cons.mpr ⟨List.mem_of_getElem? (i := 277) (by decide +kernel), fun _ h => absurd h List.not_mem_nil⟩⟩⟩⟩⟩⟩⟩⟩⟩⟩⟩⟩⟩
theorem lk_nw {s : State} {args : Array Value} (hts : ∀ w ∈ lw_tbl, w.before args s = true) {w : Cond} (hw : w.onTables = true) (i : Nat) (h : lw_tbl[i]? = some w) : va_Nw w s := va_Nw.of hw (hts w (List.mem_of_getElem? h))
theorem lk_fact {s : State} {args : Array Value} (hts : ∀ w ∈ lw_tbl, w.before args s = true) (cA : Nat → ClassId) : hw_fact s cA := by
  refine ⟨⟨tw_218, gw_at 255 (by decide +kernel) rfl⟩, fun C hC => ?_, fun t cv h => ?_⟩
  · simp only [hw_over, List.mem_cons, List.not_mem_nil, or_false] at hC
    rcases hC with rfl | rfl | rfl | rfl
    · exact va_AO.of (hts _ (List.mem_of_getElem? (i := 83) (by decide +kernel)))
    · exact va_AO.of (hts _ (List.mem_of_getElem? (i := 132) (by decide +kernel)))
    · exact va_AO.of (hts _ (List.mem_of_getElem? (i := 178) (by decide +kernel)))
    · exact va_AO.of (hts _ (List.mem_of_getElem? (i := 257) (by decide +kernel)))
  · have same : ∀ {C : String} (comp c0 : ClassId), s.vm.findClass C = some comp → s.vm.findClass C = some c0 → s.vm.assignable c0 comp = true := by
      intro C comp c0 h1 h2
      cases h1.symm.trans h2
      exact va_asg _ _
    rcases h with ⟨rfl, rfl⟩ | ⟨rfl, rfl⟩ | ⟨rfl, rfl | rfl | rfl | rfl | rfl | rfl⟩
    · exact ⟨"OneStroke$Drummer", (RX1, TX1, 8), rfl, rfl, fun comp c0 h1 h2 => same comp c0 h1 h2⟩
    · exact ⟨"OneStroke$Sheet", (RX6, TX6, 3), rfl, rfl, fun comp c0 h1 h2 => same comp c0 h1 h2⟩
    · exact ⟨"OneStroke$Kind", (RX3, TX3, 0), rfl, rfl, fun comp c0 h1 h2 => same comp c0 h1 h2⟩
    · exact ⟨"OneStroke$Kind", (RX7, TX7, 0), rfl, rfl, fun comp c0 h1 h2 => vb_asgC (lk_nw hts rfl 1495 (by decide +kernel)) comp c0 h1 h2⟩
    · exact ⟨"OneStroke$Kind", (RX2, TX2, 0), rfl, rfl, fun comp c0 h1 h2 => vb_asgC (lk_nw hts rfl 1496 (by decide +kernel)) comp c0 h1 h2⟩
    · exact ⟨"OneStroke$Kind", (RX4, TX4, 0), rfl, rfl, fun comp c0 h1 h2 => vb_asgC (lk_nw hts rfl 1497 (by decide +kernel)) comp c0 h1 h2⟩
    · exact ⟨"OneStroke$Kind", (RX10, TX10, 0), rfl, rfl, fun comp c0 h1 h2 => vb_asgC (lk_nw hts rfl 1498 (by decide +kernel)) comp c0 h1 h2⟩
    · exact ⟨"OneStroke$Kind", (RX0, TX0, 0), rfl, rfl, fun comp c0 h1 h2 => vb_asgC (lk_nw hts rfl 1499 (by decide +kernel)) comp c0 h1 h2⟩
/-- what is known at the law's entry -/
theorem lk_kn {s : State} {b : Nat} (hts : ∀ w ∈ lw_tbl, w.before #[Value.ref b] s = true) (hgv : (Jvm.Cond.and given_1 narrow_1).before #[Value.ref b] s = true) : ∃ (dC : Nat → ClassId) (dI : Nat → Nat → Nat) (cA : Nat → ClassId) (g : Nat → Nat → Nat), g 24 0 = b ∧ rt_kn s.heap.size (hs_ad s.heap.size g) dC dI cA s := by
  have htg : ∀ w ∈ gw_tbl, w.before #[Value.ref b] s = true := fun w hw => hts w (List.mem_filter.mp hw).1
  have hs : ∀ c ∈ lk_F, c.before #[Value.ref b] s = true := flat_of_before _ hgv
  have hA : ∀ a : Nat, a < s.heap.size → ¬ (fun q => s.heap.size ≤ q) a := fun a h => Nat.not_le.mpr h
  obtain ⟨dC, dI, hcl⟩ := lk_cls htg
  obtain ⟨c0, h0⟩ := lk_arr (Or.inl rfl) (htg _ tw_218)
  obtain ⟨c1, h1⟩ := lk_arr (Or.inr rfl) (htg _ (gw_at 255 (by decide +kernel) rfl : Cond.arrayClass .byte ∈ gw_tbl))
  obtain ⟨c2, h2⟩ := lk_arrO (C := "OneStroke$Drummer") (hts _ (List.mem_of_getElem? (i := 132) (by decide +kernel)))
  obtain ⟨c3, h3⟩ := lk_arrO (C := "OneStroke$Text") (hts _ (List.mem_of_getElem? (i := 178) (by decide +kernel)))
  obtain ⟨c4, h4⟩ := lk_arrO (C := "OneStroke$Kind") (hts _ (List.mem_of_getElem? (i := 83) (by decide +kernel)))
  obtain ⟨c5, h5⟩ := lk_arrO (C := "OneStroke$Sheet") (hts _ (List.mem_of_getElem? (i := 257) (by decide +kernel)))
  obtain ⟨cA, e0, e1, e2, e3, e4, e5⟩ : ∃ cA : Nat → ClassId, cA 0 = c0 ∧ cA 1 = c1 ∧ cA 2 = c2 ∧ cA 3 = c3 ∧ cA 4 = c4 ∧ cA 5 = c5 := ⟨fun k => if k = 0 then c0 else if k = 1 then c1 else if k = 2 then c2 else if k = 3 then c3 else if k = 4 then c4 else c5, rfl, rfl, rfl, rfl, rfl, rfl⟩
  subst e0 e1 e2 e3 e4 e5
  have hK : va_K (dC, dI) vwCl (sv_tys cA) s := by
    refine ⟨hcl, fun k q h => ?_⟩
    match k, h with
    | 0, h => cases h; exact h0
    | 1, h => cases h; exact h1
    | 2, h => cases h; exact h2
    | 3, h => cases h; exact h3
    | 4, h => cases h; exact h4
    | 5, h => cases h; exact h5
    | n + 6, h => simp [sv_tys] at h
  obtain ⟨tA, htA, hT⟩ := va_Tof (tm := .static "OneStroke" "ABOVE" "[I") (ty := .int) (N := 6) (f := fun j => .int (sv_ab j)) (A := fun q => s.heap.size ≤ q) (by decide) (hs _ lk_f8.1) (va_eqt (hs _ lk_f8.2.1)) (fun j hj => va_eqt (hs _ (lk_f7 j hj))) hA
  have hZ := va_Zof (A := fun q => s.heap.size ≤ q) (hts (Cond.laysStatic "OneStroke" "ABOVE" "[I") (List.mem_of_getElem? (i := 326) (by decide +kernel))) (htg _ tw_53) htA hA
  obtain ⟨adK, adV, hSS, hev⟩ := vk_Sof (args := #[Value.ref b]) (s := s) (N := 6) (tm := lk_tm) (len := sv_tl) (byt := sv_tb) (A := fun q => s.heap.size ≤ q) lk_f9 (fun i hi => hs _ (lk_f1 i hi)) (fun i hi => hs _ (lk_f2 i hi)) (fun i hi => hs _ (lk_f3 i hi)) (fun i hi => hs _ (lk_f4 i hi)) (fun i hi j hj => hs _ (lk_f5 i hi j hj)) (fun i j hi hj hij => by
    rcases Nat.lt_or_gt_of_ne hij with q | q
    · exact Or.inl (hs _ (lk_f6 i hi j hj q))
    · exact Or.inr (hs _ (lk_f6 j hj i hi q))) hA
  have hC := va_Zof (A := fun q => s.heap.size ≤ q) (hts (Cond.laysStatic "java/lang/String" "COMPACT_STRINGS" "Z") (List.mem_of_getElem? (i := 722) (by decide +kernel))) (htg _ tw_69) (va_eqi (hs _ lk_f8.2.2.1)) hA
  have hQ := va_Zqof (A := fun q => s.heap.size ≤ q) (hts (Cond.laysStatic "jdk/internal/util/Preconditions" "SIOOBE_FORMATTER" "Ljava/util/function/BiFunction;") (List.mem_of_getElem? (i := 738) (by decide +kernel))) (htg _ tw_71) (hs _ lk_f8.2.2.2) hA
  obtain ⟨g, g1, g2, g3, g4⟩ : ∃ g : Nat → Nat → Nat, g 21 0 = tA ∧ g 23 = adK ∧ g 25 = adV ∧ g 24 0 = b := ⟨fun r i => if r = 21 then tA else if r = 23 then adK i else if r = 25 then adV i else b, rfl, rfl, rfl, rfl⟩
  refine ⟨dC, dI, cA, g, g4, ?_, ⟨hK, lk_fact hts cA, fun w hw => va_Nw.of (by obtain ⟨_, _, _, _, rfl⟩ := hw_nest_is hw; rfl) (hts w (lk_nest w hw))⟩, lk_nw hts rfl 863 (by decide +kernel)⟩
  have k0 : sv_kn s.heap.size g dC dI cA s := by
    unfold sv_kn
    rw [g1, g2, g3]
    exact ⟨hK, hZ, hT, lk_nw hts rfl 400 (by decide +kernel), fun i hi => vk_R.of (hts _ (lk_str i hi)) (hev i hi), hSS, hC, hQ⟩
  exact k0.adq (funext fun i => if_pos (by omega)) (funext fun i => if_pos (by omega)) (funext fun i => if_pos (by omega))
