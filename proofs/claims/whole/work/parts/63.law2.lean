def R_law : String := "OneStrokeLaw"
def lw_P (b : Addr) (xs : List Int32) (args : Array Value) (s : State) : Prop := args = #[.ref b] ∧ s.IntsAt b xs ∧ xs.length ≤ 384 ∧ (Jvm.Cond.and given_1 narrow_1).before args s = true
def lw_Q (_ : Array Value) (s : State) (o : Outcome) (t : State) : Prop := o = .returned (some (.int 1)) ∧ Framed s o t [] 600000 7302249
def lw_Z (below : List Frame) (a : Array Value) (s : State) : State → Prop := fun t => ∃ o, t.status = .running ∧ Ended t below o ∧ lw_Q a s o t
/-- the law's own end, with 1 on the stack, nothing written that was there before, its room as the claim has it -/
theorem lw_ret {p : Program} {l : Launch} {e : Env} {s : State} {m : MethodId} {below : List Frame} {meth : Method} {c : Code} {b : Nat} (hx : p.tables.exec = Jvm.exec) (hb : c.code = code) (hr : meth.sig.returnType = ret) (hlocks : meth.locks = false) {pc : Nat} {H : Heap} {ls : Array Slot} (hdg : decode code pc = .ok (.ireturn, 1)) : W p l e room_1 s m #[Value.ref b] below meth c H [] 600000 7302249 (lw_Z below #[Value.ref b] s) (F0 m pc ls [.int 1]) := by
  intro T hT X
  obtain ⟨fs, hret, hrun, hended, hW, hframe⟩ := X.leave (v := some (.int 1)) (hlocks := hlocks) (fun h => by rw [hr] at h; cases h)
  have hmeth' : T.vm.method? m = some meth := X.method'
  refine ⟨T.setFrames fs, ?_, .returned (some (.int 1)), hrun, hended, rfl, ⟨_, rfl⟩, hW, hframe⟩
  jvm_step X.here [X.here.top, hx, hb, hdg, hmeth', hr, ret, narrow_b1]
  (try refine ⟨rfl, ?_⟩); (try refine ⟨rfl, ?_⟩)
  first | (intro acts; rw [hret _ acts rfl rfl rfl]) | rw [hret _ _ rfl rfl rfl]
  exact Steps.refl _
/-- what holds at the law's entry: the machine, the code, the tables' words (any of lw_tbl by 'hts w (by decide +kernel)'), the script of L ints xs at the cell b, what the Statement gives of the start (any of its parts by flat_of_before) -/
def lw_At (p : Program) (s : State) (m : MethodId) (meth : Method) (c : Code) (b L : Nat) (xs : Nat → Int32) : Prop :=
  p.tables.exec = Jvm.exec ∧ c.code = code ∧ meth.sig.returnType = ret ∧ c.maxLocals = 4 ∧ s.vm.findClass R_law = some m.cls ∧ (∀ w ∈ lw_tbl, w.before #[Value.ref b] s = true) ∧ va_X b L xs s s.heap ∧ b < s.heap.size ∧ meth.locks = false ∧ (Jvm.Cond.and given_1 narrow_1).before #[Value.ref b] s = true
/-! ===== the law's frame ===== -/
/-- the law's links: none but calls and the script -/
noncomputable def lw_ev (cs : List (Nat × (Nat × sv_F))) (L : Nat) (xs : Nat → Int32) : sv_E := (fun _ => none, (fun _ => none, (fun _ => 0, (true, (fun pc => sv_lk pc cs, some (L, xs))))))
noncomputable def lw_rt (v : sv_V) (_ : sv_S) : Option Unit := match v with
  | .inl n => sv_g (n = 1) (some ())
  | _ => none
def lw_lo (i : Nat) : sv_Lo := [some (sv_R 24 0), some (sv_R 0 0), some (sv_R 30 0), some (.inl (nI i))]
def lw_G (p : Program) (l : Launch) (e : Env) (s : State) (m : MethodId) (b : Nat) (below : List Frame) (meth : Method) (c : Code) (cells slots : Nat) (ad : Nat → Nat → Nat) (dC : Nat → ClassId) (dI : Nat → Nat → Nat) (cA : Nat → ClassId) (n0 : Nat) : sv_Ga := (p, (l, (e, (room_1, (s, (m, (#[Value.ref b], (below, (meth, (c, (cells, (slots, (lw_Z below #[Value.ref b] s, (s.heap.size, (ad, (dC, (dI, (cA, (true, (4, n0))))))))))))))))))))
def lw_X (p : Program) (s : State) (m : MethodId) (meth : Method) (c : Code) (b L : Nat) (xs : Nat → Int32) (cells slots : Nat) (ad : Nat → Nat → Nat) (dC : Nat → ClassId) (dI : Nat → Nat → Nat) (cA : Nat → ClassId) : Prop :=
  CallFix p m c code 4 s #[Value.ref b] gw_tbl "OneStrokeLaw" ∧ meth.sig.returnType = ret ∧ meth.locks = false ∧ rt_kn s.heap.size ad dC dI cA s ∧ va_X (ad 24 0) L xs s s.heap ∧ ad 24 0 < s.heap.size ∧ cells ≤ 600000 ∧ slots ≤ 7302249
section LWF
variable {p : Program} {l : Launch} {e : Env} {s : State} {m : MethodId} {b : Nat} {below : List Frame} {meth : Method} {c : Code} {L : Nat} {xs : Nat → Int32} {cells slots : Nat} {ad : Nat → Nat → Nat} {dC : Nat → ClassId} {dI : Nat → Nat → Nat} {cA : Nat → ClassId} {n0 : Nat}
theorem lw_ok {cs : List (Nat × (Nat × sv_F))} (X : lw_X p s m meth c b L xs cells slots ad dC dI cA) (hc : ∀ q ∈ cs, sv_cok p l e room_1 s m #[Value.ref b] below meth c cells slots (lw_Z below #[Value.ref b] s) s.heap.size ad dC dI cA true 4 n0 q.1 q.2.1 q.2.2) : sv_Ok (lw_G p l e s m b below meth c cells slots ad dC dI cA n0) (lw_ev cs L xs) code lw_rt () := by
  obtain ⟨⟨hx, hb, hml, hown, hts⟩, hr, hlk, hkn, hX, hlt, hcc, hss⟩ := X
  refine ⟨rfl, hx, hb, hts, ⟨"OneStrokeLaw", hown, fun idx q h => (by cases h), fun idx v h => (by cases h), fun idx => ⟨fun h => (by cases h), fun h => (by cases h)⟩⟩, hkn.1, fun pc n f hcs => ?_, fun q h => ?_, ?_, ?_, ?_⟩
  · exact sv_lk_all (P := fun pc (x : Nat × sv_F) => sv_cok p l e room_1 s m #[Value.ref b] below meth c cells slots (lw_Z below #[Value.ref b] s) s.heap.size ad dC dI cA true 4 n0 pc x.1 x.2) hc pc (n, f) hcs
  · cases h
    exact ⟨hX, hlt, Nat.not_le.mpr hlt⟩
  · intro pc lo n τ hdg hn H locs ls hR1 hS1 hL1 hct1 hst1 hlo1
    have hq := (sv_g_some hn).1
    subst hq
    refine va_forget hS1.2.2 ?_
    refine W.widen (k := 600000) (n := 7302249) hcc hss ?_
    exact lw_ret hx hb hr hlk hdg
  · intro pc lo v τ hdg hv hn
    rcases hv with rfl | ⟨r', i', rfl⟩ <;> cases hn
  · intro pc lo τ hdg hn
    cases hn
theorem lw_X.to {cells' slots' : Nat} {ad' : Nat → Nat → Nat} (X : lw_X p s m meth c b L xs cells slots ad dC dI cA) (hag : ∀ r i, r ≠ 18 → r ≠ 19 → r ≠ 20 → ad' r i = ad r i) (h1 : cells' ≤ 600000) (h2 : slots' ≤ 7302249) : lw_X p s m meth c b L xs cells' slots' ad' dC dI cA := by
  obtain ⟨a1, a2, a3, a4, a5, a6, -, -⟩ := X
  have e := hag 24 0 (by decide) (by decide) (by decide)
  exact ⟨a1, a2, a3, a4.ad hag, by rw [e]; exact a5, by rw [e]; exact a6, h1, h2⟩
theorem lw_lo_ok (i n : Nat) : ∀ j v, sv_ga (lw_lo i) j = some v → sv_ok n v ∧ (true = true → sv_1 v) := by
  intro j v hj
  match j, hj with
  | 0, hj => cases hj; exact ⟨⟨by show 0 < 1; decide, fun q => by cases q⟩, fun _ => trivial⟩
  | 1, hj => cases hj; exact ⟨⟨by show 0 < 1; decide, fun q => by cases q⟩, fun _ => trivial⟩
  | 2, hj => cases hj; exact ⟨⟨by show 0 < 1; decide, fun q => by cases q⟩, fun _ => trivial⟩
  | 3, hj => cases hj; exact ⟨trivial, fun _ => trivial⟩
  | j + 4, hj => cases hj
/-! reading the script -/
noncomputable def lw_rd (L : Nat) (xs : Nat → Int32) (i j : Int32) (k : Int32 → Option Unit) : Option Unit := sv_g (sv_in (i + j) L) (k (xs (i + j).toNatClampNeg))
theorem lw_rdj {i j : Nat} (hj : j < 6) (hi : i + 6 ≤ L) (hL : L ≤ 384) (k : Int32 → Option Unit) : lw_rd L xs (nI i) (nI j) k = k (xs (i + j)) := by
  unfold lw_rd
  have e : nI i + nI j = nI (i + j) := by
    unfold nI
    exact (Int32.ofNat_add i j).symm
  rw [e, pz_in (by omega) (by omega), pz_cl (by omega)]
theorem lw_rd1 {i : Nat} (hi : i + 6 ≤ L) (hL : L ≤ 384) (k : Int32 → Option Unit) : lw_rd L xs (nI i) 1 k = k (xs (i + 1)) := lw_rdj (j := 1) (by decide) hi hL k
theorem lw_rd2 {i : Nat} (hi : i + 6 ≤ L) (hL : L ≤ 384) (k : Int32 → Option Unit) : lw_rd L xs (nI i) 2 k = k (xs (i + 2)) := lw_rdj (j := 2) (by decide) hi hL k
theorem lw_rd3 {i : Nat} (hi : i + 6 ≤ L) (hL : L ≤ 384) (k : Int32 → Option Unit) : lw_rd L xs (nI i) 3 k = k (xs (i + 3)) := lw_rdj (j := 3) (by decide) hi hL k
theorem lw_rd4 {i : Nat} (hi : i + 6 ≤ L) (hL : L ≤ 384) (k : Int32 → Option Unit) : lw_rd L xs (nI i) 4 k = k (xs (i + 4)) := lw_rdj (j := 4) (by decide) hi hL k
theorem lw_rd5 {i : Nat} (hi : i + 6 ≤ L) (hL : L ≤ 384) (k : Int32 → Option Unit) : lw_rd L xs (nI i) 5 k = k (xs (i + 5)) := lw_rdj (j := 5) (by decide) hi hL k
noncomputable def lw_k (i : Nat) (lo : sv_Lo) (st : List sv_V) (υ : sv_S) : Option Unit := sv_g (lo = lw_lo i ∧ st = [] ∧ R_A υ) (some ())
theorem lw_k_t {i : Nat} {υ : sv_S} (h : R_A υ) : lw_k i (lw_lo i) [] υ = some () := sv_g_t ⟨rfl, rfl, h⟩
theorem lw_Kok {Γ : sv_Ga} {i : Nat} (next : ∀ υ, R_A υ → sv_T Γ 1385 (lw_lo i) [] υ) : ∀ pc k, (fun pc => sv_lk pc [(1385, lw_k i)]) pc = some k → ∀ lo st σ, k lo st σ = some () → sv_T Γ pc lo st σ :=
  sv_lk_all (P := fun pc (k : sv_Lo → List sv_V → sv_S → Option Unit) => ∀ lo st σ, k lo st σ = some () → sv_T Γ pc lo st σ) (List.forall_mem_cons.mpr ⟨fun lo st υ h => (by
    obtain ⟨⟨rfl, rfl, h3⟩, -⟩ := sv_g_some h
    exact next υ h3), fun _ h => absurd h List.not_mem_nil⟩)
end LWF
