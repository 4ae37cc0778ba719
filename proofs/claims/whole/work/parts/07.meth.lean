/-! ===== a method's contract out of its function ===== -/
abbrev sv_Ga : Type := Program × (Launch × (Env × (Room × (State × (MethodId × (Array Value × (List Frame × (Method × (Code × (Nat × (Nat × ((State → Prop) × (Nat × ((Nat → Nat → Nat) × ((Nat → ClassId) × ((Nat → Nat → Nat) × ((Nat → ClassId) × (Bool × (Nat × Nat)))))))))))))))))))
def sv_T (Γ : sv_Ga) (pc : Nat) (lo : sv_Lo) (st : List sv_V) (σ : sv_S) : Prop := match Γ with
  | (p, (l, (e, (R, (s, (m, (args, (below, (meth, (c, (cells, (slots, (Q, (base, (ad, (dC, (dI, (cA, (nl, (nL, n0)))))))))))))))))))) => sv_Wt p l e R s m args below meth c cells slots Q base ad dC dI cA nl nL n0 pc lo st σ
/-- links of a class's methods -/
def sv_lnk (own : String) (E : sv_E) : Prop := (∀ idx q, E.1 idx = some q → sv_fk own idx q.1 q.2) ∧ (∀ idx v, E.2.1 idx = some v → sv_1k own idx v) ∧ (∀ idx, (E.2.2.1 idx = 1 → Cond.fieldLink own idx "OneStroke" "ABOVE" "[I" ∈ gw_tbl) ∧ (E.2.2.1 idx = 2 → Cond.fieldLink own idx "java/lang/String" "COMPACT_STRINGS" "Z" ∈ gw_tbl))
def sv_Ok {β : Type} (Γ : sv_Ga) (E : sv_E) (cc : ByteArray) (rt : sv_V → sv_S → Option β) (res : β) : Prop := match Γ with
  | (p, (l, (e, (R, (s, (m, (args, (below, (meth, (c, (cells, (slots, (Q, (base, (ad, (dC, (dI, (cA, (nl, (nL, n0)))))))))))))))))))) => nl = E.2.2.2.1 ∧ p.tables.exec = Jvm.exec ∧ c.code = cc ∧ (∀ w ∈ gw_tbl, w.before args s = true) ∧ (∃ own, s.vm.findClass own = some m.cls ∧ sv_lnk own E) ∧ sv_kn base ad dC dI cA s ∧
    (∀ pc n f, E.2.2.2.2.1 pc = some (n, f) → sv_cok p l e R s m args below meth c cells slots Q base ad dC dI cA nl nL n0 pc n f) ∧ (∀ q, E.2.2.2.2.2 = some q → va_X (ad 24 0) q.1 q.2 s s.heap ∧ ad 24 0 < s.heap.size ∧ ¬ base ≤ ad 24 0) ∧
    (∀ pc lo n σ, decode cc pc = .ok (.ireturn, 1) → rt (.inl n) σ = some res → sv_Wt p l e R s m args below meth c cells slots Q base ad dC dI cA nl nL n0 pc lo [.inl n] σ) ∧
    (∀ pc lo v σ, decode cc pc = .ok (.areturn, 1) → (v = sv_N ∨ ∃ r i, v = sv_R r i) → rt v σ = some res → sv_Wt p l e R s m args below meth c cells slots Q base ad dC dI cA nl nL n0 pc lo [v] σ) ∧
    (∀ pc lo σ, decode cc pc = .ok (.return_, 1) → rt (sv_L 0) σ = some res → sv_Wt p l e R s m args below meth c cells slots Q base ad dC dI cA nl nL n0 pc lo [] σ)
theorem gw_u {C : String} {T : u_T} {N : Nat} (is : List Nat) (h : (List.range N).map (fun k => some (u_lay C T k)) = is.map (fun i => lw_tbl[i]?)) (hg : ∀ k, k < N → goodWord (u_lay C T k) = true) : ∀ w ∈ u_ws C T N, w ∈ gw_tbl := by
  intro w hw
  obtain ⟨k, hk, rfl⟩ := List.mem_map.mp hw
  have hk := List.mem_range.mp hk
  have h1 : ((List.range N).map (fun k => some (u_lay C T k)))[k]? = some (some (u_lay C T k)) := by simp [hk]
  rw [h, List.getElem?_map] at h1
  cases hi : is[k]? with
  | none => rw [hi] at h1; cases h1
  | some i => rw [hi] at h1; exact gw_at i (Option.some.inj h1) (hg k hk)
theorem sv_lk_all {α : Type} {P : Nat → α → Prop} : ∀ {L : List (Nat × α)}, (∀ q ∈ L, P q.1 q.2) → ∀ i x, sv_lk i L = some x → P i x
  | [], _, i, x, h => by cases h
  | q :: L, hq, i, x, h => by
    simp only [sv_lk] at h
    cases hb : Nat.beq i q.1 with
    | true =>
      rw [hb] at h
      simp only [cond_true, Option.some.injEq] at h
      have e := Nat.eq_of_beq_eq_true hb
      subst e
      subst h
      exact hq q List.mem_cons_self
    | false =>
      rw [hb] at h
      exact sv_lk_all (fun r hr => hq r (List.mem_cons_of_mem _ hr)) i x h
theorem sv_dc3 {cc : ByteArray} {cd : sv_C} (hD : cd.all (sv_dk cc) = true) {pc len : Nat} {ins : Instr} {w : sv_V × (Nat × (Nat × List (Int × Nat)))} (h : sv_at pc cd = some (ins, w)) (hl : sv_il ins = len + 1) : decode cc pc = .ok (ins, len + 1) := by
  have hm : (pc, (ins, w)) ∈ cd := by
    clear hD
    induction cd with
    | nil => cases h
    | cons q cd ih =>
      simp only [sv_at] at h
      cases hq : Nat.beq pc q.1 with
      | true =>
        rw [hq] at h
        simp only [cond_true, Option.some.injEq] at h
        have := Nat.eq_of_beq_eq_true hq
        subst this
        rw [← h]
        exact List.mem_cons_self
      | false =>
        rw [hq] at h
        exact List.mem_cons_of_mem _ (ih h)
  obtain ⟨cv, nx, tg, sw⟩ := w
  obtain ⟨len', hd, hlen, -⟩ := sv_dk_spec (List.all_eq_true.mp hD _ hm)
  rcases hlen with h0 | h0
  · rw [hl] at h0; cases h0
  · rw [hd, ← h0, hl]
theorem sv_w3 {a b c : Cond} (h1 : a ∈ gw_tbl) (h2 : b ∈ gw_tbl) (h3 : c ∈ gw_tbl) : ∀ w ∈ [a, b, c], w ∈ gw_tbl := by
  intro w h; simp only [List.mem_cons, List.not_mem_nil, or_false] at h; rcases h with rfl | rfl | rfl <;> assumption
theorem sv_w4 {a b c d : Cond} (h1 : a ∈ gw_tbl) (h2 : b ∈ gw_tbl) (h3 : c ∈ gw_tbl) (h4 : d ∈ gw_tbl) : ∀ w ∈ [a, b, c, d], w ∈ gw_tbl := by
  intro w h; simp only [List.mem_cons, List.not_mem_nil, or_false] at h; rcases h with rfl | rfl | rfl | rfl <;> assumption
theorem sv_w5 {a b c d e : Cond} (h1 : a ∈ gw_tbl) (h2 : b ∈ gw_tbl) (h3 : c ∈ gw_tbl) (h4 : d ∈ gw_tbl) (h5 : e ∈ gw_tbl) : ∀ w ∈ [a, b, c, d, e], w ∈ gw_tbl := by
  intro w h; simp only [List.mem_cons, List.not_mem_nil, or_false] at h; rcases h with rfl | rfl | rfl | rfl | rfl <;> assumption
theorem sv_w6 {a b c d e f : Cond} (h1 : a ∈ gw_tbl) (h2 : b ∈ gw_tbl) (h3 : c ∈ gw_tbl) (h4 : d ∈ gw_tbl) (h5 : e ∈ gw_tbl) (h6 : f ∈ gw_tbl) : ∀ w ∈ [a, b, c, d, e, f], w ∈ gw_tbl := by
  intro w h; simp only [List.mem_cons, List.not_mem_nil, or_false] at h; rcases h with rfl | rfl | rfl | rfl | rfl | rfl <;> assumption
theorem sv_w7 {a b c d e f g : Cond} (h1 : a ∈ gw_tbl) (h2 : b ∈ gw_tbl) (h3 : c ∈ gw_tbl) (h4 : d ∈ gw_tbl) (h5 : e ∈ gw_tbl) (h6 : f ∈ gw_tbl) (h7 : g ∈ gw_tbl) : ∀ w ∈ [a, b, c, d, e, f, g], w ∈ gw_tbl := by
  intro w h; simp only [List.mem_cons, List.not_mem_nil, or_false] at h; rcases h with rfl | rfl | rfl | rfl | rfl | rfl | rfl <;> assumption
/-! the locals at a method's entry -/
def sv_l0 : List sv_V → sv_Lo
  | [] => []
  | .inr (.inl n) :: l => some (sv_L n) :: none :: sv_l0 l
  | .inl n :: l => some (.inl n) :: sv_l0 l
  | .inr (.inr q) :: l => some (.inr (.inr q)) :: sv_l0 l
def sv_e0 (nL : Nat) (as : List sv_V) : sv_Lo := sv_l0 as ++ List.replicate (nL - (sv_l0 as).length) none
theorem sv_ll_rep (ad : Nat → Nat → Nat) : ∀ (n k : Nat), sv_ll ad k (List.replicate n none) = []
  | 0, _ => rfl
  | n + 1, k => by
    rw [List.replicate_succ]
    exact sv_ll_rep ad n (k + 1)
theorem sv_ll_l0 (ad : Nat → Nat → Nat) : ∀ (as : List sv_V) (k n : Nat), sv_ll ad k (sv_l0 as ++ List.replicate n none) = lv_args k (as.map (sv_c ad))
  | [], k, n => sv_ll_rep ad n k
  | .inr (.inl v) :: l, k, n => by
    show (k, Value.long v) :: sv_ll ad (k + 1 + 1) (sv_l0 l ++ List.replicate n none) = (k, Value.long v) :: lv_args (k + 2) (l.map (sv_c ad))
    rw [sv_ll_l0 ad l (k + 1 + 1) n]
  | .inl v :: l, k, n => by
    show (k, Value.int v) :: sv_ll ad (k + 1) (sv_l0 l ++ List.replicate n none) = (k, Value.int v) :: lv_args (k + 1) (l.map (sv_c ad))
    rw [sv_ll_l0 ad l (k + 1) n]
  | .inr (.inr none) :: l, k, n => by
    show (k, Value.null) :: sv_ll ad (k + 1) (sv_l0 l ++ List.replicate n none) = (k, Value.null) :: lv_args (k + 1) (l.map (sv_c ad))
    rw [sv_ll_l0 ad l (k + 1) n]
  | .inr (.inr (some (r, i))) :: l, k, n => by
    show (k, Value.ref (ad r i)) :: sv_ll ad (k + 1) (sv_l0 l ++ List.replicate n none) = (k, Value.ref (ad r i)) :: lv_args (k + 1) (l.map (sv_c ad))
    rw [sv_ll_l0 ad l (k + 1) n]
theorem sv_l0_len (ad : Nat → Nat → Nat) : ∀ (as : List sv_V), (sv_l0 as).length = (lg_sl (as.map (sv_c ad))).length
  | [] => rfl
  | .inr (.inl v) :: l => by
    have := sv_l0_len ad l
    simp_all [sv_l0, lg_sl, sv_c, Value.category]
  | .inl v :: l => by
    have := sv_l0_len ad l
    simp_all [sv_l0, lg_sl, sv_c, Value.category]
  | .inr (.inr none) :: l => by
    have := sv_l0_len ad l
    simp_all [sv_l0, lg_sl, sv_c, Value.category]
  | .inr (.inr (some (r, i))) :: l => by
    have := sv_l0_len ad l
    simp_all [sv_l0, lg_sl, sv_c, Value.category]
theorem sv_ga_l0 : ∀ (as : List sv_V) (n i : Nat) (v : sv_V), sv_ga (sv_l0 as ++ List.replicate n none) i = some v → v ∈ as
  | [], 0, i, v, h => by cases i <;> cases h
  | [], n + 1, 0, v, h => by cases h
  | [], n + 1, i + 1, v, h => sv_ga_l0 [] n i v h
  | .inr (.inl w) :: l, n, 0, v, h => by cases h; exact List.mem_cons_self
  | .inr (.inl w) :: l, n, 1, v, h => by cases h
  | .inr (.inl w) :: l, n, i + 2, v, h => List.mem_cons_of_mem _ (sv_ga_l0 l n i v h)
  | .inl w :: l, n, 0, v, h => by cases h; exact List.mem_cons_self
  | .inl w :: l, n, i + 1, v, h => List.mem_cons_of_mem _ (sv_ga_l0 l n i v h)
  | .inr (.inr q) :: l, n, 0, v, h => by cases h; exact List.mem_cons_self
  | .inr (.inr q) :: l, n, i + 1, v, h => List.mem_cons_of_mem _ (sv_ga_l0 l n i v h)
