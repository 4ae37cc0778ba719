/-! ===== the interpreter is right: one instruction ===== -/
theorem sv_cl32 (x : Int32) : x.toNatClampNeg < 2 ^ 31 := by
  have h := Int32.toInt_lt x
  have e : x.toNatClampNeg = x.toInt.toNat := rfl
  rw [e]
  omega
theorem sv_tx_nI {α : Type} {t : Nat} (ht : t + 1 < 2 ^ 31) (k0 : α) (k1 : Nat → α) : sv_tx (nI (t + 1)) k0 k1 = k1 t := by
  unfold sv_tx
  rw [sv_if_f (nI_ne0 (Nat.succ_pos t) ht), nI_clamp ht]
  rfl
theorem sv_dk_spec {cc : ByteArray} {pc : Nat} {ins : Instr} {cv : sv_V} {nx tg : Nat} {sw : List (Int × Nat)} (h : sv_dk cc (pc, (ins, (cv, (nx, (tg, sw))))) = true) : ∃ len, decode cc pc = .ok (ins, len) ∧ (sv_il ins = 0 ∨ sv_il ins = len) ∧ nx = pc + sv_il ins ∧ sv_sk pc cv tg sw ins = true := by
  unfold sv_dk at h
  dsimp only at h
  split at h
  · rename_i i0 len hd
    simp only [Bool.and_eq_true, Bool.or_eq_true, decide_eq_true_eq] at h
    obtain ⟨rfl, h1, h2, h3⟩ := h
    refine ⟨len, hd, ?_, Nat.eq_of_beq_eq_true h2, h3⟩
    rcases h1 with h1 | h1
    · exact Or.inl (Nat.eq_of_beq_eq_true h1)
    · exact Or.inr (Nat.eq_of_beq_eq_true h1)
  · cases h
theorem sv_t1 {P : sv_V → Prop} {a : sv_V} {st : List sv_V} (h : ∀ v ∈ a :: st, P v) : ∀ v ∈ st, P v := fun v q => h v (List.mem_cons_of_mem _ q)
theorem sv_cs {P : sv_V → Prop} {a : sv_V} {st : List sv_V} (ha : P a) (h : ∀ v ∈ st, P v) : ∀ v ∈ a :: st, P v := List.forall_mem_cons.mpr ⟨ha, h⟩
def sv_Wt (p : Program) (l : Launch) (e : Env) (R : Room) (s : State) (m : MethodId) (args : Array Value) (below : List Frame) (meth : Method) (c : Code) (cells slots : Nat) (Q : State → Prop) (base : Nat) (ad : Nat → Nat → Nat) (dC : Nat → ClassId) (dI : Nat → Nat → Nat) (cA : Nat → ClassId) (nl : Bool) (nL n0 : Nat) (pc : Nat) (lo : sv_Lo) (st : List sv_V) (σ : sv_S) : Prop :=
  ∀ (H : Heap) (locs : List Loc) (ls : Array Slot), sv_rep base ad dC dI cA σ H → va_S (fun q => base ≤ q) s.heap H locs → sv_lh ad ls nL lo → sv_ct σ = n0 → (∀ v ∈ st, sv_ok n0 v) → (∀ i v, sv_ga lo i = some v → sv_ok n0 v ∧ (nl = true → sv_1 v)) → W p l e R s m args below meth c H locs cells slots Q (F0 m pc ls (st.map (sv_c ad)))
/-- field references of live cells are live -/
theorem sv_fr_ok {n r i ci k : Nat} (hkN : k < sv_nf ci) (hl : sv_lv n r i) (hk : sv_kd r i = .inl ci) {q : Nat × Nat} (h : sv_fr ci i k = some q) : sv_lv n q.1 q.2 := by
  obtain ⟨h1, h2⟩ := hl
  unfold sv_kd at hk
  split at hk <;> simp only [Sum.inl.injEq, reduceCtorEq] at hk <;> subst hk <;> simp only [sv_nb] at h1
  · simp only [sv_fr] at h
    split at h <;> simp only [Option.some.injEq, reduceCtorEq] at h <;> subst h <;> exact ⟨by simp [sv_nb], by simp⟩
  · simp only [sv_fr] at h
    split at h <;> simp only [Option.some.injEq, reduceCtorEq] at h <;> subst h <;> exact ⟨by simp [sv_nb]; try omega, by simp⟩
  · simp [sv_fr] at h
  · split at h <;> simp [sv_fr] at h
  · simp only [sv_fr] at h
    split at h <;> simp only [Option.some.injEq, reduceCtorEq] at h <;> subst h <;> exact ⟨by simp [sv_nb], by simp⟩
  · simp only [sv_fr] at h
    split at h <;> simp only [Option.some.injEq, reduceCtorEq] at h <;> subst h <;> exact ⟨by simp [sv_nb]; try omega, by simp⟩
  · simp only [sv_fr] at h
    split at h <;> simp only [Option.some.injEq, reduceCtorEq] at h <;> subst h <;> exact ⟨by simp [sv_nb]; try omega, by simp⟩
  · simp only [sv_fr] at h
    split at h <;> simp only [Option.some.injEq, reduceCtorEq] at h <;> subst h <;> exact ⟨by simp [sv_nb]; try omega, by simp⟩
  · simp only [sv_fr] at h
    cases hk : sv_ar k with
    | false => rw [hk] at h; simp at h
    | true =>
      rw [hk] at h
      simp only [cond_true, Option.some.injEq] at h
      subst h
      refine ⟨?_, fun _ => hk⟩
      exact hkN

theorem sv_ft_fr {c j k : Nat} (h : sv_ft c k = 0 ∨ sv_ft c k = 1) : sv_fr c j k = none := by
  unfold sv_ft at h
  split at h
  · split at h <;> first | rfl | omega
  · split at h
    all_goals first
      | omega
      | (simp only [sv_fr]; done)
      | rfl
  · rfl
  · split at h
    all_goals first
      | omega
      | (simp only [sv_fr]; done)
      | rfl
  · split at h
    all_goals first
      | omega
      | (simp only [sv_fr]; done)
      | rfl
  · split at h
    · rfl
    · cases hk : sv_ar k with
      | false => simp [sv_fr, hk]
      | true => rw [hk] at h; simp at h
  · omega
theorem sv_kd6 {r j : Nat} (h : sv_kd r j = .inr 6) : r = 21 := by
  unfold sv_kd at h
  split at h <;> first | rfl | (exfalso; simp at h; done)
theorem sv_kd8 {r j : Nat} (h : sv_kd r j = .inr 8) : r = 24 := by
  unfold sv_kd at h
  split at h <;> first | rfl | (exfalso; simp at h; done)
theorem sv_kd13 {r j : Nat} (h : sv_kd r j = .inl 13) : r = 23 := by
  unfold sv_kd at h
  split at h <;> first | rfl | (exfalso; simp at h; done) | (exfalso; simp at h; split at h <;> simp at h; done)
theorem sv_kd7b {r j : Nat} (h : sv_kd r j = .inr 7) : r = 25 := by
  unfold sv_kd at h
  split at h <;> first | rfl | (exfalso; simp at h; done)
theorem sv_tys_at (cA : Nat → ClassId) {t : Nat} (h : t < 6) : ∃ ty, (sv_tys cA)[t]? = some (cA t, ty) := by
  match t, h with
  | 0, _ => exact ⟨_, rfl⟩
  | 1, _ => exact ⟨_, rfl⟩
  | 2, _ => exact ⟨_, rfl⟩
  | 3, _ => exact ⟨_, rfl⟩
  | 4, _ => exact ⟨_, rfl⟩
  | 5, _ => exact ⟨_, rfl⟩
theorem sv_kd2 {r j : Nat} (h : sv_kd r j = .inr 2) : r = 3 := by
  unfold sv_kd at h
  split at h <;> first | rfl | (exfalso; simp at h; done)
theorem sv_kd4 {r j : Nat} (h : sv_kd r j = .inr 4) : r = 6 := by
  unfold sv_kd at h
  split at h <;> first | rfl | (exfalso; simp at h; done)
theorem sv_kd5 {r j : Nat} (h : sv_kd r j = .inr 5) : r = 11 := by
  unfold sv_kd at h
  split at h <;> first | rfl | (exfalso; simp at h; done)
theorem sv_ar_ok2 {n r j k : Nat} {σ : sv_S} (hl : sv_lv n r j) (hk : sv_kd r j = .inr 2) (h : k < sv_ln r j σ) : sv_lv n 2 (10 * j + k) := by
  obtain rfl := sv_kd2 hk
  have h1 : j < 4 := hl.1
  refine ⟨?_, by simp⟩
  show 10 * j + k < 35
  by_cases h3 : j = 3
  · subst h3
    have h : k < 5 := h
    omega
  · have h : k < 10 := by
      simp only [sv_ln] at h
      exact h
    omega
theorem sv_ar_ok4 {n r j k : Nat} {σ : sv_S} (hl : sv_lv n r j) (hk : sv_kd r j = .inr 4) (h : k < sv_ln r j σ) : sv_lv n 7 k := by
  obtain rfl := sv_kd4 hk
  exact ⟨h, by simp⟩
theorem sv_ar_ok5 {n r j k : Nat} {σ : sv_S} (hl : sv_lv n r j) (hk : sv_kd r j = .inr 5) (h : k < sv_ln r j σ) : sv_lv n 12 (4 * j + k) := by
  obtain rfl := sv_kd5 hk
  have h1 : j < 2 := hl.1
  refine ⟨?_, by simp⟩
  show 4 * j + k < 9
  simp only [sv_ln] at h
  split at h <;> omega
section SVA
variable {p : Program} {l : Launch} {e : Env} {R : Room} {s : State} {m : MethodId} {args : Array Value} {below : List Frame} {meth : Method} {c : Code} {H : Heap} {locs : List Loc} {cells slots : Nat} {Q : State → Prop}
variable {cc : ByteArray} {pc : Nat} {ls : Array Slot} {rest : List Value} {base : Nat} {ad : Nat → Nat → Nat} {dC : Nat → ClassId} {dI : Nat → Nat → Nat} {cA : Nat → ClassId} {σ : sv_S} {own : String} {r i : Nat}
theorem sv_aastN (hx : p.tables.exec = Jvm.exec) (hb : c.code = cc) (hK : va_K (dC, dI) vwCl (sv_tys cA) s) (hR : sv_rep base ad dC dI cA σ H) (hS0 : va_S (fun q => base ≤ q) s.heap H locs) (hl : sv_lv (sv_ct σ) r i) (hk : sv_kd r i = .inr 3) {x : Int32} (hin : sv_in x (sv_ln r i σ)) (hdg : decode cc pc = .ok (.aastore, 1))
    (kk : ∀ (H1 : Heap) (locs1 : List Loc), sv_rep base ad dC dI cA (sv_up σ r i x.toNatClampNeg 0) H1 → va_S (fun q => base ≤ q) s.heap H1 locs1 → W p l e R s m args below meth c H1 locs1 cells slots Q (F0 m (pc + 1) ls rest)) : W p l e R s m args below meth c H locs cells slots Q (F0 m pc ls (.null :: .int x :: .ref (ad r i) :: rest)) := by
  obtain ⟨hA, hcell⟩ := hR.1 r i hl (sv_my_arr hk (by decide))
  obtain ⟨h18, h22⟩ := sv_no18 hk (by decide)
  refine va_WaastN (C := "OneStroke$Text") hx hb (hcell.ar hk) ((hK.2 3 _ rfl).1 _ _) (fun q => by cases q) (by rw [arrV_size]; exact sv_inv hin) rfl rfl hdg fun H1 e1 e2 e3 => ?_
  refine kk H1 _ (hR.up hl (sv_my_arr hk (by decide)) h18 h22 (fun _ => Or.inl rfl) ?_ e3) (hS0.put e2 e3 hA)
  unfold sv_cell
  rw [hk]
  show H1[ad r i]? = _
  rw [e1, arrV_store, sv_ln_up h18]
  congr 2
  funext j
  by_cases hj : j = x.toNatClampNeg
  · subst hj
    simp only [updV, if_true, sv_up_self]
    show Value.null = sv_c ad (sv_tx 0 sv_N (fun t => sv_R 18 t))
    unfold sv_tx
    rw [sv_if_t rfl]
    rfl
  · simp only [updV, if_neg hj]; rw [sv_up_k hj]
theorem sv_aastT (hx : p.tables.exec = Jvm.exec) (hb : c.code = cc) (hK : va_K (dC, dI) vwCl (sv_tys cA) s) (hR : sv_rep base ad dC dI cA σ H) (hS0 : va_S (fun q => base ≤ q) s.heap H locs) (hl : sv_lv (sv_ct σ) r i) (hk : sv_kd r i = .inr 3) {t : Nat} (ht : sv_lv (sv_ct σ) 18 t) {x : Int32} (hin : sv_in x (sv_ln r i σ)) (hdg : decode cc pc = .ok (.aastore, 1))
    (kk : ∀ (H1 : Heap) (locs1 : List Loc), sv_rep base ad dC dI cA (sv_up σ r i x.toNatClampNeg (nI (t + 1))) H1 → va_S (fun q => base ≤ q) s.heap H1 locs1 → W p l e R s m args below meth c H1 locs1 cells slots Q (F0 m (pc + 1) ls rest)) : W p l e R s m args below meth c H locs cells slots Q (F0 m pc ls (.ref (ad 18 t) :: .int x :: .ref (ad r i) :: rest)) := by
  obtain ⟨hA, hcell⟩ := hR.1 r i hl (sv_my_arr hk (by decide))
  obtain ⟨h18, h22⟩ := sv_no18 hk (by decide)
  obtain ⟨cellV, g1, g2, g3, -⟩ := (hR.1 18 t ht (sv_my_obj (i := t) (k := 9) rfl (by decide))).2.ob (k := 9) rfl
  have hcls := (hK.1 9 _ rfl).2
  obtain ⟨kA, comp, k1, k2, k3, -⟩ := (hK.2 3 _ rfl).2
  have hcomp : comp = dC 9 := Option.some.inj (k3.symm.trans hcls.1)
  subst hcomp
  have hass := va_assign hcls
  obtain ⟨kC, hkC, -⟩ := hcls.2
  have h0 : ¬ x < 0 := fun q => sv_inv hin (Or.inl q)
  refine W.aast hx hb (hcell.ar hk) (fun q h => by cases h) (fun h => by cases h) k1 k2 rfl hkC ⟨h0, by rw [arrV_size]; exact sv_int hin⟩ g1 (fun q h => by rw [g3] at h; cases h) (by rw [g2]; exact hkC) (by rw [g2]; exact hass) rfl rfl hdg fun H1 e1 e2 e3 => ?_
  refine kk H1 _ (hR.up hl (sv_my_arr hk (by decide)) h18 h22 (fun _ => Or.inr ⟨t, ht.1, rfl⟩) ?_ e3) (hS0.put e2 e3 hA)
  unfold sv_cell
  rw [hk]
  show H1[ad r i]? = _
  rw [e1, arrV_store, sv_ln_up h18]
  congr 2
  funext j
  by_cases hj : j = x.toNatClampNeg
  · subst hj
    simp only [updV, if_true, sv_up_self]
    show Value.ref (ad 18 t) = sv_c ad (sv_tx (nI (t + 1)) sv_N (fun t => sv_R 18 t))
    have hb1 : t < sv_ct σ := ht.1
    have hb2 : sv_ct σ < 2 ^ 31 := sv_cl32 _
    rw [sv_tx_nI (by omega)]
    rfl
  · simp only [updV, if_neg hj]; rw [sv_up_k hj]
end SVA
theorem sv_b_some {α β : Type} {x : Option (α × sv_S)} {k : α → sv_S → Option β} {y : β} (h : sv_b x k = some y) : ∃ a σ, x = some (a, σ) ∧ k a σ = some y := by
  unfold sv_b at h
  split at h
  · exact ⟨_, _, rfl, h⟩
  · cases h
theorem sv_b0_some {β : Type} {x : Option sv_S} {k : sv_S → Option β} {y : β} (h : sv_b0 x k = some y) : ∃ σ, x = some σ ∧ k σ = some y := by
  unfold sv_b0 at h
  split at h
  · exact ⟨_, rfl, h⟩
  · cases h
theorem sv_bT_some {β : Type} {x : Option (Option Nat × sv_S)} {k0 : sv_S → Option β} {k1 : Nat → sv_S → Option β} {y : β} (h : sv_bT x k0 k1 = some y) : (∃ σ, x = some (none, σ) ∧ k0 σ = some y) ∨ ∃ t σ, x = some (some t, σ) ∧ k1 t σ = some y := by
  unfold sv_bT at h
  split at h
  · exact Or.inl ⟨_, rfl, h⟩
  · exact Or.inr ⟨_, _, rfl, h⟩
  · cases h

/-- what a call is said to do, and does -/
def sv_cok (p : Program) (l : Launch) (e : Env) (R : Room) (s : State) (m : MethodId) (args : Array Value) (below : List Frame) (meth : Method) (c : Code) (cells slots : Nat) (Q : State → Prop) (base : Nat) (ad : Nat → Nat → Nat) (dC : Nat → ClassId) (dI : Nat → Nat → Nat) (cA : Nat → ClassId) (nl : Bool) (nL n0 : Nat) (pc n : Nat) (f : sv_F) : Prop :=
  ∀ (as rest : List sv_V) (lo : sv_Lo) (σ : sv_S), as.length = n → sv_sm rest = true → match f with
    | .inl F => ∀ v σ', F as σ = some (v, σ') → sv_Wt p l e R s m args below meth c cells slots Q base ad dC dI cA nl nL n0 (pc + 3) lo (.inl v :: rest) σ' → sv_Wt p l e R s m args below meth c cells slots Q base ad dC dI cA nl nL n0 pc lo (as.reverse ++ rest) σ
    | .inr (.inl F) => ∀ σ', F as σ = some σ' → sv_Wt p l e R s m args below meth c cells slots Q base ad dC dI cA nl nL n0 (pc + 3) lo rest σ' → sv_Wt p l e R s m args below meth c cells slots Q base ad dC dI cA nl nL n0 pc lo (as.reverse ++ rest) σ
    | .inr (.inr (.inl F)) => ∀ i σ', F.2 as σ = some (i, σ') → sv_Wt p l e R s m args below meth c cells slots Q base ad dC dI cA nl nL n0 (pc + 3) lo (sv_R F.1 i :: rest) σ' → sv_Wt p l e R s m args below meth c cells slots Q base ad dC dI cA nl nL n0 pc lo (as.reverse ++ rest) σ
    | .inr (.inr (.inr F)) => (∀ σ', F as σ = some (none, σ') → sv_Wt p l e R s m args below meth c cells slots Q base ad dC dI cA nl nL n0 (pc + 3) lo (sv_N :: rest) σ' → sv_Wt p l e R s m args below meth c cells slots Q base ad dC dI cA nl nL n0 pc lo (as.reverse ++ rest) σ) ∧ (∀ t σ', F as σ = some (some t, σ') → sv_Wt p l e R s m args below meth c cells slots Q base ad dC dI cA nl nL n0 (pc + 3) lo (sv_R 18 t :: rest) σ' → sv_Wt p l e R s m args below meth c cells slots Q base ad dC dI cA nl nL n0 pc lo (as.reverse ++ rest) σ)
theorem sv_tk_spec : ∀ (n : Nat) (acc st : List sv_V) (as rest : List sv_V), sv_tk n acc st = some (as, rest) → ∃ t, t.length = n ∧ st = t ++ rest ∧ as = t.reverse ++ acc
  | 0, acc, st, as, rest, h => by
    simp only [sv_tk, Option.some.injEq, Prod.mk.injEq] at h
    obtain ⟨rfl, rfl⟩ := h
    exact ⟨[], rfl, rfl, rfl⟩
  | n + 1, acc, [], as, rest, h => by simp [sv_tk] at h
  | n + 1, acc, v :: st, as, rest, h => by
    obtain ⟨t, h1, h2, h3⟩ := sv_tk_spec n (v :: acc) st as rest h
    refine ⟨v :: t, by simp [h1], by simp [h2], by simp [h3]⟩
theorem sv_tk1_spec {pc : Nat} {x : Int} {d : Nat} {β : Type} {go : Nat → Option β} {res : β} : ∀ (offs : List Int) (l : Int) (sw : List (Int × Nat)), sv_tk1 pc l offs sw = true → sv_sw x d go sw = some res → (go d = some res ∧ (x < l ∨ l + offs.length ≤ x)) ∨ ∃ (o : Int) (t : Nat), l ≤ x ∧ offs[(x - l).toNat]? = some o ∧ (pc : Int) + o = (t : Int) ∧ x < l + offs.length ∧ go t = some res
  | [], l, [], _, h => by
    left
    refine ⟨h, ?_⟩
    by_cases hx : x < l
    · exact Or.inl hx
    · right; simp; omega
  | [], l, _ :: _, h, _ => by simp [sv_tk1] at h
  | _ :: _, l, [], h, _ => by simp [sv_tk1] at h
  | o :: offs, l, q :: sw, h, hs => by
    simp only [sv_tk1, Bool.and_eq_true, decide_eq_true_eq] at h
    obtain ⟨⟨h1, h2⟩, h3⟩ := h
    simp only [sv_sw] at hs
    rcases sv_if_some hs with ⟨hx, hg⟩ | ⟨hx, hg⟩
    · right
      refine ⟨o, q.2, by omega, ?_, h2, ?_, hg⟩
      · have : (x - l).toNat = 0 := by omega
        rw [this]; rfl
      · simp only [List.length_cons]; omega
    · rcases sv_tk1_spec offs (l + 1) sw h3 hg with ⟨g1, g2⟩ | ⟨o', t, g1, g2, g3, g4, g5⟩
      · left
        refine ⟨g1, ?_⟩
        simp only [List.length_cons]
        omega
      · right
        refine ⟨o', t, by omega, ?_, g3, by simp only [List.length_cons]; omega, g5⟩
        have : (x - l).toNat = (x - (l + 1)).toNat + 1 := by omega
        rw [this]
        simpa using g2
theorem sv_tk2_spec {pc : Nat} {x d0 : Int} {d : Nat} {β : Type} {go : Nat → Option β} {res : β} (hd : (pc : Int) + d0 = (d : Int)) : ∀ (ps : List (Int × Int)) (sw : List (Int × Nat)), sv_tk2 pc ps sw = true → sv_sw x d go sw = some res → ∃ t : Nat, (pc : Int) + Op.lookupswitch.offset ps d0 x = (t : Int) ∧ go t = some res
  | [], [], _, h => ⟨d, hd, h⟩
  | [], _ :: _, h, _ => by simp [sv_tk2] at h
  | _ :: _, [], h, _ => by simp [sv_tk2] at h
  | o :: ps, q :: sw, h, hs => by
    simp only [sv_tk2, Bool.and_eq_true, decide_eq_true_eq] at h
    obtain ⟨⟨h1, h2⟩, h3⟩ := h
    obtain ⟨a, b⟩ := o
    rw [Op.lookupswitch.offset_cons]
    simp only [sv_sw] at hs
    rcases sv_if_some hs with ⟨hx, hg⟩ | ⟨hx, hg⟩
    · rw [if_pos (by rw [hx, h1])]
      exact ⟨q.2, h2, hg⟩
    · rw [if_neg (fun k => hx (by rw [h1]; exact k.symm))]
      exact sv_tk2_spec hd ps sw h3 hg
section SVC
variable {p : Program} {l : Launch} {e : Env} {R : Room} {s : State} {m : MethodId} {args : Array Value} {below : List Frame} {meth : Method} {c : Code} {cells slots : Nat} {Q : State → Prop}
variable {base : Nat} {ad : Nat → Nat → Nat} {dC : Nat → ClassId} {dI : Nat → Nat → Nat} {cA : Nat → ClassId} {nL n0 : Nat}
theorem sv_cl_ok {E : sv_E} (hE4 : ∀ pc n f, E.2.2.2.2.1 pc = some (n, f) → sv_cok p l e R s m args below meth c cells slots Q base ad dC dI cA E.2.2.2.1 nL n0 pc n f) {β : Type} {res : β} {pc : Nat} {lo : sv_Lo} {st : List sv_V} {σ : sv_S} {go : Nat → sv_Lo → List sv_V → sv_S → Option β}
    (hgo : ∀ pc lo st σ, go pc lo st σ = some res → sv_Wt p l e R s m args below meth c cells slots Q base ad dC dI cA E.2.2.2.1 nL n0 pc lo st σ)
    (h : sv_cl E pc (pc + 3) lo st σ go = some res) : sv_Wt p l e R s m args below meth c cells slots Q base ad dC dI cA E.2.2.2.1 nL n0 pc lo st σ := by
  unfold sv_cl at h
  split at h
  · cases h
  rename_i n f hE
  split at h
  · cases h
  rename_i as rest htk
  obtain ⟨t, h1, h2, h3⟩ := sv_tk_spec _ _ _ _ _ htk
  have hst : st = as.reverse ++ rest := by rw [h3]; simp [h2]
  have hn : as.length = n := by rw [h3]; simp [h1]
  cases hsm : sv_sm rest with
  | false => rw [hsm] at h; cases h
  | true =>
    rw [hsm] at h
    simp only [cond_true] at h
    have hc := hE4 pc n f hE as rest lo σ hn hsm
    rw [hst]
    rcases f with F | F | F | F
    · obtain ⟨v, σ', e1, e2⟩ := sv_b_some h
      exact hc v σ' e1 (hgo _ _ _ _ e2)
    · obtain ⟨σ', e1, e2⟩ := sv_b0_some h
      exact hc σ' e1 (hgo _ _ _ _ e2)
    · obtain ⟨v, σ', e1, e2⟩ := sv_b_some h
      exact hc v σ' e1 (hgo _ _ _ _ e2)
    · rcases sv_bT_some h with ⟨σ', e1, e2⟩ | ⟨t, σ', e1, e2⟩
      · exact hc.1 σ' e1 (hgo _ _ _ _ e2)
      · exact hc.2 t σ' e1 (hgo _ _ _ _ e2)
end SVC
section SVI
variable {p : Program} {l : Launch} {e : Env} {R : Room} {s : State} {m : MethodId} {args : Array Value} {below : List Frame} {meth : Method} {c : Code} {cells slots : Nat} {Q : State → Prop}
variable {cc : ByteArray} {base : Nat} {ad : Nat → Nat → Nat} {dC : Nat → ClassId} {dI : Nat → Nat → Nat} {cA : Nat → ClassId} {own : String} {nL n0 : Nat}
set_option maxHeartbeats 4000000 in
theorem sv_i_ok (hx : p.tables.exec = Jvm.exec) (hb : c.code = cc) (hts : ∀ w ∈ gw_tbl, w.before args s = true) (hown : s.vm.findClass own = some m.cls) (hkn : sv_kn base ad dC dI cA s) (hck : ∀ ci q, vwCl[ci]? = some q → sv_ck ci q)
    {E : sv_E} (hE1 : ∀ idx q, E.1 idx = some q → sv_fk own idx q.1 q.2) (hE2 : ∀ idx v, E.2.1 idx = some v → sv_1k own idx v) (hE3 : ∀ idx, (E.2.2.1 idx = 1 → Cond.fieldLink own idx "OneStroke" "ABOVE" "[I" ∈ gw_tbl) ∧ (E.2.2.1 idx = 2 → Cond.fieldLink own idx "java/lang/String" "COMPACT_STRINGS" "Z" ∈ gw_tbl)) (hE4 : ∀ pc n f, E.2.2.2.2.1 pc = some (n, f) → sv_cok p l e R s m args below meth c cells slots Q base ad dC dI cA E.2.2.2.1 nL n0 pc n f) (hE5 : ∀ q, E.2.2.2.2.2 = some q → va_X (ad 24 0) q.1 q.2 s s.heap ∧ ad 24 0 < s.heap.size ∧ ¬ base ≤ ad 24 0)
    {β : Type} {rt : sv_V → sv_S → Option β} {res : β}
    (hrI : ∀ pc lo n σ, decode cc pc = .ok (.ireturn, 1) → rt (.inl n) σ = some res → sv_Wt p l e R s m args below meth c cells slots Q base ad dC dI cA E.2.2.2.1 nL n0 pc lo [.inl n] σ)
    (hrA : ∀ pc lo v σ, decode cc pc = .ok (.areturn, 1) → (v = sv_N ∨ ∃ r i, v = sv_R r i) → rt v σ = some res → sv_Wt p l e R s m args below meth c cells slots Q base ad dC dI cA E.2.2.2.1 nL n0 pc lo [v] σ)
    (hrV : ∀ pc lo σ, decode cc pc = .ok (.return_, 1) → rt (sv_L 0) σ = some res → sv_Wt p l e R s m args below meth c cells slots Q base ad dC dI cA E.2.2.2.1 nL n0 pc lo [] σ)
    {pc : Nat} {ins : Instr} {cv : sv_V} {nx tg : Nat} {sw : List (Int × Nat)} (hD : sv_dk cc (pc, (ins, (cv, (nx, (tg, sw))))) = true) {lo : sv_Lo} {st : List sv_V} {σ : sv_S} {go : Nat → sv_Lo → List sv_V → sv_S → Option β}
    (hgo : ∀ pc lo st σ, go pc lo st σ = some res → sv_Wt p l e R s m args below meth c cells slots Q base ad dC dI cA E.2.2.2.1 nL n0 pc lo st σ)
    (h : sv_i E rt pc cv nx tg sw lo st σ go ins = some res) : sv_Wt p l e R s m args below meth c cells slots Q base ad dC dI cA E.2.2.2.1 nL n0 pc lo st σ := by
  obtain ⟨len, hd, hlen, hnx, hsk⟩ := sv_dk_spec hD
  obtain ⟨hK, hZ, hT, hNw, hVR, hVS, hCS, hSF⟩ := id hkn
  cases ins

  case iconst v =>
    obtain rfl : 1 = len := hlen.resolve_left (fun q => absurd q (Nat.succ_ne_zero _))
    have hnx : nx = pc + 1 := hnx
    subst hnx
    simp only [sv_i] at h
    simp only [sv_sk, decide_eq_true_eq] at hsk
    subst hsk
    intro H locs ls hR hS hL hct hst hlo
    subst hct
    exact lv_iconst hx hb hd rfl (hgo _ _ _ _ h H locs ls hR hS hL rfl (sv_cs trivial hst) hlo)
  case bipush v =>
    obtain rfl : 2 = len := hlen.resolve_left (fun q => absurd q (Nat.succ_ne_zero _))
    have hnx : nx = pc + 2 := hnx
    subst hnx
    simp only [sv_i] at h
    simp only [sv_sk, decide_eq_true_eq] at hsk
    subst hsk
    intro H locs ls hR hS hL hct hst hlo
    subst hct
    exact lv_bipush hx hb hd rfl (hgo _ _ _ _ h H locs ls hR hS hL rfl (sv_cs trivial hst) hlo)
  case sipush v =>
    obtain rfl : 3 = len := hlen.resolve_left (fun q => absurd q (Nat.succ_ne_zero _))
    have hnx : nx = pc + 3 := hnx
    subst hnx
    simp only [sv_i] at h
    simp only [sv_sk, decide_eq_true_eq] at hsk
    subst hsk
    intro H locs ls hR hS hL hct hst hlo
    subst hct
    exact lv_sipush hx hb hd rfl (hgo _ _ _ _ h H locs ls hR hS hL rfl (sv_cs trivial hst) hlo)
  case lconst v =>
    obtain rfl : 1 = len := hlen.resolve_left (fun q => absurd q (Nat.succ_ne_zero _))
    have hnx : nx = pc + 1 := hnx
    subst hnx
    simp only [sv_i] at h
    simp only [sv_sk, decide_eq_true_eq] at hsk
    subst hsk
    intro H locs ls hR hS hL hct hst hlo
    subst hct
    exact lv_lconst hx hb hd rfl (hgo _ _ _ _ h H locs ls hR hS hL rfl (sv_cs trivial hst) hlo)
  case aconst_null =>
    obtain rfl : 1 = len := hlen.resolve_left (fun q => absurd q (Nat.succ_ne_zero _))
    have hnx : nx = pc + 1 := hnx
    subst hnx
    simp only [sv_i] at h
    intro H locs ls hR hS hL hct hst hlo
    subst hct
    exact lv_null hx hb hd (hgo _ _ _ _ h H locs ls hR hS hL rfl (sv_cs trivial hst) hlo)
  case ldc idx =>
    obtain rfl : 2 = len := hlen.resolve_left (fun q => absurd q (Nat.succ_ne_zero _))
    have hnx : nx = pc + 2 := hnx
    subst hnx
    simp only [sv_i] at h
    split at h
    · rename_i n hn
      intro H locs ls hR hS hL hct hst hlo
      subst hct
      exact lv_ldc hx hb hown (hts _ (hE2 _ _ hn)) hd (hgo _ _ _ _ h H locs ls hR hS hL rfl (sv_cs trivial hst) hlo)
    · rename_i r i hn
      obtain ⟨rfl, hi, rfl, rfl⟩ := hE2 _ _ hn
      intro H locs ls hR hS hL hct hst hlo
      subst hct
      exact va_ldcS hx hb hown (hVR i hi) hd (hgo _ _ _ _ h H locs ls hR hS hL rfl (sv_cs ⟨hi, by simp⟩ hst) hlo)
    · cases h
  case ldc_w idx =>
    obtain rfl : 3 = len := hlen.resolve_left (fun q => absurd q (Nat.succ_ne_zero _))
    have hnx : nx = pc + 3 := hnx
    subst hnx
    simp only [sv_i] at h
    split at h
    · rename_i n hn
      intro H locs ls hR hS hL hct hst hlo
      subst hct
      exact lv_ldcw hx hb hown (hts _ (hE2 _ _ hn)) hd (hgo _ _ _ _ h H locs ls hR hS hL rfl (sv_cs trivial hst) hlo)
    · cases h
  case ldc2_w idx =>
    obtain rfl : 3 = len := hlen.resolve_left (fun q => absurd q (Nat.succ_ne_zero _))
    have hnx : nx = pc + 3 := hnx
    subst hnx
    simp only [sv_i] at h
    split at h
    · rename_i n hn
      intro H locs ls hR hS hL hct hst hlo
      subst hct
      exact lv_ldc2 hx hb hown (hts _ (hE2 _ _ hn)) hd (hgo _ _ _ _ h H locs ls hR hS hL rfl (sv_cs trivial hst) hlo)
    · cases h
  case iload_n k =>
    obtain rfl : 1 = len := hlen.resolve_left (fun q => absurd q (Nat.succ_ne_zero _))
    have hnx : nx = pc + 1 := hnx
    subst hnx
    simp only [sv_i] at h
    split at h
    · rename_i hn
      intro H locs ls hR hS hL hct hst hlo
      subst hct
      exact lv_iload_n hx hb hd rfl (hL.at hn) (hgo _ _ _ _ h H locs ls hR hS hL rfl (sv_cs (hlo _ _ hn).1 hst) hlo)
    · cases h
  case iload k =>
    obtain rfl : 2 = len := hlen.resolve_left (fun q => absurd q (Nat.succ_ne_zero _))
    have hnx : nx = pc + 2 := hnx
    subst hnx
    simp only [sv_i] at h
    split at h
    · rename_i hn
      intro H locs ls hR hS hL hct hst hlo
      subst hct
      exact lv_iload hx hb hd (hL.at hn) (hgo _ _ _ _ h H locs ls hR hS hL rfl (sv_cs (hlo _ _ hn).1 hst) hlo)
    · cases h
  case lload_n k =>
    obtain rfl : 1 = len := hlen.resolve_left (fun q => absurd q (Nat.succ_ne_zero _))
    have hnx : nx = pc + 1 := hnx
    subst hnx
    simp only [sv_i] at h
    split at h
    · rename_i hn
      intro H locs ls hR hS hL hct hst hlo
      subst hct
      exact lv_lload_n hx hb hd rfl (hL.at hn) (hgo _ _ _ _ h H locs ls hR hS hL rfl (sv_cs (hlo _ _ hn).1 hst) hlo)
    · cases h
  case lload k =>
    obtain rfl : 2 = len := hlen.resolve_left (fun q => absurd q (Nat.succ_ne_zero _))
    have hnx : nx = pc + 2 := hnx
    subst hnx
    simp only [sv_i] at h
    split at h
    · rename_i hn
      intro H locs ls hR hS hL hct hst hlo
      subst hct
      exact lv_lload hx hb hd (hL.at hn) (hgo _ _ _ _ h H locs ls hR hS hL rfl (sv_cs (hlo _ _ hn).1 hst) hlo)
    · cases h
  case aload_n k =>
    obtain rfl : 1 = len := hlen.resolve_left (fun q => absurd q (Nat.succ_ne_zero _))
    have hnx : nx = pc + 1 := hnx
    subst hnx
    simp only [sv_i] at h
    split at h
    · rename_i hn
      intro H locs ls hR hS hL hct hst hlo
      subst hct
      exact lv_aload_n hx hb hd rfl (hL.at hn) (hgo _ _ _ _ h H locs ls hR hS hL rfl (sv_cs (hlo _ _ hn).1 hst) hlo)
    · rename_i hn
      intro H locs ls hR hS hL hct hst hlo
      subst hct
      exact lv_aload_nN hx hb hd rfl (hL.at hn) (hgo _ _ _ _ h H locs ls hR hS hL rfl (sv_cs trivial hst) hlo)
    · cases h
  case aload k =>
    obtain rfl : 2 = len := hlen.resolve_left (fun q => absurd q (Nat.succ_ne_zero _))
    have hnx : nx = pc + 2 := hnx
    subst hnx
    simp only [sv_i] at h
    split at h
    · rename_i hn
      intro H locs ls hR hS hL hct hst hlo
      subst hct
      exact lv_aload hx hb hd (hL.at hn) (hgo _ _ _ _ h H locs ls hR hS hL rfl (sv_cs (hlo _ _ hn).1 hst) hlo)
    · rename_i hn
      intro H locs ls hR hS hL hct hst hlo
      subst hct
      exact lv_aloadN hx hb hd (hL.at hn) (hgo _ _ _ _ h H locs ls hR hS hL rfl (sv_cs trivial hst) hlo)
    · cases h
  case istore_n k =>
    obtain rfl : 1 = len := hlen.resolve_left (fun q => absurd q (Nat.succ_ne_zero _))
    have hnx : nx = pc + 1 := hnx
    subst hnx
    simp only [sv_i] at h
    split at h
    · cases hnl : (E.2.2.2.1 && Nat.ble (k + 1) lo.length) with
      | false => rw [hnl] at h; cases h
      | true =>
        rw [hnl] at h
        simp only [cond_true] at h
        simp only [Bool.and_eq_true] at hnl
        obtain ⟨hnl, hk⟩ := hnl
        have hk := Nat.le_of_ble_eq_true hk
        intro H locs ls hR hS hL hct hst hlo
        subst hct
        have h1 : ∀ j w, sv_ga lo j = some w → sv_1 w := fun j w hj => (hlo j w hj).2 hnl
        have hk' : (k : Nat) < nL := by rw [← hL.1]; exact hk
        refine lv_istore_n hx hb hd rfl hL.2 hk' rfl (fun ls' hl' => ?_)
        have hL' := sv_lh.put (v := .inl _) hL.1 hk' h1 hl'
        refine hgo _ _ _ _ h H locs ls' hR hS hL' rfl (sv_t1 hst) (fun i v hi => ?_)
        rw [sv_ga_se lo _ i _ hk] at hi
        split at hi
        · cases hi; exact ⟨hst _ List.mem_cons_self, fun _ => trivial⟩
        · exact hlo i v hi
    · cases h
  case istore k =>
    obtain rfl : 2 = len := hlen.resolve_left (fun q => absurd q (Nat.succ_ne_zero _))
    have hnx : nx = pc + 2 := hnx
    subst hnx
    simp only [sv_i] at h
    split at h
    · cases hnl : (E.2.2.2.1 && Nat.ble (k + 1) lo.length) with
      | false => rw [hnl] at h; cases h
      | true =>
        rw [hnl] at h
        simp only [cond_true] at h
        simp only [Bool.and_eq_true] at hnl
        obtain ⟨hnl, hk⟩ := hnl
        have hk := Nat.le_of_ble_eq_true hk
        intro H locs ls hR hS hL hct hst hlo
        subst hct
        have h1 : ∀ j w, sv_ga lo j = some w → sv_1 w := fun j w hj => (hlo j w hj).2 hnl
        have hk' : (k : Nat) < nL := by rw [← hL.1]; exact hk
        refine lv_istore hx hb hd hL.2 hk' rfl (fun ls' hl' => ?_)
        have hL' := sv_lh.put (v := .inl _) hL.1 hk' h1 hl'
        refine hgo _ _ _ _ h H locs ls' hR hS hL' rfl (sv_t1 hst) (fun i v hi => ?_)
        rw [sv_ga_se lo _ i _ hk] at hi
        split at hi
        · cases hi; exact ⟨hst _ List.mem_cons_self, fun _ => trivial⟩
        · exact hlo i v hi
    · cases h
  case astore_n k =>
    obtain rfl : 1 = len := hlen.resolve_left (fun q => absurd q (Nat.succ_ne_zero _))
    have hnx : nx = pc + 1 := hnx
    subst hnx
    simp only [sv_i] at h
    split at h
    · cases hnl : (E.2.2.2.1 && Nat.ble (k + 1) lo.length) with
      | false => rw [hnl] at h; cases h
      | true =>
        rw [hnl] at h
        simp only [cond_true] at h
        simp only [Bool.and_eq_true] at hnl
        obtain ⟨hnl, hk⟩ := hnl
        have hk := Nat.le_of_ble_eq_true hk
        intro H locs ls hR hS hL hct hst hlo
        subst hct
        have h1 : ∀ j w, sv_ga lo j = some w → sv_1 w := fun j w hj => (hlo j w hj).2 hnl
        have hk' : (k : Nat) < nL := by rw [← hL.1]; exact hk
        refine lv_astore_n hx hb hd rfl hL.2 hk' rfl (fun ls' hl' => ?_)
        have hL' := sv_lh.put (v := sv_R _ _) hL.1 hk' h1 hl'
        refine hgo _ _ _ _ h H locs ls' hR hS hL' rfl (sv_t1 hst) (fun i v hi => ?_)
        rw [sv_ga_se lo _ i _ hk] at hi
        split at hi
        · cases hi; exact ⟨hst _ List.mem_cons_self, fun _ => trivial⟩
        · exact hlo i v hi
    · cases hnl : (E.2.2.2.1 && Nat.ble (k + 1) lo.length) with
      | false => rw [hnl] at h; cases h
      | true =>
        rw [hnl] at h
        simp only [cond_true] at h
        simp only [Bool.and_eq_true] at hnl
        obtain ⟨hnl, hk⟩ := hnl
        have hk := Nat.le_of_ble_eq_true hk
        intro H locs ls hR hS hL hct hst hlo
        subst hct
        have h1 : ∀ j w, sv_ga lo j = some w → sv_1 w := fun j w hj => (hlo j w hj).2 hnl
        have hk' : (k : Nat) < nL := by rw [← hL.1]; exact hk
        refine lv_astore_nN hx hb hd rfl hL.2 hk' rfl (fun ls' hl' => ?_)
        have hL' := sv_lh.put (v := sv_N) hL.1 hk' h1 hl'
        refine hgo _ _ _ _ h H locs ls' hR hS hL' rfl (sv_t1 hst) (fun i v hi => ?_)
        rw [sv_ga_se lo _ i _ hk] at hi
        split at hi
        · cases hi; exact ⟨hst _ List.mem_cons_self, fun _ => trivial⟩
        · exact hlo i v hi
    · cases h
  case astore k =>
    obtain rfl : 2 = len := hlen.resolve_left (fun q => absurd q (Nat.succ_ne_zero _))
    have hnx : nx = pc + 2 := hnx
    subst hnx
    simp only [sv_i] at h
    split at h
    · cases hnl : (E.2.2.2.1 && Nat.ble (k + 1) lo.length) with
      | false => rw [hnl] at h; cases h
      | true =>
        rw [hnl] at h
        simp only [cond_true] at h
        simp only [Bool.and_eq_true] at hnl
        obtain ⟨hnl, hk⟩ := hnl
        have hk := Nat.le_of_ble_eq_true hk
        intro H locs ls hR hS hL hct hst hlo
        subst hct
        have h1 : ∀ j w, sv_ga lo j = some w → sv_1 w := fun j w hj => (hlo j w hj).2 hnl
        have hk' : (k : Nat) < nL := by rw [← hL.1]; exact hk
        refine lv_astore hx hb hd hL.2 hk' rfl (fun ls' hl' => ?_)
        have hL' := sv_lh.put (v := sv_R _ _) hL.1 hk' h1 hl'
        refine hgo _ _ _ _ h H locs ls' hR hS hL' rfl (sv_t1 hst) (fun i v hi => ?_)
        rw [sv_ga_se lo _ i _ hk] at hi
        split at hi
        · cases hi; exact ⟨hst _ List.mem_cons_self, fun _ => trivial⟩
        · exact hlo i v hi
    · cases hnl : (E.2.2.2.1 && Nat.ble (k + 1) lo.length) with
      | false => rw [hnl] at h; cases h
      | true =>
        rw [hnl] at h
        simp only [cond_true] at h
        simp only [Bool.and_eq_true] at hnl
        obtain ⟨hnl, hk⟩ := hnl
        have hk := Nat.le_of_ble_eq_true hk
        intro H locs ls hR hS hL hct hst hlo
        subst hct
        have h1 : ∀ j w, sv_ga lo j = some w → sv_1 w := fun j w hj => (hlo j w hj).2 hnl
        have hk' : (k : Nat) < nL := by rw [← hL.1]; exact hk
        refine lv_astoreN hx hb hd hL.2 hk' rfl (fun ls' hl' => ?_)
        have hL' := sv_lh.put (v := sv_N) hL.1 hk' h1 hl'
        refine hgo _ _ _ _ h H locs ls' hR hS hL' rfl (sv_t1 hst) (fun i v hi => ?_)
        rw [sv_ga_se lo _ i _ hk] at hi
        split at hi
        · cases hi; exact ⟨hst _ List.mem_cons_self, fun _ => trivial⟩
        · exact hlo i v hi
    · cases h
  case iinc k d =>
    obtain rfl : 3 = len := hlen.resolve_left (fun q => absurd q (Nat.succ_ne_zero _))
    have hnx : nx = pc + 3 := hnx
    subst hnx
    simp only [sv_i] at h
    simp only [sv_sk, decide_eq_true_eq] at hsk
    subst hsk
    split at h
    · rename_i n d' hn hd'
      cases hd'
      by_cases hnl : E.2.2.2.1 = true
      · rw [hnl] at h
        simp only [cond_true] at h
        intro H locs ls hR hS hL hct hst hlo
        subst hct
        have h1 : ∀ j w, sv_ga lo j = some w → sv_1 w := fun j w hj => (hlo j w hj).2 hnl
        have hk : k < nL := by rw [← hL.1]; exact sv_ga_lt _ _ _ hn
        obtain ⟨kk, hkk⟩ := List.getElem?_of_mem (sv_ll_in (ad := ad) lo 0 k _ hn)
        rw [Nat.zero_add] at hkk
        refine lv_iinc hx hb hd hL.2 hkk rfl hk rfl (fun ls' hl' => ?_)
        have hL' := sv_lh.put (v := .inl _) hL.1 hk h1 hl'
        refine hgo _ _ _ _ h H locs ls' hR hS hL' rfl hst (fun i v hi => ?_)
        rw [sv_ga_se lo _ i _ (by rw [hL.1]; exact hk)] at hi
        split at hi
        · cases hi; exact ⟨trivial, fun _ => trivial⟩
        · exact hlo i v hi
      · rw [Bool.not_eq_true] at hnl
        rw [hnl] at h
        cases h
    · cases h
  case iadd =>
    obtain rfl : 1 = len := hlen.resolve_left (fun q => absurd q (Nat.succ_ne_zero _))
    have hnx : nx = pc + 1 := hnx
    subst hnx
    simp only [sv_i] at h
    split at h
    · intro H locs ls hR hS hL hct hst hlo
      subst hct
      exact lv_iadd hx hb hd (hgo _ _ _ _ h H locs ls hR hS hL rfl (sv_cs trivial (sv_t1 (sv_t1 hst))) hlo)
    · cases h
  case isub =>
    obtain rfl : 1 = len := hlen.resolve_left (fun q => absurd q (Nat.succ_ne_zero _))
    have hnx : nx = pc + 1 := hnx
    subst hnx
    simp only [sv_i] at h
    split at h
    · intro H locs ls hR hS hL hct hst hlo
      subst hct
      exact lv_isub hx hb hd (hgo _ _ _ _ h H locs ls hR hS hL rfl (sv_cs trivial (sv_t1 (sv_t1 hst))) hlo)
    · cases h
  case imul =>
    obtain rfl : 1 = len := hlen.resolve_left (fun q => absurd q (Nat.succ_ne_zero _))
    have hnx : nx = pc + 1 := hnx
    subst hnx
    simp only [sv_i] at h
    split at h
    · intro H locs ls hR hS hL hct hst hlo
      subst hct
      exact lv_imul hx hb hd (hgo _ _ _ _ h H locs ls hR hS hL rfl (sv_cs trivial (sv_t1 (sv_t1 hst))) hlo)
    · cases h
  case iand =>
    obtain rfl : 1 = len := hlen.resolve_left (fun q => absurd q (Nat.succ_ne_zero _))
    have hnx : nx = pc + 1 := hnx
    subst hnx
    simp only [sv_i] at h
    split at h
    · intro H locs ls hR hS hL hct hst hlo
      subst hct
      exact lv_iand hx hb hd (hgo _ _ _ _ h H locs ls hR hS hL rfl (sv_cs trivial (sv_t1 (sv_t1 hst))) hlo)
    · cases h
  case ior =>
    obtain rfl : 1 = len := hlen.resolve_left (fun q => absurd q (Nat.succ_ne_zero _))
    have hnx : nx = pc + 1 := hnx
    subst hnx
    simp only [sv_i] at h
    split at h
    · intro H locs ls hR hS hL hct hst hlo
      subst hct
      exact lv_ior hx hb hd (hgo _ _ _ _ h H locs ls hR hS hL rfl (sv_cs trivial (sv_t1 (sv_t1 hst))) hlo)
    · cases h
  case ishl =>
    obtain rfl : 1 = len := hlen.resolve_left (fun q => absurd q (Nat.succ_ne_zero _))
    have hnx : nx = pc + 1 := hnx
    subst hnx
    simp only [sv_i] at h
    split at h
    · intro H locs ls hR hS hL hct hst hlo
      subst hct
      exact lv_ishl hx hb hd (hgo _ _ _ _ h H locs ls hR hS hL rfl (sv_cs trivial (sv_t1 (sv_t1 hst))) hlo)
    · cases h
  case ishr =>
    obtain rfl : 1 = len := hlen.resolve_left (fun q => absurd q (Nat.succ_ne_zero _))
    have hnx : nx = pc + 1 := hnx
    subst hnx
    simp only [sv_i] at h
    split at h
    · intro H locs ls hR hS hL hct hst hlo
      subst hct
      exact lv_ishr hx hb hd (hgo _ _ _ _ h H locs ls hR hS hL rfl (sv_cs trivial (sv_t1 (sv_t1 hst))) hlo)
    · cases h
  case ladd =>
    obtain rfl : 1 = len := hlen.resolve_left (fun q => absurd q (Nat.succ_ne_zero _))
    have hnx : nx = pc + 1 := hnx
    subst hnx
    simp only [sv_i] at h
    split at h
    · intro H locs ls hR hS hL hct hst hlo
      subst hct
      exact lv_ladd hx hb hd (hgo _ _ _ _ h H locs ls hR hS hL rfl (sv_cs trivial (sv_t1 (sv_t1 hst))) hlo)
    · cases h
  case iushr =>
    obtain rfl : 1 = len := hlen.resolve_left (fun q => absurd q (Nat.succ_ne_zero _))
    have hnx : nx = pc + 1 := hnx
    subst hnx
    simp only [sv_i] at h
    split at h
    · intro H locs ls hR hS hL hct hst hlo
      subst hct
      exact lv_iushr hx hb hd rfl (hgo _ _ _ _ h H locs ls hR hS hL rfl (sv_cs trivial (sv_t1 (sv_t1 hst))) hlo)
    · cases h
  case lcmp =>
    obtain rfl : 1 = len := hlen.resolve_left (fun q => absurd q (Nat.succ_ne_zero _))
    have hnx : nx = pc + 1 := hnx
    subst hnx
    simp only [sv_i] at h
    split at h
    · intro H locs ls hR hS hL hct hst hlo
      subst hct
      exact W.lcmp hx hb hd (hgo _ _ _ _ h H locs ls hR hS hL rfl (sv_cs trivial (sv_t1 (sv_t1 hst))) hlo)
    · cases h
  case ineg =>
    obtain rfl : 1 = len := hlen.resolve_left (fun q => absurd q (Nat.succ_ne_zero _))
    have hnx : nx = pc + 1 := hnx
    subst hnx
    simp only [sv_i] at h
    split at h
    · intro H locs ls hR hS hL hct hst hlo
      subst hct
      exact lv_ineg hx hb hd (hgo _ _ _ _ h H locs ls hR hS hL rfl (sv_cs trivial (sv_t1 hst)) hlo)
    · cases h
  case i2l =>
    obtain rfl : 1 = len := hlen.resolve_left (fun q => absurd q (Nat.succ_ne_zero _))
    have hnx : nx = pc + 1 := hnx
    subst hnx
    simp only [sv_i] at h
    split at h
    · intro H locs ls hR hS hL hct hst hlo
      subst hct
      exact lv_i2l hx hb hd rfl (hgo _ _ _ _ h H locs ls hR hS hL rfl (sv_cs trivial (sv_t1 hst)) hlo)
    · cases h
  case i2b =>
    obtain rfl : 1 = len := hlen.resolve_left (fun q => absurd q (Nat.succ_ne_zero _))
    have hnx : nx = pc + 1 := hnx
    subst hnx
    simp only [sv_i] at h
    split at h
    · intro H locs ls hR hS hL hct hst hlo
      subst hct
      exact lv_i2b hx hb hd rfl (hgo _ _ _ _ h H locs ls hR hS hL rfl (sv_cs trivial (sv_t1 hst)) hlo)
    · cases h
  case i2s =>
    obtain rfl : 1 = len := hlen.resolve_left (fun q => absurd q (Nat.succ_ne_zero _))
    have hnx : nx = pc + 1 := hnx
    subst hnx
    simp only [sv_i] at h
    split at h
    · intro H locs ls hR hS hL hct hst hlo
      subst hct
      exact lv_i2s hx hb hd rfl (hgo _ _ _ _ h H locs ls hR hS hL rfl (sv_cs trivial (sv_t1 hst)) hlo)
    · cases h
  case i2c =>
    obtain rfl : 1 = len := hlen.resolve_left (fun q => absurd q (Nat.succ_ne_zero _))
    have hnx : nx = pc + 1 := hnx
    subst hnx
    simp only [sv_i] at h
    split at h
    · intro H locs ls hR hS hL hct hst hlo
      subst hct
      exact lv_i2c hx hb hd rfl (hgo _ _ _ _ h H locs ls hR hS hL rfl (sv_cs trivial (sv_t1 hst)) hlo)
    · cases h
  case idiv =>
    obtain rfl : 1 = len := hlen.resolve_left (fun q => absurd q (Nat.succ_ne_zero _))
    have hnx : nx = pc + 1 := hnx
    subst hnx
    simp only [sv_i] at h
    split at h
    · obtain ⟨hne, h⟩ := sv_g_some h
      intro H locs ls hR hS hL hct hst hlo
      subst hct
      exact lv_idiv hx hb hd hne (hgo _ _ _ _ h H locs ls hR hS hL rfl (sv_cs trivial (sv_t1 (sv_t1 hst))) hlo)
    · cases h
  case irem =>
    obtain rfl : 1 = len := hlen.resolve_left (fun q => absurd q (Nat.succ_ne_zero _))
    have hnx : nx = pc + 1 := hnx
    subst hnx
    simp only [sv_i] at h
    split at h
    · obtain ⟨hne, h⟩ := sv_g_some h
      intro H locs ls hR hS hL hct hst hlo
      subst hct
      exact lv_irem hx hb hd hne (hgo _ _ _ _ h H locs ls hR hS hL rfl (sv_cs trivial (sv_t1 (sv_t1 hst))) hlo)
    · cases h
  case dup =>
    obtain rfl : 1 = len := hlen.resolve_left (fun q => absurd q (Nat.succ_ne_zero _))
    have hnx : nx = pc + 1 := hnx
    subst hnx
    simp only [sv_i] at h
    split at h
    · intro H locs ls hR hS hL hct hst hlo
      subst hct
      exact lv_dup hx hb hd rfl (hgo _ _ _ _ h H locs ls hR hS hL rfl (sv_cs trivial hst) hlo)
    · intro H locs ls hR hS hL hct hst hlo
      subst hct
      exact lv_dup hx hb hd rfl (hgo _ _ _ _ h H locs ls hR hS hL rfl (sv_cs (hst _ List.mem_cons_self) hst) hlo)
    · cases h
  case dup2 =>
    obtain rfl : 1 = len := hlen.resolve_left (fun q => absurd q (Nat.succ_ne_zero _))
    have hnx : nx = pc + 1 := hnx
    subst hnx
    simp only [sv_i] at h
    split at h
    · intro H locs ls hR hS hL hct hst hlo
      subst hct
      exact lv_dup2_11 hx hb hd rfl rfl (hgo _ _ _ _ h H locs ls hR hS hL rfl (sv_cs trivial (sv_cs (hst _ (List.mem_cons_of_mem _ List.mem_cons_self)) hst)) hlo)
    · cases h
  case pop =>
    obtain rfl : 1 = len := hlen.resolve_left (fun q => absurd q (Nat.succ_ne_zero _))
    have hnx : nx = pc + 1 := hnx
    subst hnx
    simp only [sv_i] at h
    split at h
    · intro H locs ls hR hS hL hct hst hlo
      subst hct
      exact lv_pop hx hb hd rfl (hgo _ _ _ _ h H locs ls hR hS hL rfl (sv_t1 hst) hlo)
    · cases h
  case goto o =>
    obtain rfl : 3 = len := hlen.resolve_left (fun q => absurd q (Nat.succ_ne_zero _))
    have hnx : nx = pc + 3 := hnx
    subst hnx
    simp only [sv_i] at h
    simp only [sv_sk, decide_eq_true_eq] at hsk
    intro H locs ls hR hS hL hct hst hlo
    subst hct
    exact lv_goto hx hb hd hsk (hgo _ _ _ _ h H locs ls hR hS hL rfl hst hlo)
  case ifCond cnd o =>
    obtain rfl : 3 = len := hlen.resolve_left (fun q => absurd q (Nat.succ_ne_zero _))
    have hnx : nx = pc + 3 := hnx
    subst hnx
    simp only [sv_i] at h
    simp only [sv_sk, decide_eq_true_eq] at hsk
    split at h
    · intro H locs ls hR hS hL hct hst hlo
      subst hct
      have hst' := (sv_t1 hst)
      cases cnd <;> simp only [sv_br] at h
      · rcases sv_if_some h with ⟨hc, h⟩ | ⟨hc, h⟩
        · exact lv_if_eq hx hb hd hsk (fun _ => hgo _ _ _ _ h H locs ls hR hS hL rfl hst' hlo) (fun q => absurd hc q)
        · exact lv_if_eq hx hb hd hsk (fun q => absurd q hc) (fun _ => hgo _ _ _ _ h H locs ls hR hS hL rfl hst' hlo)
      · rcases sv_if_some h with ⟨hc, h⟩ | ⟨hc, h⟩
        · exact lv_if_ne hx hb hd hsk (fun q => absurd hc q) (fun _ => hgo _ _ _ _ h H locs ls hR hS hL rfl hst' hlo)
        · exact lv_if_ne hx hb hd hsk (fun _ => hgo _ _ _ _ h H locs ls hR hS hL rfl hst' hlo) (fun q => absurd q hc)
      · rcases sv_if_some h with ⟨hc, h⟩ | ⟨hc, h⟩
        · exact lv_if_lt hx hb hd hsk (fun _ => hgo _ _ _ _ h H locs ls hR hS hL rfl hst' hlo) (fun q => absurd hc q)
        · exact lv_if_lt hx hb hd hsk (fun q => absurd q hc) (fun _ => hgo _ _ _ _ h H locs ls hR hS hL rfl hst' hlo)
      · rcases sv_if_some h with ⟨hc, h⟩ | ⟨hc, h⟩
        · exact lv_if_ge hx hb hd hsk (fun _ => hgo _ _ _ _ h H locs ls hR hS hL rfl hst' hlo) (fun q => absurd hc q)
        · exact lv_if_ge hx hb hd hsk (fun q => absurd q hc) (fun _ => hgo _ _ _ _ h H locs ls hR hS hL rfl hst' hlo)
      · rcases sv_if_some h with ⟨hc, h⟩ | ⟨hc, h⟩
        · exact lv_if_gt hx hb hd hsk (fun _ => hgo _ _ _ _ h H locs ls hR hS hL rfl hst' hlo) (fun q => absurd hc q)
        · exact lv_if_gt hx hb hd hsk (fun q => absurd q hc) (fun _ => hgo _ _ _ _ h H locs ls hR hS hL rfl hst' hlo)
      · rcases sv_if_some h with ⟨hc, h⟩ | ⟨hc, h⟩
        · exact lv_if_le hx hb hd hsk (fun _ => hgo _ _ _ _ h H locs ls hR hS hL rfl hst' hlo) (fun q => absurd hc q)
        · exact lv_if_le hx hb hd hsk (fun q => absurd q hc) (fun _ => hgo _ _ _ _ h H locs ls hR hS hL rfl hst' hlo)
    · cases h
  case if_icmp cnd o =>
    obtain rfl : 3 = len := hlen.resolve_left (fun q => absurd q (Nat.succ_ne_zero _))
    have hnx : nx = pc + 3 := hnx
    subst hnx
    simp only [sv_i] at h
    simp only [sv_sk, decide_eq_true_eq] at hsk
    split at h
    · intro H locs ls hR hS hL hct hst hlo
      subst hct
      have hst' := (sv_t1 (sv_t1 hst))
      cases cnd <;> simp only [sv_br] at h
      · rcases sv_if_some h with ⟨hc, h⟩ | ⟨hc, h⟩
        · exact lv_icmp_eq hx hb hd hsk (fun _ => hgo _ _ _ _ h H locs ls hR hS hL rfl hst' hlo) (fun q => absurd hc q)
        · exact lv_icmp_eq hx hb hd hsk (fun q => absurd q hc) (fun _ => hgo _ _ _ _ h H locs ls hR hS hL rfl hst' hlo)
      · rcases sv_if_some h with ⟨hc, h⟩ | ⟨hc, h⟩
        · exact lv_icmp_ne hx hb hd hsk (fun q => absurd hc q) (fun _ => hgo _ _ _ _ h H locs ls hR hS hL rfl hst' hlo)
        · exact lv_icmp_ne hx hb hd hsk (fun _ => hgo _ _ _ _ h H locs ls hR hS hL rfl hst' hlo) (fun q => absurd q hc)
      · rcases sv_if_some h with ⟨hc, h⟩ | ⟨hc, h⟩
        · exact lv_icmp_lt hx hb hd hsk (fun _ => hgo _ _ _ _ h H locs ls hR hS hL rfl hst' hlo) (fun q => absurd hc q)
        · exact lv_icmp_lt hx hb hd hsk (fun q => absurd q hc) (fun _ => hgo _ _ _ _ h H locs ls hR hS hL rfl hst' hlo)
      · rcases sv_if_some h with ⟨hc, h⟩ | ⟨hc, h⟩
        · exact lv_icmp_ge hx hb hd hsk (fun _ => hgo _ _ _ _ h H locs ls hR hS hL rfl hst' hlo) (fun q => absurd hc q)
        · exact lv_icmp_ge hx hb hd hsk (fun q => absurd q hc) (fun _ => hgo _ _ _ _ h H locs ls hR hS hL rfl hst' hlo)
      · rcases sv_if_some h with ⟨hc, h⟩ | ⟨hc, h⟩
        · exact lv_icmp_gt hx hb hd hsk (fun _ => hgo _ _ _ _ h H locs ls hR hS hL rfl hst' hlo) (fun q => absurd hc q)
        · exact lv_icmp_gt hx hb hd hsk (fun q => absurd q hc) (fun _ => hgo _ _ _ _ h H locs ls hR hS hL rfl hst' hlo)
      · rcases sv_if_some h with ⟨hc, h⟩ | ⟨hc, h⟩
        · exact lv_icmp_le hx hb hd hsk (fun _ => hgo _ _ _ _ h H locs ls hR hS hL rfl hst' hlo) (fun q => absurd hc q)
        · exact lv_icmp_le hx hb hd hsk (fun q => absurd q hc) (fun _ => hgo _ _ _ _ h H locs ls hR hS hL rfl hst' hlo)
    · cases h
  case ifnull o =>
    obtain rfl : 3 = len := hlen.resolve_left (fun q => absurd q (Nat.succ_ne_zero _))
    have hnx : nx = pc + 3 := hnx
    subst hnx
    simp only [sv_i] at h
    simp only [sv_sk, decide_eq_true_eq] at hsk
    split at h
    · intro H locs ls hR hS hL hct hst hlo
      subst hct
      exact lv_ifnullN hx hb hd hsk (hgo _ _ _ _ h H locs ls hR hS hL rfl (sv_t1 hst) hlo)
    · intro H locs ls hR hS hL hct hst hlo
      subst hct
      exact lv_ifnull hx hb hd (hgo _ _ _ _ h H locs ls hR hS hL rfl (sv_t1 hst) hlo)
    · cases h
  case ifnonnull o =>
    obtain rfl : 3 = len := hlen.resolve_left (fun q => absurd q (Nat.succ_ne_zero _))
    have hnx : nx = pc + 3 := hnx
    subst hnx
    simp only [sv_i] at h
    simp only [sv_sk, decide_eq_true_eq] at hsk
    split at h
    · intro H locs ls hR hS hL hct hst hlo
      subst hct
      exact lv_ifnonnullN hx hb hd (hgo _ _ _ _ h H locs ls hR hS hL rfl (sv_t1 hst) hlo)
    · intro H locs ls hR hS hL hct hst hlo
      subst hct
      exact lv_ifnonnull hx hb hd hsk (hgo _ _ _ _ h H locs ls hR hS hL rfl (sv_t1 hst) hlo)
    · cases h
  case tableswitch d lw hg offs =>
    simp only [sv_i] at h
    simp only [sv_sk, Bool.and_eq_true, decide_eq_true_eq] at hsk
    obtain ⟨⟨hq1, hq2⟩, hq3⟩ := hsk
    split at h
    · intro H locs ls hR hS hL hct hst hlo
      subst hct
      rcases sv_tk1_spec _ _ _ hq3 h with ⟨g1, g2⟩ | ⟨o, t, g1, g2, g3, g4, g5⟩
      · exact lv_tableOut hx hb hd (by omega) hq2 (hgo _ _ _ _ g1 H locs ls hR hS hL rfl (sv_t1 hst) hlo)
      · refine lv_tableIn hx hb hd (by omega) (by omega) ?_ g3 (hgo _ _ _ _ g5 H locs ls hR hS hL rfl (sv_t1 hst) hlo)
        rw [← Array.getElem?_toList]; exact g2
    · cases h
  case lookupswitch d ps =>
    simp only [sv_i] at h
    simp only [sv_sk, Bool.and_eq_true, decide_eq_true_eq] at hsk
    obtain ⟨⟨hq1, hq2⟩, hq3⟩ := hsk
    split at h
    · intro H locs ls hR hS hL hct hst hlo
      subst hct
      obtain ⟨t, g1, g2⟩ := sv_tk2_spec hq2 _ _ hq3 h
      exact lv_lookup hx hb hd hq1 rfl g1 (hgo _ _ _ _ g2 H locs ls hR hS hL rfl (sv_t1 hst) hlo)
    · cases h
  case getfield idx =>
    obtain rfl : 3 = len := hlen.resolve_left (fun q => absurd q (Nat.succ_ne_zero _))
    have hnx : nx = pc + 3 := hnx
    subst hnx
    simp only [sv_i] at h
    split at h
    · rename_i c0 k0 r j st' hE
      split at h
      · rename_i c' hkd
        cases hbeq : Nat.beq c' c0 with
        | false => rw [hbeq] at h; cases h
        | true =>
          rw [hbeq] at h
          simp only [cond_true] at h
          have hc' := Nat.eq_of_beq_eq_true hbeq
          subst hc'
          intro H locs ls hR hS hL hct hst hlo
          subst hct
          have hlv : sv_lv (sv_ct σ) r j := hst _ List.mem_cons_self
          rcases hE1 _ _ hE with hf | ⟨h13, hf⟩
          · have hkN : k0 < sv_nf c' := by
              obtain ⟨q, hq, hk, -⟩ := hf
              rw [← (hck _ _ hq).1]; exact hk
            have hn13 : Nat.beq c' 13 = false := by
              obtain ⟨q, hq, -⟩ := hf
              have hci : c' < 13 := (List.getElem?_eq_some_iff.mp hq).1
              cases hb13 : Nat.beq c' 13 with
              | false => rfl
              | true => have := Nat.eq_of_beq_eq_true hb13; omega
            refine sv_get hx hb hts hown hK hR hlv hkd (hck c') hf hd ?_
            split at h
            · rename_i r' j' hfr
              have e : sv_df c' j k0 (σ r j k0) = sv_R r' j' := by unfold sv_df; rw [hfr]
              rw [e]
              exact hgo _ _ _ _ h H locs ls hR hS hL rfl (sv_cs (sv_fr_ok hkN hlv hkd hfr) (sv_t1 hst)) hlo
            · rename_i hfr
              rw [hn13] at h
              have e : sv_df c' j k0 (σ r j k0) = .inl (σ r j k0) := by unfold sv_df; rw [hfr]
              rw [e]
              exact hgo _ _ _ _ h H locs ls hR hS hL rfl (sv_cs trivial (sv_t1 hst)) hlo
          · have h13 : c' = 13 := h13
            subst h13
            have hr : r = 23 := sv_kd13 hkd
            subst hr
            have hj : j < 6 := hlv.1
            obtain ⟨hO, hC, hV, hB⟩ := hVS.1 j hj
            rcases hf with ⟨hk, hl⟩ | ⟨hk, hl⟩
            · have hk : k0 = 0 := hk
              subst hk
              exact vk_getf hx hb hV hS hown (hts _ hl) (fun _ h9 => h9) hd (hgo _ _ _ _ h H locs ls hR hS hL rfl (sv_cs ⟨hj, by simp⟩ (sv_t1 hst)) hlo)
            · have hk : k0 = 1 := hk
              subst hk
              exact vk_getf hx hb hC hS hown (hts _ hl) (fun _ h9 => h9) hd (hgo _ _ _ _ h H locs ls hR hS hL rfl (sv_cs trivial (sv_t1 hst)) hlo)
      · cases h
    · cases h
  case putfield idx =>
    obtain rfl : 3 = len := hlen.resolve_left (fun q => absurd q (Nat.succ_ne_zero _))
    have hnx : nx = pc + 3 := hnx
    subst hnx
    simp only [sv_i] at h
    split at h
    · rename_i c0 k0 n r j st' hE
      split at h
      · rename_i c' hkd
        cases hbeq : Nat.beq c' c0 with
        | false => rw [hbeq] at h; cases h
        | true =>
          rw [hbeq] at h
          simp only [cond_true] at h
          have hc' := Nat.eq_of_beq_eq_true hbeq
          subst hc'
          intro H locs ls hR hS hL hct hst hlo
          subst hct
          have hst1 := sv_t1 hst
          have hlv : sv_lv (sv_ct σ) r j := hst1 _ List.mem_cons_self
          have hft : (sv_ft c' k0 = 0 ∨ sv_ft c' k0 = 1 ∧ (n = 0 ∨ n = 1)) ∧ go (pc + 3) lo st' (sv_up σ r j k0 n) = some res := by
            split at h
            · rename_i q; exact ⟨Or.inl q, h⟩
            · rename_i q; obtain ⟨h1, h2⟩ := sv_g_some h; exact ⟨Or.inr ⟨q, h1⟩, h2⟩
            · cases h
          obtain ⟨hft, h⟩ := hft
          have h9 : c' ≠ 9 := by rintro rfl; simp [sv_ft] at hft
          have h13 : c' ≠ 13 := by rintro rfl; simp [sv_ft] at hft
          have hf : ∃ q : vw_C, vwCl[c']? = some q ∧ k0 < q.2.2 ∧ Cond.fieldLink own idx (q.2.1 k0).1 (q.2.1 k0).2.1 (q.2.1 k0).2.2.1 ∈ gw_tbl := by
            rcases hE1 _ _ hE with hf | ⟨q, -⟩
            · exact hf
            · exact absurd q h13
          have h18 : r ≠ 18 := by rintro rfl; simp [sv_kd] at hkd; exact h9 hkd.symm
          have h22 : r ≠ 22 := by rintro rfl; simp [sv_kd] at hkd
          have hfr : sv_fr c' j k0 = none := sv_ft_fr (by rcases hft with h | h; exact Or.inl h; exact Or.inr h.1)
          refine sv_put hx hb hts hown hK hR hS hlv hkd (hck c') hf hfr h18 h22 hft hd (fun H1 locs1 hR1 hS1 => ?_)
          have hct : sv_ct (sv_up σ r j k0 n) = sv_ct σ := sv_ct_up h22
          exact hgo _ _ _ _ h H1 locs1 ls hR1 hS1 hL hct (sv_t1 hst1) hlo
      · cases h
    · cases h
  case getstatic idx =>
    obtain rfl : 3 = len := hlen.resolve_left (fun q => absurd q (Nat.succ_ne_zero _))
    have hnx : nx = pc + 3 := hnx
    subst hnx
    simp only [sv_i] at h
    split at h
    · rename_i hg
      intro H locs ls hR hS hL hct hst hlo
      subst hct
      exact va_gets hx hb hZ hS hown (hts _ ((hE3 _).1 hg)) (fun _ h9 => h9) hd (hgo _ _ _ _ h H locs ls hR hS hL rfl (sv_cs ⟨Nat.zero_lt_one, by simp⟩ hst) hlo)
    · rename_i hg
      intro H locs ls hR hS hL hct hst hlo
      subst hct
      exact va_gets hx hb hCS hS hown (hts _ ((hE3 _).2 hg)) (fun _ h9 => h9) hd (hgo _ _ _ _ h H locs ls hR hS hL rfl (sv_cs trivial hst) hlo)
    · cases h
  case arraylength =>
    obtain rfl : 1 = len := hlen.resolve_left (fun q => absurd q (Nat.succ_ne_zero _))
    have hnx : nx = pc + 1 := hnx
    subst hnx
    simp only [sv_i] at h
    split at h
    · rename_i r j st'
      split at h
      · rename_i hkd
        split at h
        · rename_i q hq
          obtain ⟨hX, hbl, hbA⟩ := hE5 q hq
          intro H locs ls hR hS hL hct hst hlo
          subst hct
          have hlv : sv_lv (sv_ct σ) r j := hst _ List.mem_cons_self
          have hr : r = 24 := sv_kd8 hkd
          subst hr
          have hj : j = 0 := by have := hlv.1; simp [sv_nb] at this; exact this
          subst hj
          exact va_slen hx hb hX hbl hbA hS hd (hgo _ _ _ _ h H locs ls hR hS hL rfl (sv_cs trivial (sv_t1 hst)) hlo)
        · cases h
      · rename_i hkd
        intro H locs ls hR hS hL hct hst hlo
        subst hct
        have hlv : sv_lv (sv_ct σ) r j := hst _ List.mem_cons_self
        have hr : r = 25 := sv_kd7b hkd
        subst hr
        have hj : j < 6 := hlv.1
        obtain ⟨cell, c1, c2, c3, c4, c5, c6, c7⟩ := (hVS.1 j hj).2.2.2
        exact W.alen (ty := .byte) hx hb (by rw [hS.2.1 _ (Array.getElem?_eq_some_iff.mp c1).1 c7]; exact c1) c2 c5 rfl rfl hd (hgo _ _ _ _ h H locs ls hR hS hL rfl (sv_cs trivial (sv_t1 hst)) hlo)
      · rename_i t hne hne7 hkd
        cases hble : Nat.ble t 6 with
        | false => rw [hble] at h; cases h
        | true =>
          rw [hble] at h
          simp only [cond_true] at h
          have ht := Nat.le_of_ble_eq_true hble
          intro H locs ls hR hS hL hct hst hlo
          subst hct
          have hlv : sv_lv (sv_ct σ) r j := hst _ List.mem_cons_self
          have hgo' := hgo _ _ _ _ h H locs ls hR hS hL rfl (sv_cs trivial (sv_t1 hst)) hlo
          by_cases ht6 : t = 6
          · subst ht6
            have hr : r = 21 := sv_kd6 hkd
            subst hr
            have hj : j = 0 := by have := hlv.1; simp [sv_nb] at this; exact this
            subst hj
            obtain ⟨cell, c1, c2, c3, c4, c5, c6, c7⟩ := hT
            exact W.alen (ty := .int) hx hb (by rw [hS.2.1 _ (Array.getElem?_eq_some_iff.mp c1).1 c7]; exact c1) c2 c5 rfl rfl hd hgo'
          · have ht5 : t < 6 := by omega
            obtain ⟨ty, hty⟩ := sv_tys_at cA ht5
            exact sv_alen hx hb hK hR hlv hkd ht5 hty hd hgo'
      · cases h
    · cases h
  case iaload =>
    obtain rfl : 1 = len := hlen.resolve_left (fun q => absurd q (Nat.succ_ne_zero _))
    have hnx : nx = pc + 1 := hnx
    subst hnx
    simp only [sv_i] at h
    split at h
    · rename_i x r j st'
      split at h
      · rename_i hkd
        obtain ⟨hin, h⟩ := sv_g_some h
        intro H locs ls hR hS hL hct hst hlo
        subst hct
        exact sv_iald hx hb hK hR (sv_t1 hst _ List.mem_cons_self) hkd hin hd (hgo _ _ _ _ h H locs ls hR hS hL rfl (sv_cs trivial (sv_t1 (sv_t1 hst))) hlo)
      · rename_i hkd
        obtain ⟨hin, h⟩ := sv_g_some h
        intro H locs ls hR hS hL hct hst hlo
        subst hct
        have hlv : sv_lv (sv_ct σ) r j := sv_t1 hst _ List.mem_cons_self
        have hr : r = 21 := sv_kd6 hkd
        subst hr
        have hj : j = 0 := by have := hlv.1; simp [sv_nb] at this; exact this
        subst hj
        obtain ⟨cell, c1, c2, c3, c4, c5, c6, c7⟩ := hT
        refine W.iald (v := .int (sv_ab x.toNatClampNeg)) hx hb (by rw [hS.2.1 _ (Array.getElem?_eq_some_iff.mp c1).1 c7]; exact c1) c2 c3 ?_ (c6 _ (sv_int hin)) rfl rfl hd (hgo _ _ _ _ h H locs ls hR hS hL rfl (sv_cs trivial (sv_t1 (sv_t1 hst))) hlo)
        have h3 := sv_inv hin
        have h4 := sv_int hin
        intro h5
        rcases h5 with h5 | h5
        · exact h3 (Or.inl h5)
        · omega
      · rename_i hkd
        split at h
        · rename_i q hq
          obtain ⟨hin, h⟩ := sv_g_some h
          obtain ⟨hX, hbl, hbA⟩ := hE5 q hq
          intro H locs ls hR hS hL hct hst hlo
          subst hct
          have hlv : sv_lv (sv_ct σ) r j := sv_t1 hst _ List.mem_cons_self
          have hr : r = 24 := sv_kd8 hkd
          subst hr
          have hj : j = 0 := by have := hlv.1; simp [sv_nb] at this; exact this
          subst hj
          exact va_sld hx hb hX hbl hbA hS (vp_in_iff.mpr hin) hd (hgo _ _ _ _ h H locs ls hR hS hL rfl (sv_cs trivial (sv_t1 (sv_t1 hst))) hlo)
        · cases h
      · cases h
    · cases h
  case iastore =>
    obtain rfl : 1 = len := hlen.resolve_left (fun q => absurd q (Nat.succ_ne_zero _))
    have hnx : nx = pc + 1 := hnx
    subst hnx
    simp only [sv_i] at h
    split at h
    · rename_i n x r j st'
      split at h
      · rename_i hkd
        obtain ⟨hin, h⟩ := sv_g_some h
        intro H locs ls hR hS hL hct hst hlo
        subst hct
        have hst2 := sv_t1 (sv_t1 hst)
        refine sv_iast hx hb hK hR hS (hst2 _ List.mem_cons_self) hkd hin hd (fun H1 locs1 hR1 hS1 => ?_)
        have hct : sv_ct (sv_up σ r j x.toNatClampNeg n) = sv_ct σ := sv_ct_up (sv_no18 hkd (by decide)).2
        exact hgo _ _ _ _ h H1 locs1 ls hR1 hS1 hL hct (sv_t1 hst2) hlo
      · cases h
    · cases h
  case baload =>
    obtain rfl : 1 = len := hlen.resolve_left (fun q => absurd q (Nat.succ_ne_zero _))
    have hnx : nx = pc + 1 := hnx
    subst hnx
    simp only [sv_i] at h
    split at h
    · rename_i x r j st'
      split at h
      · rename_i hkd
        obtain ⟨hin, h⟩ := sv_g_some h
        intro H locs ls hR hS hL hct hst hlo
        subst hct
        exact sv_bald hx hb hK hR (sv_t1 hst _ List.mem_cons_self) hkd hin hd (hgo _ _ _ _ h H locs ls hR hS hL rfl (sv_cs trivial (sv_t1 (sv_t1 hst))) hlo)
      · rename_i hkd
        obtain ⟨hin, h⟩ := sv_g_some h
        intro H locs ls hR hS hL hct hst hlo
        subst hct
        have hlv : sv_lv (sv_ct σ) r j := sv_t1 hst _ List.mem_cons_self
        have hr : r = 25 := sv_kd7b hkd
        subst hr
        have hj : j < 6 := hlv.1
        obtain ⟨cell, c1, c2, c3, c4, c5, c6, c7⟩ := (hVS.1 j hj).2.2.2
        refine W.bald (v := .int ((sv_tb.getD j []).getD x.toNatClampNeg 0)) hx hb (by rw [hS.2.1 _ (Array.getElem?_eq_some_iff.mp c1).1 c7]; exact c1) c2 c3 ?_ (c6 _ (sv_int hin)) rfl rfl hd (hgo _ _ _ _ h H locs ls hR hS hL rfl (sv_cs trivial (sv_t1 (sv_t1 hst))) hlo)
        have h3 := sv_inv hin
        have h4 := sv_int hin
        intro h5
        rcases h5 with h5 | h5
        · exact h3 (Or.inl h5)
        · omega
      · cases h
    · cases h
  case bastore =>
    obtain rfl : 1 = len := hlen.resolve_left (fun q => absurd q (Nat.succ_ne_zero _))
    have hnx : nx = pc + 1 := hnx
    subst hnx
    simp only [sv_i] at h
    split at h
    · rename_i n x r j st'
      split at h
      · rename_i hkd
        obtain ⟨hin, h⟩ := sv_g_some h
        intro H locs ls hR hS hL hct hst hlo
        subst hct
        have hst2 := sv_t1 (sv_t1 hst)
        refine sv_bast hx hb hK hR hS (hst2 _ List.mem_cons_self) hkd hin hd (fun H1 locs1 hR1 hS1 => ?_)
        have hct : sv_ct (sv_up σ r j x.toNatClampNeg n.toInt8.toInt32) = sv_ct σ := sv_ct_up (sv_no18 hkd (by decide)).2
        exact hgo _ _ _ _ h H1 locs1 ls hR1 hS1 hL hct (sv_t1 hst2) hlo
      · cases h
    · cases h
  case aaload =>
    obtain rfl : 1 = len := hlen.resolve_left (fun q => absurd q (Nat.succ_ne_zero _))
    have hnx : nx = pc + 1 := hnx
    subst hnx
    simp only [sv_i] at h
    split at h
    · rename_i x r j st'
      split at h
      · rename_i hkd
        obtain ⟨hin, h⟩ := sv_g_some h
        intro H locs ls hR hS hL hct hst hlo
        subst hct
        have hlv : sv_lv (sv_ct σ) r j := sv_t1 hst _ List.mem_cons_self
        exact sv_aald hx hb hK hR hlv hkd (by decide) rfl hin hd (hgo _ _ _ _ h H locs ls hR hS hL rfl (sv_cs (sv_ar_ok2 hlv hkd (sv_int hin)) (sv_t1 (sv_t1 hst))) hlo)
      · rename_i hkd
        obtain ⟨hin, h⟩ := sv_g_some h
        intro H locs ls hR hS hL hct hst hlo
        subst hct
        have hlv : sv_lv (sv_ct σ) r j := sv_t1 hst _ List.mem_cons_self
        refine sv_aald hx hb hK hR hlv hkd (by decide) rfl hin hd ?_
        show W p l e R s m args below meth c H locs cells slots Q (F0 m (pc + 1) ls (sv_c ad (sv_tx (σ r j x.toNatClampNeg) sv_N (fun t => sv_R 18 t)) :: List.map (sv_c ad) st'))
        unfold sv_tx at h ⊢
        rcases sv_if_some h with ⟨h0, h⟩ | ⟨h0, h⟩
        · rw [sv_if_t h0]
          exact hgo _ _ _ _ h H locs ls hR hS hL rfl (sv_cs trivial (sv_t1 (sv_t1 hst))) hlo
        · rw [sv_if_f h0]
          obtain ⟨hlt, h⟩ := sv_g_some h
          exact hgo _ _ _ _ h H locs ls hR hS hL rfl (sv_cs ⟨hlt, by simp⟩ (sv_t1 (sv_t1 hst))) hlo
      · rename_i hkd
        obtain ⟨hin, h⟩ := sv_g_some h
        intro H locs ls hR hS hL hct hst hlo
        subst hct
        have hlv : sv_lv (sv_ct σ) r j := sv_t1 hst _ List.mem_cons_self
        exact sv_aald hx hb hK hR hlv hkd (by decide) rfl hin hd (hgo _ _ _ _ h H locs ls hR hS hL rfl (sv_cs (sv_ar_ok4 hlv hkd (sv_int hin)) (sv_t1 (sv_t1 hst))) hlo)
      · rename_i hkd
        obtain ⟨hin, h⟩ := sv_g_some h
        intro H locs ls hR hS hL hct hst hlo
        subst hct
        have hlv : sv_lv (sv_ct σ) r j := sv_t1 hst _ List.mem_cons_self
        exact sv_aald hx hb hK hR hlv hkd (by decide) rfl hin hd (hgo _ _ _ _ h H locs ls hR hS hL rfl (sv_cs (sv_ar_ok5 hlv hkd (sv_int hin)) (sv_t1 (sv_t1 hst))) hlo)
      · cases h
    · cases h
  case aastore =>
    obtain rfl : 1 = len := hlen.resolve_left (fun q => absurd q (Nat.succ_ne_zero _))
    have hnx : nx = pc + 1 := hnx
    subst hnx
    simp only [sv_i] at h
    split at h
    · rename_i x r j st'
      split at h
      · rename_i hkd
        obtain ⟨hin, h⟩ := sv_g_some h
        intro H locs ls hR hS hL hct hst hlo
        subst hct
        have hst2 := sv_t1 (sv_t1 hst)
        refine sv_aastN hx hb hK hR hS (hst2 _ List.mem_cons_self) hkd hin hd (fun H1 locs1 hR1 hS1 => ?_)
        have hct : sv_ct (sv_up σ r j x.toNatClampNeg 0) = sv_ct σ := sv_ct_up (sv_no18 hkd (by decide)).2
        exact hgo _ _ _ _ h H1 locs1 ls hR1 hS1 hL hct (sv_t1 hst2) hlo
      · cases h
    · rename_i t x r j st'
      split at h
      · rename_i hkd
        obtain ⟨hin, h⟩ := sv_g_some h
        intro H locs ls hR hS hL hct hst hlo
        subst hct
        have hst2 := sv_t1 (sv_t1 hst)
        refine sv_aastT hx hb hK hR hS (hst2 _ List.mem_cons_self) hkd (hst _ List.mem_cons_self) hin hd (fun H1 locs1 hR1 hS1 => ?_)
        have hct : sv_ct (sv_up σ r j x.toNatClampNeg (nI (t + 1))) = sv_ct σ := sv_ct_up (sv_no18 hkd (by decide)).2
        exact hgo _ _ _ _ h H1 locs1 ls hR1 hS1 hL hct (sv_t1 hst2) hlo
      · cases h
    · cases h
  case invokevirtual idx =>
    obtain rfl : 3 = len := hlen.resolve_left (fun q => absurd q (Nat.succ_ne_zero _))
    have hnx : nx = pc + 3 := hnx
    subst hnx
    simp only [sv_i] at h
    exact sv_cl_ok hE4 hgo h
  case invokestatic idx =>
    obtain rfl : 3 = len := hlen.resolve_left (fun q => absurd q (Nat.succ_ne_zero _))
    have hnx : nx = pc + 3 := hnx
    subst hnx
    simp only [sv_i] at h
    exact sv_cl_ok hE4 hgo h
  case invokespecial idx =>
    obtain rfl : 3 = len := hlen.resolve_left (fun q => absurd q (Nat.succ_ne_zero _))
    have hnx : nx = pc + 3 := hnx
    subst hnx
    simp only [sv_i] at h
    exact sv_cl_ok hE4 hgo h
  case ireturn =>
    obtain rfl : 1 = len := hlen.resolve_left (fun q => absurd q (Nat.succ_ne_zero _))
    have hnx : nx = pc + 1 := hnx
    subst hnx
    simp only [sv_i] at h
    split at h
    · exact hrI _ _ _ _ hd h
    · cases h
  case areturn =>
    obtain rfl : 1 = len := hlen.resolve_left (fun q => absurd q (Nat.succ_ne_zero _))
    have hnx : nx = pc + 1 := hnx
    subst hnx
    simp only [sv_i] at h
    split at h
    · exact hrA _ _ _ _ hd (Or.inl rfl) h
    · exact hrA _ _ _ _ hd (Or.inr ⟨_, _, rfl⟩) h
    · cases h
  case return_ =>
    obtain rfl : 1 = len := hlen.resolve_left (fun q => absurd q (Nat.succ_ne_zero _))
    have hnx : nx = pc + 1 := hnx
    subst hnx
    simp only [sv_i] at h
    split at h
    · exact hrV _ _ _ hd h
    · cases h
  all_goals (simp only [sv_i] at h; cases h)
/-- a run -/
theorem sv_ex_ok (hx : p.tables.exec = Jvm.exec) (hb : c.code = cc) (hts : ∀ w ∈ gw_tbl, w.before args s = true) (hown : s.vm.findClass own = some m.cls) (hkn : sv_kn base ad dC dI cA s) (hck : ∀ ci q, vwCl[ci]? = some q → sv_ck ci q)
    {E : sv_E} (hE1 : ∀ idx q, E.1 idx = some q → sv_fk own idx q.1 q.2) (hE2 : ∀ idx v, E.2.1 idx = some v → sv_1k own idx v) (hE3 : ∀ idx, (E.2.2.1 idx = 1 → Cond.fieldLink own idx "OneStroke" "ABOVE" "[I" ∈ gw_tbl) ∧ (E.2.2.1 idx = 2 → Cond.fieldLink own idx "java/lang/String" "COMPACT_STRINGS" "Z" ∈ gw_tbl)) (hE4 : ∀ pc n f, E.2.2.2.2.1 pc = some (n, f) → sv_cok p l e R s m args below meth c cells slots Q base ad dC dI cA E.2.2.2.1 nL n0 pc n f) (hE5 : ∀ q, E.2.2.2.2.2 = some q → va_X (ad 24 0) q.1 q.2 s s.heap ∧ ad 24 0 < s.heap.size ∧ ¬ base ≤ ad 24 0)
    {β : Type} {rt : sv_V → sv_S → Option β} {res : β}
    (hrI : ∀ pc lo n σ, decode cc pc = .ok (.ireturn, 1) → rt (.inl n) σ = some res → sv_Wt p l e R s m args below meth c cells slots Q base ad dC dI cA E.2.2.2.1 nL n0 pc lo [.inl n] σ)
    (hrA : ∀ pc lo v σ, decode cc pc = .ok (.areturn, 1) → (v = sv_N ∨ ∃ r i, v = sv_R r i) → rt v σ = some res → sv_Wt p l e R s m args below meth c cells slots Q base ad dC dI cA E.2.2.2.1 nL n0 pc lo [v] σ)
    (hrV : ∀ pc lo σ, decode cc pc = .ok (.return_, 1) → rt (sv_L 0) σ = some res → sv_Wt p l e R s m args below meth c cells slots Q base ad dC dI cA E.2.2.2.1 nL n0 pc lo [] σ)
    {cd : sv_C} (hD : cd.all (sv_dk cc) = true) {K : sv_K β} (hK : ∀ pc k, K pc = some k → ∀ lo st σ, k lo st σ = some res → sv_Wt p l e R s m args below meth c cells slots Q base ad dC dI cA E.2.2.2.1 nL n0 pc lo st σ) :
    ∀ (n pc : Nat) (lo : sv_Lo) (st : List sv_V) (σ : sv_S), sv_ex E rt K cd n pc lo st σ = some res → sv_Wt p l e R s m args below meth c cells slots Q base ad dC dI cA E.2.2.2.1 nL n0 pc lo st σ := by
  have hat : ∀ (cd : sv_C) (pc : Nat) (w : sv_W), sv_at pc cd = some w → (pc, w) ∈ cd := by
    intro cd
    induction cd with
    | nil => intro pc w h; cases h
    | cons q cd ih =>
      intro pc w h
      simp only [sv_at] at h
      cases hq : Nat.beq pc q.1 with
      | true =>
        rw [hq] at h
        simp only [cond_true, Option.some.injEq] at h
        have := Nat.eq_of_beq_eq_true hq
        subst this
        subst h
        exact List.mem_cons_self
      | false =>
        rw [hq] at h
        exact List.mem_cons_of_mem _ (ih pc w h)
  intro n
  induction n with
  | zero => intro pc lo st σ h; cases h
  | succ n ih =>
    intro pc lo st σ h
    simp only [sv_ex] at h
    split at h
    · cases h
    · rename_i ins cv nx tg sw hw
      have hd := List.all_eq_true.mp hD _ (hat _ _ _ hw)
      refine sv_i_ok hx hb hts hown hkn hck hE1 hE2 hE3 hE4 hE5 hrI hrA hrV hd (fun pc lo st σ h => ?_) h
      split at h
      · rename_i k hk
        exact hK _ _ hk _ _ _ h
      · exact ih _ _ _ _ h
end SVI
