/-! ===== the interpreter is right: words, worlds, locals ===== -/
def gw_tbl : List Cond := lw_tbl.filter goodWord
theorem gw_mem {w : Cond} (h : w ∈ lw_tbl) (g : goodWord w = true) : w ∈ gw_tbl := List.mem_filter.mpr ⟨h, g⟩
theorem gw_at {w : Cond} (i : Nat) (h : lw_tbl[i]? = some w) (g : goodWord w = true) : w ∈ gw_tbl := gw_mem (List.mem_of_getElem? h) g
theorem gw_good (w : Cond) (h : w ∈ gw_tbl) : (w.onTables && w.keeps) = true ∨ ∃ ty, w = .arrayClass ty := good_of_word (List.mem_filter.mp h).2
/-- how far a run goes at most -/
def sv_fu : Nat := 4000
noncomputable def sv_rI (v : sv_V) (σ : sv_S) : Option (Int32 × sv_S) := match v with
  | .inl n => some (n, σ)
  | _ => none
noncomputable def sv_rZ (v : sv_V) (σ : sv_S) : Option (Int32 × sv_S) := match v with
  | .inl n => sv_g (n = 0 ∨ n = 1) (some (n, σ))
  | _ => none
noncomputable def sv_rN (ty : FieldType) (v : sv_V) (σ : sv_S) : Option (Int32 × sv_S) := match v with
  | .inl n => sv_g (narrow ty (.int n) = .int n) (some (n, σ))
  | _ => none
noncomputable def sv_rV (v : sv_V) (σ : sv_S) : Option sv_S := match v with
  | .inr (.inl _) => some σ
  | _ => none
noncomputable def sv_rR (q : Nat) (v : sv_V) (σ : sv_S) : Option (Nat × sv_S) := match v with
  | .inr (.inr (some (r, i))) => bif Nat.beq r q then some (i, σ) else none
  | _ => none
noncomputable def sv_rT (v : sv_V) (σ : sv_S) : Option (Option Nat × sv_S) := match v with
  | .inr (.inr none) => some (none, σ)
  | .inr (.inr (some (r, i))) => bif Nat.beq r 18 then some (some i, σ) else none
  | _ => none
theorem sv_if_t {α : Type} {c : Prop} {a b : α} (h : c) : sv_if c a b = a := by unfold sv_if; exact if_pos h
theorem sv_if_f {α : Type} {c : Prop} {a b : α} (h : ¬ c) : sv_if c a b = b := by unfold sv_if; exact if_neg h
theorem sv_if_some {α : Type} {c : Prop} {a b : Option α} {x : α} (h : sv_if c a b = some x) : (c ∧ a = some x) ∨ (¬ c ∧ b = some x) := by
  by_cases hc : c
  · rw [sv_if_t hc] at h; exact Or.inl ⟨hc, h⟩
  · rw [sv_if_f hc] at h; exact Or.inr ⟨hc, h⟩
theorem sv_g_some {α : Type} {c : Prop} {a : Option α} {x : α} (h : sv_g c a = some x) : c ∧ a = some x := by
  unfold sv_g at h
  rcases sv_if_some h with h | h
  · exact h
  · exact absurd h.2 (by simp)
theorem sv_g_t {α : Type} {c : Prop} {a : Option α} (h : c) : sv_g c a = a := sv_if_t h
/-! a store's places -/
theorem sv_up_self (σ : sv_S) (r i k : Nat) (n : Int32) : sv_up σ r i k n r i k = n := by simp [sv_up]
theorem sv_up_k {σ : sv_S} {r i k j : Nat} {n : Int32} (h : j ≠ k) : sv_up σ r i k n r i j = σ r i j := by simp [sv_up, h]
theorem sv_up_o {σ : sv_S} {r i k r' i' : Nat} {n : Int32} (h : ¬ (r' = r ∧ i' = i)) : sv_up σ r i k n r' i' = σ r' i' := by
  funext j
  simp only [sv_up]
  rw [if_neg]
  rintro ⟨h1, h2, -⟩
  exact h ⟨h1, h2⟩
theorem sv_ct_up {σ : sv_S} {r i k : Nat} {n : Int32} (h : r ≠ 22) : sv_ct (sv_up σ r i k n) = sv_ct σ := by
  unfold sv_ct
  rw [sv_up_o (fun q => h q.1.symm)]
theorem sv_ln_up {σ : sv_S} {r i k r' i' : Nat} {n : Int32} (h : r ≠ 18) : sv_ln r' i' (sv_up σ r i k n) = sv_ln r' i' σ := by
  have e : ∀ j, sv_up σ r i k n 18 j = σ 18 j := fun j => sv_up_o (fun q => h q.1.symm)
  unfold sv_ln
  split <;> first | rfl | rw [e]
/-- a value that isn't a long -/
def sv_1 (v : sv_V) : Prop := match v with
  | .inr (.inl _) => False
  | _ => True
theorem sv_1_cat {ad : Nat → Nat → Nat} {v : sv_V} (h : sv_1 v) : (sv_c ad v).category = 1 := by
  rcases v with n | n | _ | ⟨r, i⟩
  · rfl
  · exact absurd h (fun q => q)
  · rfl
  · rfl
/-! locals -/
theorem sv_ga_se : ∀ (lo : sv_Lo) (i j : Nat) (v : sv_V), i < lo.length → sv_ga (sv_se lo i v) j = if j = i then some v else sv_ga lo j
  | [], i, j, v, h => absurd h (Nat.not_lt_zero _)
  | a :: lo, 0, 0, v, _ => rfl
  | a :: lo, 0, j + 1, v, _ => rfl
  | a :: lo, i + 1, 0, v, _ => rfl
  | a :: lo, i + 1, j + 1, v, h => by
    show sv_ga (sv_se lo i v) j = _
    rw [sv_ga_se lo i j v (Nat.lt_of_succ_lt_succ h)]
    by_cases hj : j = i
    · rw [if_pos hj, if_pos (by rw [hj])]
    · rw [if_neg hj, if_neg (fun q => hj (Nat.succ.inj q))]; rfl
theorem sv_se_len : ∀ (lo : sv_Lo) (i : Nat) (v : sv_V), (sv_se lo i v).length = lo.length
  | [], _, _ => rfl
  | _ :: _, 0, _ => rfl
  | _ :: lo, i + 1, v => by
    show (sv_se lo i v).length + 1 = lo.length + 1
    rw [sv_se_len lo i v]
theorem sv_ga_lt : ∀ (lo : sv_Lo) (i : Nat) (v : sv_V), sv_ga lo i = some v → i < lo.length
  | [], i, v, h => by cases i <;> cases h
  | _ :: _, 0, _, _ => Nat.zero_lt_succ _
  | _ :: lo, i + 1, v, h => Nat.succ_lt_succ (sv_ga_lt lo i v h)
def sv_ll (ad : Nat → Nat → Nat) : Nat → sv_Lo → List (Nat × Value)
  | _, [] => []
  | k, some v :: l => (k, sv_c ad v) :: sv_ll ad (k + 1) l
  | k, none :: l => sv_ll ad (k + 1) l
theorem sv_ll_in {ad : Nat → Nat → Nat} : ∀ (lo : sv_Lo) (k i : Nat) (v : sv_V), sv_ga lo i = some v → (k + i, sv_c ad v) ∈ sv_ll ad k lo
  | [], k, i, v, h => by cases i <;> cases h
  | a :: lo, k, 0, v, h => by
    have h : a = some v := h
    subst h
    exact List.mem_cons_self
  | a :: lo, k, i + 1, v, h => by
    have ih := sv_ll_in (ad := ad) lo (k + 1) i v h
    rw [Nat.add_assoc, Nat.add_comm 1 i] at ih
    cases a with
    | none => exact ih
    | some w => exact List.mem_cons_of_mem _ ih
theorem sv_ll_of {ad : Nat → Nat → Nat} : ∀ (lo : sv_Lo) (k : Nat) (q : Nat × Value), q ∈ sv_ll ad k lo → ∃ i v, q = (k + i, sv_c ad v) ∧ sv_ga lo i = some v
  | [], k, q, h => by cases h
  | none :: lo, k, q, h => by
    obtain ⟨i, v, h1, h2⟩ := sv_ll_of lo (k + 1) q h
    exact ⟨i + 1, v, by rw [h1, Nat.add_assoc, Nat.add_comm 1 i], h2⟩
  | some w :: lo, k, q, h => by
    rcases List.mem_cons.mp h with h | h
    · exact ⟨0, w, h, rfl⟩
    · obtain ⟨i, v, h1, h2⟩ := sv_ll_of lo (k + 1) q h
      exact ⟨i + 1, v, by rw [h1, Nat.add_assoc, Nat.add_comm 1 i], h2⟩
/-- the machine's locals hold what the list says -/
def sv_lh (ad : Nat → Nat → Nat) (ls : Array Slot) (nL : Nat) (lo : sv_Lo) : Prop := lo.length = nL ∧ lv_has ls nL (sv_ll ad 0 lo)
theorem sv_lh.at {ad : Nat → Nat → Nat} {ls : Array Slot} {nL : Nat} {lo : sv_Lo} (h : sv_lh ad ls nL lo) {i : Nat} {v : sv_V} (hi : sv_ga lo i = some v) : ls[i]? = some (.val (sv_c ad v)) := by
  have h1 := h.2.2.2 _ (sv_ll_in (ad := ad) lo 0 i v hi)
  simpa using h1
theorem sv_lh.put {ad : Nat → Nat → Nat} {ls' : Array Slot} {nL i : Nat} {lo : sv_Lo} {v : sv_V} (hl : lo.length = nL) (hi : i < nL) (h1 : ∀ j w, sv_ga lo j = some w → sv_1 w)
    (h : lv_has ls' nL ((i, sv_c ad v) :: (sv_ll ad 0 lo).filter (fun q => !(q.1 == i) && !(q.1 + 1 == i && q.2.category == 2)))) : sv_lh ad ls' nL (sv_se lo i v) := by
  refine ⟨by rw [sv_se_len]; exact hl, h.1, h.2.1, fun q hq => ?_⟩
  obtain ⟨j, w, rfl, hj⟩ := sv_ll_of _ 0 q hq
  rw [sv_ga_se lo i j v (by rw [hl]; exact hi)] at hj
  by_cases hji : j = i
  · rw [if_pos hji] at hj
    have hw : v = w := Option.some.inj hj
    subst hw
    subst hji
    have := h.2.2 (j, sv_c ad v) List.mem_cons_self
    simpa using this
  · rw [if_neg hji] at hj
    have hm : (0 + j, sv_c ad w) ∈ (sv_ll ad 0 lo).filter (fun q => !(q.1 == i) && !(q.1 + 1 == i && q.2.category == 2)) := by
      refine List.mem_filter.mpr ⟨sv_ll_in lo 0 j w hj, ?_⟩
      have hc := sv_1_cat (ad := ad) (h1 j w hj)
      simp [hji, hc]
    exact h.2.2 _ (List.mem_cons_of_mem _ hm)
/-! cells -/
def sv_my (r : Nat) : Prop := r ≠ 21 ∧ r ≠ 23 ∧ r ≠ 24 ∧ r ≠ 25
def sv_cell (ad : Nat → Nat → Nat) (dC : Nat → ClassId) (dI : Nat → Nat → Nat) (cA : Nat → ClassId) (σ : sv_S) (r i : Nat) (H : Heap) : Prop := match sv_kd r i with
  | .inl k => t_OB (ad r i) (dC k) (sv_nf k) (dI k) H (fun j => sv_c ad (sv_df k i j (σ r i j)))
  | .inr t => H[ad r i]? = some (arrV (cA t) (sv_ln r i σ) (fun j => sv_c ad (sv_de t i j (σ r i j))))
def sv_rep (base : Nat) (ad : Nat → Nat → Nat) (dC : Nat → ClassId) (dI : Nat → Nat → Nat) (cA : Nat → ClassId) (σ : sv_S) (H : Heap) : Prop :=
  (∀ r i, sv_lv (sv_ct σ) r i → sv_my r → base ≤ ad r i ∧ sv_cell ad dC dI cA σ r i H) ∧
  (∀ r i r' i', sv_lv (sv_ct σ) r i → sv_lv (sv_ct σ) r' i' → sv_my r → sv_my r' → ad r i = ad r' i' → r = r' ∧ i = i') ∧
  ∀ a j, σ 4 a j = 0 ∨ ∃ t, t < sv_ct σ ∧ σ 4 a j = nI (t + 1)
theorem sv_cell.ob {ad : Nat → Nat → Nat} {dC : Nat → ClassId} {dI : Nat → Nat → Nat} {cA : Nat → ClassId} {σ : sv_S} {r i k : Nat} {H : Heap} (h : sv_cell ad dC dI cA σ r i H) (hk : sv_kd r i = .inl k) : t_OB (ad r i) (dC k) (sv_nf k) (dI k) H (fun j => sv_c ad (sv_df k i j (σ r i j))) := by
  unfold sv_cell at h
  rw [hk] at h
  exact h
theorem sv_cell.ar {ad : Nat → Nat → Nat} {dC : Nat → ClassId} {dI : Nat → Nat → Nat} {cA : Nat → ClassId} {σ : sv_S} {r i t : Nat} {H : Heap} (h : sv_cell ad dC dI cA σ r i H) (hk : sv_kd r i = .inr t) : H[ad r i]? = some (arrV (cA t) (sv_ln r i σ) (fun j => sv_c ad (sv_de t i j (σ r i j)))) := by
  unfold sv_cell at h
  rw [hk] at h
  exact h
theorem sv_cell.kept {ad : Nat → Nat → Nat} {dC : Nat → ClassId} {dI : Nat → Nat → Nat} {cA : Nat → ClassId} {σ σ' : sv_S} {r i : Nat} {H H1 : Heap} (h : sv_cell ad dC dI cA σ r i H) (hs : σ' r i = σ r i) (hn : sv_ln r i σ' = sv_ln r i σ) (hq : H1[ad r i]? = H[ad r i]?) : sv_cell ad dC dI cA σ' r i H1 := by
  unfold sv_cell at h ⊢
  rw [hs, hn]
  split
  · rename_i k hk
    rw [hk] at h
    exact t_OB.kept h hq
  · rename_i t ht
    rw [ht] at h
    exact hq.trans h
/-- a write to one place -/
theorem sv_rep.up {base : Nat} {ad : Nat → Nat → Nat} {dC : Nat → ClassId} {dI : Nat → Nat → Nat} {cA : Nat → ClassId} {σ : sv_S} {H H1 : Heap} {r i k : Nat} {n : Int32} (h : sv_rep base ad dC dI cA σ H) (hl : sv_lv (sv_ct σ) r i) (hm : sv_my r) (h18 : r ≠ 18) (h22 : r ≠ 22) (h4 : r = 4 → n = 0 ∨ ∃ t, t < sv_ct σ ∧ n = nI (t + 1))
    (hc : sv_cell ad dC dI cA (sv_up σ r i k n) r i H1) (hq : ∀ q : Nat, q ≠ ad r i → H1[q]? = H[q]?) : sv_rep base ad dC dI cA (sv_up σ r i k n) H1 := by
  unfold sv_rep
  rw [sv_ct_up h22]
  refine ⟨fun r' i' hl' hm' => ?_, h.2.1, fun a j => ?_⟩
  rotate_left
  · by_cases he : 4 = r ∧ a = i
    · obtain ⟨rfl, rfl⟩ := he
      by_cases hj : j = k
      · rw [hj, sv_up_self]; exact h4 rfl
      · rw [sv_up_k hj]; exact h.2.2 a j
    · rw [sv_up_o he]; exact h.2.2 a j
  by_cases he : r' = r ∧ i' = i
  · obtain ⟨rfl, rfl⟩ := he
    exact ⟨(h.1 r' i' hl' hm').1, hc⟩
  · refine ⟨(h.1 r' i' hl' hm').1, (h.1 r' i' hl' hm').2.kept (sv_up_o he) (sv_ln_up h18) (hq _ (fun q => he (h.2.1 _ _ _ _ hl' hl hm' hm q)))⟩
