/-! ===== the start's heap holds the start's store ===== -/
theorem hs_fr {c i k r j : Nat} (hc : c < 13) (h : sv_fr c i k = some (r, j)) : sv_my r := by
  unfold sv_fr at h
  unfold sv_my
  repeat' split at h
  all_goals first
    | (cases h; done)
    | (simp only [Option.some.injEq, Prod.mk.injEq] at h; omega)
    | (exfalso; omega)
    | (cases hb : sv_ar k with
        | true => rw [hb] at h; simp only [cond_true, Option.some.injEq, Prod.mk.injEq] at h; omega
        | false => rw [hb] at h; cases h)
theorem hs_c_v {base : Nat} {g : Nat → Nat → Nat} {v : sv_V} (h : ∀ r i, v = sv_R r i → sv_my r) : sv_c (hs_ad base g) v = sv_c (hw_ad base) (hs_v v) := by
  rcases v with n | n | _ | ⟨r, i⟩
  · rfl
  · rfl
  · rfl
  · obtain ⟨h1, h2, h3, h4⟩ := h r i rfl
    show Value.ref (hs_ad base g r i) = Value.ref (hw_ad base 0 (hs_o r i))
    unfold hs_ad hw_ad
    rw [if_neg (by omega)]
theorem hs_lv {r i : Nat} (h : sv_lv 0 r i) (hm : sv_my r) : (r ∈ [0, 1, 2, 3, 4, 5, 6, 7, 8, 9, 10, 11, 12, 13, 14, 15, 16, 17, 30] ∧ i ∈ List.range (sv_nb 0 r)) ∨ (r = 31 ∧ i ∈ List.range (sv_nb 0 31) ∧ sv_ar i = true) := by
  obtain ⟨h1, h2⟩ := h
  obtain ⟨m1, m2, m3, m4⟩ := hm
  by_cases g : r = 31
  · subst g
    exact Or.inr ⟨rfl, List.mem_range.mpr h1, h2 rfl⟩
  · refine Or.inl ⟨?_, List.mem_range.mpr h1⟩
    unfold sv_nb at h1
    split at h1
    all_goals first
      | (exact absurd h1 (Nat.not_lt_zero _))
      | (exact absurd rfl m1)
      | (exact absurd rfl m2)
      | (exact absurd rfl m3)
      | (exact absurd rfl m4)
      | (exact absurd rfl g)
      | (simp; done)
theorem hs_lvs_in {r i : Nat} (h : sv_lv 0 r i) (hm : sv_my r) : (r, i) ∈ hs_lvs := by
  unfold hs_lvs
  rcases hs_lv h hm with ⟨h1, h2⟩ | ⟨rfl, h1, h2⟩
  · exact List.mem_append_left _ (List.mem_flatMap.mpr ⟨r, h1, List.mem_map.mpr ⟨i, h2, rfl⟩⟩)
  · exact List.mem_append_right _ (List.mem_map.mpr ⟨i, List.mem_filter.mpr ⟨h1, h2⟩, rfl⟩)
theorem hs_apart {r i r' i' : Nat} (h : sv_lv 0 r i) (hm : sv_my r) (h' : sv_lv 0 r' i') (hm' : sv_my r') (e : hs_o r i = hs_o r' i') : r = r' ∧ i = i' := by
  have g := List.all_eq_true.mp (List.all_eq_true.mp hs_inj _ (hs_lvs_in h hm)) _ (hs_lvs_in h' hm')
  dsimp only at g
  rw [e] at g
  have hb : Nat.beq (hs_o r' i') (hs_o r' i') = true := Nat.beq_refl _
  rw [hb] at g
  simp only [Bool.not_true, Bool.false_or, Bool.and_eq_true] at g
  exact ⟨Nat.eq_of_beq_eq_true g.1, Nat.eq_of_beq_eq_true g.2⟩
theorem hs_cks_at {w : List hw_E} (hw : hs_cks w = true) {r i : Nat} (h : sv_lv 0 r i) (hm : sv_my r) : hs_ck w r i = true := by
  unfold hs_cks at hw
  rw [Bool.and_eq_true] at hw
  rcases hs_lv h hm with ⟨h1, h2⟩ | ⟨rfl, h1, h2⟩
  · exact List.all_eq_true.mp (List.all_eq_true.mp hw.1 r h1) i h2
  · have := List.all_eq_true.mp hw.2 i h1
    rw [h2] at this
    simpa using this
theorem hs_s4 (i j : Nat) : hs_s 4 i j = 0 := by simp [hs_s]
theorem hs_kd3 {r i : Nat} (h : sv_kd r i = .inr 3) : r = 4 := by
  unfold sv_kd at h
  split at h
  all_goals first
    | rfl
    | (simp only [Sum.inr.injEq] at h; omega)
    | (cases h; done)
    | (split at h <;> cases h)
theorem hs_kdm {r i k : Nat} (hm : sv_my r) (h : sv_kd r i = .inl k) : k < 13 := by
  obtain ⟨m1, m2, m3, m4⟩ := hm
  unfold sv_kd at h
  split at h
  all_goals first
    | (exact absurd rfl m1)
    | (exact absurd rfl m2)
    | (exact absurd rfl m3)
    | (exact absurd rfl m4)
    | (simp only [Sum.inl.injEq] at h; omega)
    | (cases h; done)
    | (split at h <;> (simp only [Sum.inl.injEq] at h; omega))
theorem hs_de_is {r i t j : Nat} (h : sv_kd r i = .inr t) : sv_de t i j (hs_s r i j) = hs_de t i j (hs_s r i j) := by
  by_cases g : t = 3
  · subst g
    have e := hs_kd3 h
    subst e
    rw [hs_s4]
    show sv_tx 0 sv_N _ = sv_N
    unfold sv_tx
    rw [sv_if_t rfl]
  · clear h
    match t, g with
    | 0, _ => rfl
    | 1, _ => rfl
    | 2, _ => rfl
    | 3, g => exact absurd rfl g
    | 4, _ => rfl
    | 5, _ => rfl
    | n + 6, _ => rfl
theorem hs_de_my {t i j : Nat} {n : Int32} {r k : Nat} (h : hs_de t i j n = sv_R r k) : sv_my r := by
  unfold hs_de at h
  unfold sv_my
  split at h
  all_goals first
    | (simp only [Sum.inr.injEq, Option.some.injEq, Prod.mk.injEq] at h; omega)
    | (cases h; done)
    | (simp at h; done)
theorem hs_df_my {c i j : Nat} {n : Int32} {r k : Nat} (hc : c < 13) (h : sv_df c i j n = sv_R r k) : sv_my r := by
  unfold sv_df at h
  split at h
  · rename_i q hq
    obtain ⟨q1, q2⟩ := q
    simp only [Sum.inr.injEq, Option.some.injEq, Prod.mk.injEq] at h
    have := hs_fr hc hq
    rw [h.1] at this
    exact this
  · cases h
theorem arrV_to {cI : ClassId} {n : Nat} {f g : Nat → Value} (h : ∀ j, j < n → f j = g j) : arrV cI n f = arrV cI n g := by
  unfold arrV
  congr 2
  funext j
  exact h j.val j.isLt
theorem hs_cell {base : Nat} {g : Nat → Nat → Nat} {dC : Nat → ClassId} {dI : Nat → Nat → Nat} {cA : Nat → ClassId} {w : List hw_E} {H : Heap} (hck : hs_cks w = true) (hW : HW base dC dI cA w H) {r i : Nat} (h : sv_lv 0 r i) (hm : sv_my r) : sv_cell (hs_ad base g) dC dI cA hs_s r i H := by
  have hc := hs_cks_at hck h hm
  have had : hs_ad base g r i = base + hs_o r i := by
    unfold hs_ad
    obtain ⟨m1, m2, m3, m4⟩ := hm
    rw [if_neg (by omega)]
  unfold hs_ck at hc
  split at hc
  · rename_i c fs he
    split at hc
    · rename_i k hk
      rw [Bool.and_eq_true] at hc
      have e := Nat.eq_of_beq_eq_true hc.1
      subst e
      unfold sv_cell
      rw [hk, had]
      refine (hw_ob hW he).to (fun j hj => ?_)
      have hj2 := of_decide_eq_true (List.all_eq_true.mp hc.2 j (List.mem_range.mpr hj))
      rw [hj2, hs_c_v (fun r k q => hs_df_my (hs_kdm hm hk) q)]
    · cases hc
  · rename_i t n df ups he
    split at hc
    · rename_i t' hk
      rw [Bool.and_eq_true, Bool.and_eq_true] at hc
      have e := Nat.eq_of_beq_eq_true hc.1
      subst e
      have e2 := Nat.eq_of_beq_eq_true hc.2.1
      unfold sv_cell
      rw [hk, had]
      show H[base + hs_o r i]? = _
      rw [hw_ar hW he, e2]
      congr 1
      refine arrV_to (fun j hj => ?_)
      have hj2 := of_decide_eq_true (List.all_eq_true.mp hc.2.2 j (List.mem_range.mpr (by rw [e2]; exact hj)))
      rw [hj2, hs_de_is hk, hs_c_v (fun r k q => hs_de_my q)]
    · cases hc
  · cases hc
theorem hs_rep {base : Nat} {g : Nat → Nat → Nat} {dC : Nat → ClassId} {dI : Nat → Nat → Nat} {cA : Nat → ClassId} {w : List hw_E} {H : Heap} (h2 : hs_2 = some w) (hW : HW base dC dI cA w H) : sv_rep base (hs_ad base g) dC dI cA hs_s H := by
  have hck : hs_cks w = true := by
    have := hs_2_ck
    rw [h2] at this
    exact Option.some.inj this
  have had : ∀ r i, sv_my r → hs_ad base g r i = base + hs_o r i := by
    intro r i hm
    unfold hs_ad
    obtain ⟨m1, m2, m3, m4⟩ := hm
    rw [if_neg (by omega)]
  unfold sv_rep
  rw [hs_ct]
  refine ⟨fun r i h hm => ⟨by rw [had r i hm]; omega, hs_cell hck hW h hm⟩, fun r i r' i' h h' hm hm' e => ?_, fun a j => Or.inl (hs_s4 a j)⟩
  rw [had r i hm, had r' i' hm'] at e
  exact hs_apart h hm h' hm' (by omega)
