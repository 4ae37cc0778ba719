/-! ===== pure: drummer, miss, seed, deal, order, hush ===== -/
section LIH
variable {σ : sv_S} {a n nt : Nat} {b m z : Int32} {d : be_D} {T : Nat → tx_T}
theorem li_C.uz (h : li_C σ a n nt b m z d T) (v : Int32) : li_C (sv_up σ 1 a 7 v) a n nt b m v d T := by
  obtain ⟨⟨g1, g2, g3, g4, g5⟩, g6, g7, g8⟩ := h
  refine ⟨⟨by rw [pz_uk (by decide)]; exact g1, by rw [pz_uk (by decide)]; exact g2, by rw [pz_uk (by decide)]; exact g3, pz_us _ _ _ _ _, fun k hk j hj => by rw [pz_ur (by decide)]; exact g5 k hk j hj⟩, by rw [pz_uk (by decide)]; exact g6, fun t ht => ?_, fun q hq => by rw [pz_ur (by decide)]; exact g8 q hq⟩
  obtain ⟨id, y1, y2⟩ := g7 t ht
  refine ⟨id, by rw [pz_ur (by decide)]; exact y1, ?_⟩
  unfold li_tC at *
  rw [sv_ct_up (by decide), pz_up (by omega), pz_up (by omega)]
  exact y2
theorem li_C.um (h : li_C σ a n nt b m z d T) (v : Int32) : li_C (sv_up σ 1 a 6 v) a n nt b v z d T := by
  obtain ⟨⟨g1, g2, g3, g4, g5⟩, g6, g7, g8⟩ := h
  refine ⟨⟨by rw [pz_uk (by decide)]; exact g1, by rw [pz_uk (by decide)]; exact g2, pz_us _ _ _ _ _, by rw [pz_uk (by decide)]; exact g4, fun k hk j hj => by rw [pz_ur (by decide)]; exact g5 k hk j hj⟩, by rw [pz_uk (by decide)]; exact g6, fun t ht => ?_, fun q hq => by rw [pz_ur (by decide)]; exact g8 q hq⟩
  obtain ⟨id, y1, y2⟩ := g7 t ht
  refine ⟨id, by rw [pz_ur (by decide)]; exact y1, ?_⟩
  unfold li_tC at *
  rw [sv_ct_up (by decide), pz_up (by omega), pz_up (by omega)]
  exact y2
theorem li_V.uz (h : li_V (σ 31 0) n nt b m z d T) (v : Int32) : li_V (sv_up σ 31 0 4 v 31 0) n nt b m v d T := by
  obtain ⟨⟨h1, h2, h3, h4, h5⟩, h6, h7⟩ := h
  refine ⟨⟨by rw [pz_uk (by omega)]; exact h1, by rw [pz_uk (by omega)]; exact h2, by rw [pz_uk (by omega)]; exact h3, pz_us _ _ _ _ _, fun k' hk' j' hj' => by rw [pz_uk (by omega)]; exact h5 k' hk' j' hj'⟩, by rw [pz_uk (by omega)]; exact h6, fun t ht => ?_⟩
  obtain ⟨g1, g2, g3, g4⟩ := h7 t ht
  exact ⟨by rw [pz_uk (by omega)]; exact g1, by rw [pz_uk (by omega)]; exact g2, by rw [pz_uk (by omega)]; exact g3, fun j hj => ⟨by rw [pz_uk (by omega)]; exact (g4 j hj).1, by rw [pz_uk (by omega)]; exact (g4 j hj).2⟩⟩
theorem li_V.um (h : li_V (σ 31 0) n nt b m z d T) (v : Int32) : li_V (sv_up σ 31 0 2 v 31 0) n nt b v z d T := by
  obtain ⟨⟨h1, h2, h3, h4, h5⟩, h6, h7⟩ := h
  refine ⟨⟨by rw [pz_uk (by omega)]; exact h1, by rw [pz_uk (by omega)]; exact h2, pz_us _ _ _ _ _, by rw [pz_uk (by omega)]; exact h4, fun k' hk' j' hj' => by rw [pz_uk (by omega)]; exact h5 k' hk' j' hj'⟩, by rw [pz_uk (by omega)]; exact h6, fun t ht => ?_⟩
  obtain ⟨g1, g2, g3, g4⟩ := h7 t ht
  exact ⟨by rw [pz_uk (by omega)]; exact g1, by rw [pz_uk (by omega)]; exact g2, by rw [pz_uk (by omega)]; exact g3, fun j hj => ⟨by rw [pz_uk (by omega)]; exact (g4 j hj).1, by rw [pz_uk (by omega)]; exact (g4 j hj).2⟩⟩
end LIH
/-- changes of line 0 alone -/
def R_0C (σ τ : sv_S) : Prop := ∀ r i, ¬ (r = 2 ∧ i < 10) → ¬ (r = 1 ∧ i = 0) → τ r i = σ r i
def R_0M (σ τ : sv_S) : Prop := ∀ r i, ¬ (r = 31 ∧ i = 0) → τ r i = σ r i
theorem R_0C.rfl' (σ : sv_S) : R_0C σ σ := fun _ _ _ _ => rfl
theorem R_0M.rfl' (σ : sv_S) : R_0M σ σ := fun _ _ _ => rfl
theorem R_0C.tr {σ τ υ : sv_S} (h : R_0C σ τ) (g : R_0C τ υ) : R_0C σ υ := fun r i a b => (g r i a b).trans (h r i a b)
theorem R_0M.tr {σ τ υ : sv_S} (h : R_0M σ τ) (g : R_0M τ υ) : R_0M σ υ := fun r i a => (g r i a).trans (h r i a)
theorem R_0C.k {σ τ : sv_S} (h : R_0C σ τ) : R_kC σ τ := fun r i _ _ c _ e => h r i c (fun q => e ⟨Or.inl q.1, Or.inl q.2⟩)
theorem R_0M.k {σ τ : sv_S} (h : R_0M σ τ) : R_kM σ τ := ⟨fun r i c _ => h r i (fun q => c ⟨q.1, Or.inl q.2⟩), fun j _ => by rw [h 30 0 (by omega)]⟩
/-- the class has done its part, then the reference -/
theorem R_two {σ σ1 σ2 : sv_S} {n nt : Nat} {b m z : Int32} {d : be_D} {T : Nat → tx_T} (hX : R_X σ) (k1 : R_kC σ σ1) (k2 : R_kM σ1 σ2) (hC : li_C σ1 0 n nt b m z d T) (hV : li_V (σ2 31 0) n nt b m z d T) (ok : li_ok n nt b d T) : R_A σ2 := by
  have e : ∀ r, r ≠ 30 → r ≠ 31 → σ2 r = σ1 r := fun r a b => funext fun i => k2.1 r i (fun q => b q.1) (fun q => a q.1)
  exact ⟨⟨n, nt, b, m, z, d, T, hC.to ok.1 (by rw [e 1 (by decide) (by decide)]) (fun i _ _ => by rw [e 2 (by decide) (by decide)]) (by rw [e 4 (by decide) (by decide)]) (by rw [e 5 (by decide) (by decide)]) (e 18 (by decide) (by decide)) (e 19 (by decide) (by decide)) (e 22 (by decide) (by decide)), hV, ok⟩, (hX.C k1).M k2⟩
theorem R_seed (x : Int32) : R_m (f_On_seed x) (f_Mo_seed x) := by
  intro σ h
  obtain ⟨⟨n, nt, b, m, z, d, T, hC, hV, ok⟩, hX⟩ := id h
  refine R_o (v := z) (σ1 := sv_up σ 1 0 7 x) (σ2 := sv_up (sv_up σ 1 0 7 x) 31 0 4 x) ?_ ?_ ?_
  · show some (σ 1 0 7, _) = _
    rw [hC.1.2.2.2.1]
  · unfold f_Mo_seed f_Mo_becomes
    rw [sv_g_t ⟨by decide, by decide⟩, sv_g_t ⟨by decide, by decide⟩, pz_b]
    show some (sv_up σ 1 0 7 x 31 0 4, _) = _
    rw [pz_ur (by decide), hV.1.2.2.2.1]
    rfl
  · exact R_two hX (fun r i _ _ _ _ e => pz_up (fun q => e ⟨Or.inl q.1, Or.inl q.2⟩)) (R_0M.k (fun r i c => pz_up c)) (hC.uz x) (li_V.uz (σ := sv_up σ 1 0 7 x) (by rw [pz_up (by omega)]; exact hV) x) ok
theorem R_miss (x : Int32) : R_m (f_On_miss x) (f_Mo_miss x) := by
  intro σ h
  obtain ⟨⟨n, nt, b, m, z, d, T, hC, hV, ok⟩, hX⟩ := id h
  by_cases hg : 0 ≤ x.toInt ∧ x.toInt ≤ 100
  · refine R_o (v := m) (σ1 := sv_up σ 1 0 6 x) (σ2 := sv_up (sv_up σ 1 0 6 x) 31 0 2 x) ?_ ?_ ?_
    · unfold f_On_miss
      rw [on_w0_100, pz_b, pz_if1, if_pos hg, hC.1.2.2.1]
    · unfold f_Mo_miss f_Mo_becomes
      rw [mo_w0_100, pz_b, pz_if1, if_pos hg, sv_g_t ⟨by decide, by decide⟩, sv_g_t ⟨by decide, by decide⟩, pz_b]
      show some (sv_up σ 1 0 6 x 31 0 2, _) = _
      rw [pz_ur (by decide), hV.1.2.2.1]
      rfl
    · exact R_two hX (fun r i _ _ _ _ e => pz_up (fun q => e ⟨Or.inl q.1, Or.inl q.2⟩)) (R_0M.k (fun r i c => pz_up c)) (hC.um x) (li_V.um (σ := sv_up σ 1 0 6 x) (by rw [pz_up (by omega)]; exact hV) x) ok
  · exact R_o (σ1 := σ) (by unfold f_On_miss; rw [on_w0_100, pz_b, pz_if1, if_neg hg]) (by unfold f_Mo_miss; rw [mo_w0_100, pz_b, pz_if1, if_neg hg]) h
/-- one more drummer -/
def be_j (d : be_D) (n : Nat) (x y : Int32) : be_D := fun k j => if k = n then (if j = 0 then x else if j = 1 then y else if j = 7 then 1 else 0) else d k j
theorem be_j_ok {n : Nat} {d : be_D} (h : be_ok n d) {x y : Int32} (hx : ∃ q : Nat, q < 6 ∧ x = nI q) (hy : ∃ q : Nat, 1 ≤ q ∧ q ≤ 9 ∧ y = nI q) : be_ok (n + 1) (be_j d n x y) := by
  intro k hk
  unfold be_j
  by_cases e : k = n
  · simp only [if_pos e]
    exact ⟨by simpa using hx, by simpa using hy, ⟨0, by omega, by simp [nI_0]⟩, ⟨1, by omega, by omega, by simp; rfl⟩⟩
  · simp only [if_neg e]
    exact h k (by omega)
theorem cl_join {σ : sv_S} {n nt : Nat} {b m z : Int32} {d : be_D} {T : Nat → tx_T} (hC : li_C σ 0 n nt b m z d T) (hn : n < 10) (x y : Int32) : ∃ σ', f_Li_join 0 x y σ = some (nI n, σ') ∧ li_C σ' 0 (n + 1) nt b m z (be_j d n x y) T ∧ R_0C σ σ' := by
  obtain ⟨⟨g1, g2, g3, g4, g5⟩, g6, g7, g8⟩ := hC
  unfold f_Li_join f_Dr_begin f_Dr_fallStill
  dsimp only
  rw [g1, be_ln3 (by omega), pz_in hn (by omega), pz_cl (by omega), pz_b0, pz_b0]
  try dsimp only
  generalize hτ : sv_up (sv_up (sv_up (sv_up (sv_up (sv_up (sv_up (sv_up σ 2 (10 * 0 + n) 0 x) 2 (10 * 0 + n) 1 y) 2 (10 * 0 + n) 5 0) 2 (10 * 0 + n) 7 0) 2 (10 * 0 + n) 6 1) 2 (10 * 0 + n) 2 0) 2 (10 * 0 + n) 3 0) 2 (10 * 0 + n) 4 0 = τ
  have hf : ∀ r i, ¬ (r = 2 ∧ i = 10 * 0 + n) → τ r i = σ r i := fun r i h => by rw [← hτ, pz_up h, pz_up h, pz_up h, pz_up h, pz_up h, pz_up h, pz_up h, pz_up h]
  have hd : ∀ j, j < 8 → τ 2 (10 * 0 + n) (be_p j) = be_j d n x y n j := by
    intro j hj
    have hj : j = 0 ∨ j = 1 ∨ j = 2 ∨ j = 3 ∨ j = 4 ∨ j = 5 ∨ j = 6 ∨ j = 7 := by omega
    rw [← hτ]
    rcases hj with rfl | rfl | rfl | rfl | rfl | rfl | rfl | rfl <;> simp [sv_up, be_p, be_j]
  rw [hf 1 0 (by omega), g1, nI_1]
  refine ⟨sv_up τ 1 0 4 (nI (n + 1)), ?_, ⟨⟨pz_us _ _ _ _ _, ?_, ?_, ?_, fun k hk j hj => ?_⟩, ?_, fun t ht => ?_, fun q hq => ?_⟩, fun r i h1 h2 => ?_⟩
  · rw [pz_us, nI_pred]
  · rw [pz_uk (by decide), hf 1 0 (by omega)]; exact g2
  · rw [pz_uk (by decide), hf 1 0 (by omega)]; exact g3
  · rw [pz_uk (by decide), hf 1 0 (by omega)]; exact g4
  · rw [pz_ur (by decide)]
    by_cases e : k = n
    · subst e; exact hd j hj
    · rw [hf 2 _ (by omega)]
      refine (g5 k (by omega) j hj).trans ?_
      unfold be_j
      rw [if_neg e]
  · rw [pz_uk (by decide), hf 1 0 (by omega)]; exact g6
  · obtain ⟨id, y1, y2⟩ := g7 t ht
    refine ⟨id, by rw [pz_ur (by decide), hf 4 0 (by omega)]; exact y1, ?_⟩
    unfold li_tC sv_ct at *
    rw [pz_up (by omega), pz_up (by omega), pz_up (by omega), hf 22 0 (by omega), hf 18 id (by omega), hf 19 id (by omega)]
    exact y2
  · rw [pz_ur (by decide), hf 5 0 (by omega)]; exact g8 q hq
  · rw [pz_up h2, hf r i (fun e => h1 ⟨e.1, by omega⟩)]
theorem mo_comes {σ : sv_S} {n nt : Nat} {b m z : Int32} {d : be_D} {T : Nat → tx_T} (hV : li_V (σ 31 0) n nt b m z d T) (hn : n < 10) (x y : Int32) : ∃ σ', f_Mo_comes x y σ = some σ' ∧ li_V (σ' 31 0) (n + 1) nt b m z (be_j d n x y) T ∧ R_0M σ σ' := by
  obtain ⟨⟨h1, h2, h3, h4, h5⟩, h6, h7⟩ := hV
  have G : ∀ (r k fuel : Nat) (τ : sv_S), k + r = 8 → r < fuel → (∀ j, j < k → τ 31 0 (6 + 8 * n + j) = 0) → ∃ τ', f_Mo_comes_20 fuel x y (nI n) (nI k) τ = some τ' ∧ (∀ j, j < 8 → τ' 31 0 (6 + 8 * n + j) = if j = 0 then x else if j = 1 then y else if j = 7 then 1 else 0) ∧ (∀ j, (j < 6 + 8 * n ∨ 6 + 8 * n + 8 ≤ j) → τ' 31 0 j = τ 31 0 j) ∧ R_0M τ τ' := by
    intro r
    induction r with
    | zero =>
      intro k fuel τ hk hf hz
      obtain ⟨f, rfl⟩ : ∃ f, fuel = f + 1 := ⟨fuel - 1, by omega⟩
      have hk : k = 8 := by omega
      subst hk
      rw [f_Mo_comes_20, sv_if_t (by decide), mo_sets0 hn, pz_b0, mo_sets1 hn, pz_b0, mo_sets7 hn, pz_b0]
      refine ⟨_, rfl, fun j hj => ?_, fun j hj => by rw [pz_uk (by omega), pz_uk (by omega), pz_uk (by omega)], fun r i h => by rw [pz_up h, pz_up h, pz_up h]⟩
      by_cases e7 : j = 7
      · subst e7; rw [pz_us]; rfl
      · rw [pz_uk (by omega), if_neg e7]
        by_cases e1 : j = 1
        · subst e1; rw [pz_us]; rfl
        · rw [pz_uk (by omega), if_neg e1]
          by_cases e0 : j = 0
          · subst e0; rw [pz_us]; rfl
          · rw [pz_uk (by omega), if_neg e0]; exact hz j hj
    | succ r ih =>
      intro k fuel τ hk hf hz
      obtain ⟨f, rfl⟩ : ∃ f, fuel = f + 1 := ⟨fuel - 1, by omega⟩
      rw [f_Mo_comes_20, sv_if_f (show ¬ (8 : Int32) ≤ nI k from nI_ge (b := 8) (by omega) (by omega)), mo_sets (j := k) rfl hn (by omega), pz_b0, nI_1]
      obtain ⟨τ', y1, y2, y3, y4⟩ := ih (k + 1) f (sv_up τ 31 0 (6 + 8 * n + k) 0) (by omega) (by omega) (fun j hj => by
        by_cases e : j = k
        · subst e; rw [pz_us]
        · rw [pz_uk (by omega)]; exact hz j (by omega))
      exact ⟨τ', y1, y2, fun j hj => by rw [y3 j hj, pz_uk (by omega)], fun r i h => by rw [y4 r i h, pz_up h]⟩
  unfold f_Mo_comes
  rw [pz_i0 _ (by omega), pz_i0 _ (by omega), pz_i0 _ (by omega), show σ 31 0 ((0 : Int32).toNatClampNeg) = nI n from h1, nI_1]
  obtain ⟨τ', y1, y2, y3, y4⟩ := G 8 0 sv_fu (sv_up σ 31 0 0 (nI (n + 1))) rfl (by decide) (fun j hj => absurd hj (Nat.not_lt_zero j))
  refine ⟨τ', y1, ⟨⟨by rw [y3 0 (by omega), pz_us], by rw [y3 3 (by omega), pz_uk (by omega)]; exact h2, by rw [y3 2 (by omega), pz_uk (by omega)]; exact h3, by rw [y3 4 (by omega), pz_uk (by omega)]; exact h4, fun k hk j hj => ?_⟩, by rw [y3 1 (by omega), pz_uk (by omega)]; exact h6, fun t ht => ?_⟩, fun r i h => by rw [y4 r i h, pz_up h]⟩
  · by_cases e : k = n
    · subst e
      rw [y2 j hj]
      unfold be_j
      rw [if_pos rfl]
    · rw [y3 _ (by omega), pz_uk (by omega)]
      refine (h5 k (by omega) j hj).trans ?_
      unfold be_j
      rw [if_neg e]
  · obtain ⟨g1, g2, g3, g4⟩ := h7 t ht
    exact ⟨by rw [y3 _ (by omega), pz_uk (by omega)]; exact g1, by rw [y3 _ (by omega), pz_uk (by omega)]; exact g2, by rw [y3 _ (by omega), pz_uk (by omega)]; exact g3, fun j hj => ⟨by rw [y3 _ (by omega), pz_uk (by omega)]; exact (g4 j hj).1, by rw [y3 _ (by omega), pz_uk (by omega)]; exact (g4 j hj).2⟩⟩
theorem R_drummer (x y : Int32) : R_m (f_On_drummer x y) (f_Mo_drummer x y) := by
  intro σ h
  obtain ⟨⟨n, nt, b, m, z, d, T, hC, hV, ok⟩, hX⟩ := id h
  have hn := ok.1
  by_cases hg : 0 ≤ x.toInt ∧ x.toInt ≤ 5
  · by_cases hy : 1 ≤ y.toInt ∧ y.toInt ≤ 9
    · by_cases hn2 : n < 10
      · obtain ⟨τ, g1, g2, g3⟩ := cl_join hC hn2 x y
        have e31 : τ 31 0 = σ 31 0 := g3 31 0 (by omega) (by omega)
        obtain ⟨υ, y1, y2, y3⟩ := mo_comes (σ := τ) (by rw [e31]; exact hV) hn2 x y
        refine R_o (v := nI n) (σ1 := τ) (σ2 := υ) ?_ ?_ ?_
        · unfold f_On_drummer
          rw [on_kind, pz_b, pz_if1, if_pos hg, on_w1_9, pz_b, pz_if1, if_pos hy, hC.1.1, sv_if_t (show nI n < (10 : Int32) from nI_lt (b := 10) hn2 (by omega)), g1, pz_b]
        · unfold f_Mo_drummer
          rw [mo_w0_5, pz_b, pz_if1, if_pos hg, mo_w1_9, pz_b, pz_if1, if_pos hy, pz_i0 _ (by omega), show τ 31 0 ((0 : Int32).toNatClampNeg) = nI n by rw [e31]; exact hV.1.1, sv_if_f (fun e => by have := (nI_eq (b := 10) (by omega) (by omega)).mp e; omega), y1, pz_b0, pz_i0 _ (by omega), show υ 31 0 ((0 : Int32).toNatClampNeg) = nI (n + 1) from y2.1.1, nI_pred]
        · refine R_two hX g3.k y3.k g2 y2 ⟨by omega, ok.2.1, be_j_ok ok.2.2.1 ?_ ?_, ok.2.2.2⟩
          · obtain ⟨p, rfl, hp, hp2⟩ := pz_nat hg.1
            exact ⟨p, by omega, rfl⟩
          · obtain ⟨p, rfl, hp, hp2⟩ := pz_nat (a := y) (by omega)
            exact ⟨p, by omega, by omega, rfl⟩
      · have hn3 : n = 10 := by omega
        subst hn3
        exact R_o (σ1 := σ) (by unfold f_On_drummer; rw [on_kind, pz_b, pz_if1, if_pos hg, on_w1_9, pz_b, pz_if1, if_pos hy, hC.1.1, sv_if_f (by decide)]) (by unfold f_Mo_drummer; rw [mo_w0_5, pz_b, pz_if1, if_pos hg, mo_w1_9, pz_b, pz_if1, if_pos hy, pz_i0 _ (by omega), show σ 31 0 ((0 : Int32).toNatClampNeg) = nI 10 from hV.1.1, sv_if_t (show nI 10 = (10 : Int32) from rfl)]) h
    · exact R_o (σ1 := σ) (by unfold f_On_drummer; rw [on_kind, pz_b, pz_if1, if_pos hg, on_w1_9, pz_b, pz_if1, if_neg hy]) (by unfold f_Mo_drummer; rw [mo_w0_5, pz_b, pz_if1, if_pos hg, mo_w1_9, pz_b, pz_if1, if_neg hy]) h
  · exact R_o (σ1 := σ) (by unfold f_On_drummer; rw [on_kind, pz_b, pz_if1, if_neg hg]) (by unfold f_Mo_drummer; rw [mo_w0_5, pz_b, pz_if1, if_neg hg]) h
theorem be_dr_r (z : Int32) : ∃ w : Nat, w < 16777216 ∧ be_dr z = nI w := by
  obtain ⟨k, hk, rfl⟩ : ∃ k : Nat, k < 2 ^ 32 ∧ z = nI k := ⟨z.toBitVec.toNat, z.toBitVec.isLt, Int32.toBitVec_inj.mp (by
    show z.toBitVec = BitVec.ofNat 32 z.toBitVec.toNat
    simp)⟩
  refine ⟨k / 2 ^ 8, by omega, ?_⟩
  exact pk_ushrN hk 8 8 (by decide)
/-- lots for one drummer -/
def dl_k (z : Int32) : Int32 := be_dr (be_nz z) - be_dr (be_nz z) / 6 * 6
def dl_s (z : Int32) : Int32 := 1 + (be_dr (be_nz (be_nz z)) - be_dr (be_nz (be_nz z)) / 9 * 9)
theorem dl_k_r (z : Int32) : ∃ q : Nat, q < 6 ∧ dl_k z = nI q := by
  obtain ⟨w, hw, e⟩ := be_dr_r (be_nz z)
  refine ⟨w % 6, by omega, ?_⟩
  unfold dl_k
  rw [e]
  exact pk_rem (d := 6) (by omega) (by omega) (by omega)
theorem dl_s_r (z : Int32) : ∃ q : Nat, 1 ≤ q ∧ q ≤ 9 ∧ dl_s z = nI q := by
  obtain ⟨w, hw, e⟩ := be_dr_r (be_nz (be_nz z))
  refine ⟨1 + w % 9, by omega, by omega, ?_⟩
  unfold dl_s
  rw [e, show nI w - nI w / 9 * 9 = nI (w % 9) from pk_rem (d := 9) (by omega) (by omega) (by omega), show (1 : Int32) + nI (w % 9) = nI 1 + nI (w % 9) from rfl, nI_add]
def dl_it (n : Nat) (z : Int32) (d : be_D) : Nat → Int32 × be_D
  | 0 => (z, d)
  | i + 1 => (be_nz (be_nz (dl_it n z d i).1), be_j (dl_it n z d i).2 (n + i) (dl_k (dl_it n z d i).1) (dl_s (dl_it n z d i).1))
theorem dl_ok {n : Nat} {z : Int32} {d : be_D} (h : be_ok n d) : ∀ i, be_ok (n + i) (dl_it n z d i).2 := by
  intro i
  induction i with
  | zero => exact h
  | succ i ih => exact be_j_ok ih (dl_k_r _) (dl_s_r _)
theorem cl_deal {nt n c : Nat} {b m z : Int32} {d : be_D} {T : Nat → tx_T} (hc : n + c ≤ 10) : ∀ (r i fuel : Nat) (σ : sv_S), i + r = c → r < fuel → li_C σ 0 (n + i) nt b m (dl_it n z d i).1 (dl_it n z d i).2 T → ∃ σ', f_On_deal_30 fuel (nI c) (nI i) σ = some (nI c, σ') ∧ li_C σ' 0 (n + c) nt b m (dl_it n z d c).1 (dl_it n z d c).2 T ∧ R_0C σ σ' := by
  intro r
  induction r with
  | zero =>
    intro i fuel σ hi hf hC
    obtain ⟨f, rfl⟩ : ∃ f, fuel = f + 1 := ⟨fuel - 1, by omega⟩
    have hi : i = c := by omega
    subst hi
    exact ⟨σ, by rw [f_On_deal_30, sv_if_t (nI_le (Nat.le_refl i) (by omega))], hC, R_0C.rfl' σ⟩
  | succ r ih =>
    intro i fuel σ hi hf hC
    obtain ⟨f, rfl⟩ : ∃ f, fuel = f + 1 := ⟨fuel - 1, by omega⟩
    have c1 := hC.uz (be_nz (dl_it n z d i).1)
    have c2 := c1.uz (be_nz (be_nz (dl_it n z d i).1))
    obtain ⟨τ, g1, g2, g3⟩ := cl_join c2 (by omega) (dl_k (dl_it n z d i).1) (dl_s (dl_it n z d i).1)
    obtain ⟨σ', y1, y2, y3⟩ := ih (i + 1) f τ (by omega) (by omega) g2
    refine ⟨σ', ?_, y2, fun r i h1 h2 => by rw [y3 r i h1 h2, g3 r i h1 h2, pz_up h2, pz_up h2]⟩
    rw [f_On_deal_30, sv_if_f (nI_ge (by omega) (by omega))]
    unfold f_Li_draw
    rw [hC.1.2.2.2.1]
    show sv_b (some (be_dr (sv_up σ 1 0 7 (be_nz (dl_it n z d i).1) 1 0 7), sv_up σ 1 0 7 (be_nz (dl_it n z d i).1))) _ = _
    rw [pz_us, pz_b, sv_g_t (by decide), pz_us]
    show sv_b (some (be_dr (sv_up (sv_up σ 1 0 7 (be_nz (dl_it n z d i).1)) 1 0 7 (be_nz (be_nz (dl_it n z d i).1)) 1 0 7), sv_up (sv_up σ 1 0 7 (be_nz (dl_it n z d i).1)) 1 0 7 (be_nz (be_nz (dl_it n z d i).1)))) _ = _
    rw [pz_us, pz_b, sv_g_t (by decide), nI_1]
    show sv_b (f_Li_join 0 (dl_k (dl_it n z d i).1) (dl_s (dl_it n z d i).1) _) _ = _
    rw [g1, pz_b]
    exact y1
theorem mo_deal {nt n c x : Nat} {b m z : Int32} {d : be_D} {T : Nat → tx_T} (hx : x ≤ 10) (hc : c = if x < 10 - n then x else 10 - n) (hn : n ≤ 10) : ∀ (r i fuel : Nat) (σ : sv_S), i + r = c → r < fuel → li_V (σ 31 0) (n + i) nt b m (dl_it n z d i).1 (dl_it n z d i).2 T → ∃ σ', f_Mo_deal_17 fuel (nI x) (nI i) σ = some (nI c, σ') ∧ li_V (σ' 31 0) (n + c) nt b m (dl_it n z d c).1 (dl_it n z d c).2 T ∧ R_0M σ σ' := by
  have hcx : c ≤ x ∧ n + c ≤ 10 ∧ (c = x ∨ n + c = 10) := by rw [hc]; split <;> omega
  intro r
  induction r with
  | zero =>
    intro i fuel σ hi hf hV
    obtain ⟨f, rfl⟩ : ∃ f, fuel = f + 1 := ⟨fuel - 1, by omega⟩
    have hi : i = c := by omega
    subst hi
    refine ⟨σ, ?_, hV, R_0M.rfl' σ⟩
    rw [f_Mo_deal_17]
    by_cases e : x ≤ i
    · rw [sv_if_t (nI_le e (by omega))]
    · rw [sv_if_f (nI_ge (by omega) (by omega)), pz_i0 _ (by omega), show σ 31 0 ((0 : Int32).toNatClampNeg) = nI (n + i) from hV.1.1, sv_if_t (show (10 : Int32) ≤ nI (n + i) from nI_le (a := 10) (by omega) (by omega))]
  | succ r ih =>
    intro i fuel σ hi hf hV
    obtain ⟨f, rfl⟩ : ∃ f, fuel = f + 1 := ⟨fuel - 1, by omega⟩
    have c1 := hV.uz (be_nz (dl_it n z d i).1)
    have c2 := c1.uz (be_nz (be_nz (dl_it n z d i).1))
    obtain ⟨τ, g1, g2, g3⟩ := mo_comes c2 (by omega) (dl_k (dl_it n z d i).1) (dl_s (dl_it n z d i).1)
    obtain ⟨σ', y1, y2, y3⟩ := ih (i + 1) f τ (by omega) (by omega) g2
    refine ⟨σ', ?_, y2, fun r i h1 => by rw [y3 r i h1, g3 r i h1, pz_up h1, pz_up h1]⟩
    rw [f_Mo_deal_17, sv_if_f (nI_ge (by omega) (by omega)), pz_i0 _ (by omega), show σ 31 0 ((0 : Int32).toNatClampNeg) = nI (n + i) from hV.1.1, sv_if_f (show ¬ (10 : Int32) ≤ nI (n + i) from nI_ge (b := 10) (by omega) (by omega))]
    unfold f_Mo_drawn
    rw [sv_g_t ⟨by decide, by decide⟩, sv_g_t ⟨by decide, by decide⟩, sv_g_t ⟨by decide, by decide⟩, show σ 31 0 ((4 : Int32).toNatClampNeg) = (dl_it n z d i).1 from hV.1.2.2.2.1]
    show sv_b (some (be_dr (sv_up σ 31 0 4 (be_nz (dl_it n z d i).1) 31 0 4), sv_up σ 31 0 4 (be_nz (dl_it n z d i).1))) _ = _
    rw [pz_us, pz_b, sv_g_t (by decide), sv_g_t ⟨by decide, by decide⟩, sv_g_t ⟨by decide, by decide⟩, sv_g_t ⟨by decide, by decide⟩, show sv_up σ 31 0 4 (be_nz (dl_it n z d i).1) 31 0 ((4 : Int32).toNatClampNeg) = be_nz (dl_it n z d i).1 from pz_us _ _ _ _ _]
    show sv_b (some (be_dr (sv_up (sv_up σ 31 0 4 (be_nz (dl_it n z d i).1)) 31 0 4 (be_nz (be_nz (dl_it n z d i).1)) 31 0 4), sv_up (sv_up σ 31 0 4 (be_nz (dl_it n z d i).1)) 31 0 4 (be_nz (be_nz (dl_it n z d i).1)))) _ = _
    rw [pz_us, pz_b, sv_g_t (by decide), nI_1]
    show sv_b0 (f_Mo_comes (dl_k (dl_it n z d i).1) (dl_s (dl_it n z d i).1) _) _ = _
    rw [g1, pz_b0]
    exact y1
theorem R_deal (x : Int32) : R_m (f_On_deal x) (f_Mo_deal x) := by
  intro σ h
  obtain ⟨⟨n, nt, b, m, z, d, T, hC, hV, ok⟩, hX⟩ := id h
  have hn := ok.1
  by_cases hg : 1 ≤ x.toInt ∧ x.toInt ≤ 10
  · obtain ⟨p, rfl, hp, hp2⟩ := pz_nat (a := x) (by omega)
    generalize hc : (if p < 10 - n then p else 10 - n) = c
    have hcc : n + c ≤ 10 := by rw [← hc]; split <;> omega
    obtain ⟨τ, g1, g2, g3⟩ := cl_deal (z := z) (d := d) hcc c 0 sv_fu σ (by omega) (by unfold sv_fu; omega) hC
    have e31 : τ 31 0 = σ 31 0 := g3 31 0 (by omega) (by omega)
    obtain ⟨υ, y1, y2, y3⟩ := mo_deal (x := p) (z := z) (d := d) (by omega) hc.symm hn c 0 sv_fu τ (by omega) (by unfold sv_fu; omega) (by rw [e31]; exact hV)
    refine R_o (v := nI c) (σ1 := τ) (σ2 := υ) ?_ ?_ ?_
    · unfold f_On_deal f_Jm_min
      rw [on_w1_10, pz_b, pz_if1, if_pos hg, hC.1.1, pz_b]
      have e10 : (10 : Int32) - nI n = nI (10 - n) := pk_sub (a := 10) (by omega)
      rw [e10]
      have : (if nI (10 - n) < nI p then nI (10 - n) else nI p) = nI c := by
        by_cases e : 10 - n < p
        · rw [if_pos (nI_lt e (by omega)), ← hc, if_neg (by omega)]
        · rw [if_neg (nI_nlt (by omega) (by omega)), ← hc]
          by_cases e2 : p < 10 - n
          · rw [if_pos e2]
          · rw [if_neg e2]; congr 1; omega
      rw [this]
      exact g1
    · unfold f_Mo_deal
      rw [mo_w1_10, pz_b, pz_if1, if_pos hg]
      exact y1
    · exact R_two hX g3.k y3.k g2 y2 ⟨hcc, ok.2.1, dl_ok ok.2.2.1 c, ok.2.2.2⟩
  · exact R_o (σ1 := σ) (by unfold f_On_deal; rw [on_w1_10, pz_b, pz_if1, if_neg hg]) (by unfold f_Mo_deal; rw [mo_w1_10, pz_b, pz_if1, if_neg hg]) h
