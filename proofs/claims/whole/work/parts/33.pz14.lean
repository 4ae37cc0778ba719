/-! ===== pure: hush, far, reach, edge ===== -/
/-- the first k fallen still -/
def be_h (d : be_D) (k : Nat) : be_D := fun i j => if i < k ∧ (j = 2 ∨ j = 3 ∨ j = 4) then 0 else d i j
theorem be_h_0 (d : be_D) (i j : Nat) : be_h d 0 i j = d i j := by unfold be_h; rw [if_neg (fun e => absurd e.1 (Nat.not_lt_zero i))]
theorem be_h_ok {n k : Nat} {d : be_D} (h : be_ok n d) : be_ok n (be_h d k) := by
  intro i hi
  obtain ⟨g0, g1, g2, g7⟩ := h i hi
  unfold be_h
  refine ⟨by simpa using g0, by simpa using g1, ?_, by simpa using g7⟩
  by_cases e : i < k
  · exact ⟨0, by omega, by simp [e, nI_0]⟩
  · simpa [e] using g2
theorem li_C.d {σ : sv_S} {a n nt : Nat} {b m z : Int32} {d e : be_D} {T : Nat → tx_T} (h : li_C σ a n nt b m z d T) (he : ∀ k, k < n → ∀ j, j < 8 → d k j = e k j) : li_C σ a n nt b m z e T := ⟨⟨h.1.1, h.1.2.1, h.1.2.2.1, h.1.2.2.2.1, fun k hk j hj => by rw [← he k hk j hj]; exact h.1.at hk j hj⟩, h.2⟩
theorem li_V.d {v : Nat → Int32} {n nt : Nat} {b m z : Int32} {d e : be_D} {T : Nat → tx_T} (h : li_V v n nt b m z d T) (he : ∀ k, k < n → ∀ j, j < 8 → d k j = e k j) : li_V v n nt b m z e T := ⟨⟨h.1.1, h.1.2.1, h.1.2.2.1, h.1.2.2.2.1, fun k hk j hj => by rw [← he k hk j hj]; exact h.1.2.2.2.2 k hk j hj⟩, h.2⟩
theorem be_h_s {d : be_D} {k : Nat} (i j : Nat) : be_u (be_u (be_u (be_h d k) k 2 0) k 3 0) k 4 0 i j = be_h d (k + 1) i j := by
  unfold be_u be_h
  by_cases e : i = k
  · subst e
    by_cases h4 : j = 4
    · simp [h4]
    · by_cases h3 : j = 3
      · simp [h3]
      · by_cases h2 : j = 2
        · simp [h2]
        · simp [h2, h3, h4]
  · have h1 : (i < k + 1) = (i < k) := by apply propext; omega
    simp [e, h1]
theorem cl_hush {n nt : Nat} {b m z x : Int32} {d : be_D} {T : Nat → tx_T} (hn : n ≤ 10) : ∀ (r k fuel : Nat) (σ : sv_S), k + r = n → r < fuel → li_C σ 0 n nt b m z (be_h d k) T → ∃ σ', f_On_hush_10 fuel x (nI k) σ = some (x, σ') ∧ li_C σ' 0 n nt b m z (be_h d n) T ∧ R_0C σ σ' := by
  intro r
  induction r with
  | zero =>
    intro k fuel σ hk hf hC
    obtain ⟨f, rfl⟩ : ∃ f, fuel = f + 1 := ⟨fuel - 1, by omega⟩
    have hk : k = n := by omega
    subst hk
    exact ⟨σ, by rw [f_On_hush_10, hC.1.1, sv_if_t (nI_le (Nat.le_refl k) (by omega))], hC, R_0C.rfl' σ⟩
  | succ r ih =>
    intro k fuel σ hk hf hC
    obtain ⟨f, rfl⟩ : ∃ f, fuel = f + 1 := ⟨fuel - 1, by omega⟩
    have c1 := hC.up (k := k) (j := 2) (v := 0) (by omega)
    have c2 := c1.up (k := k) (j := 3) (v := 0) (by omega)
    have c3 := (c2.up (k := k) (j := 4) (v := 0) (by omega)).d (e := be_h d (k + 1)) (fun i _ j _ => be_h_s i j)
    obtain ⟨σ', y1, y2, y3⟩ := ih (k + 1) f _ (by omega) (by omega) c3
    refine ⟨σ', ?_, y2, fun r i h1 h2 => ?_⟩
    · rw [f_On_hush_10, hC.1.1, sv_if_f (nI_ge (by omega) (by omega)), pz_in (by omega) (by omega), pz_cl (by omega), nI_1]
      unfold f_Dr_fallStill
      dsimp only
      rw [pz_b0]
      exact y1
    · rw [y3 r i h1 h2, pz_up (fun e => h1 ⟨e.1, by omega⟩), pz_up (fun e => h1 ⟨e.1, by omega⟩), pz_up (fun e => h1 ⟨e.1, by omega⟩)]
theorem mo_hush {n nt : Nat} {b m z : Int32} {d : be_D} {T : Nat → tx_T} (hn : n ≤ 10) : ∀ (r k fuel : Nat) (σ : sv_S), k + r = n → r < fuel → li_V (σ 31 0) n nt b m z (be_h d k) T → ∃ σ', f_Mo_hush_4 fuel (nI (be_ct (be_cn d) k)) (nI k) σ = some (nI (be_ct (be_cn d) n), σ') ∧ li_V (σ' 31 0) n nt b m z (be_h d n) T ∧ R_0M σ σ' := by
  intro r
  induction r with
  | zero =>
    intro k fuel σ hk hf hV
    obtain ⟨f, rfl⟩ : ∃ f, fuel = f + 1 := ⟨fuel - 1, by omega⟩
    have hk : k = n := by omega
    subst hk
    exact ⟨σ, by rw [f_Mo_hush_4, pz_i0 _ (by omega), show σ 31 0 ((0 : Int32).toNatClampNeg) = nI k from hV.1.1, sv_if_t (nI_le (Nat.le_refl k) (by omega))], hV, R_0M.rfl' σ⟩
  | succ r ih =>
    intro k fuel σ hk hf hV
    obtain ⟨f, rfl⟩ : ∃ f, fuel = f + 1 := ⟨fuel - 1, by omega⟩
    have c1 := hV.up (k := k) (j := 2) (v := 0) (by omega) (by omega) hn
    have c2 := c1.up (k := k) (j := 3) (v := 0) (by omega) (by omega) hn
    have c3 := (c2.up (k := k) (j := 4) (v := 0) (by omega) (by omega) hn).d (e := be_h d (k + 1)) (fun i _ j _ => be_h_s i j)
    obtain ⟨σ', y1, y2, y3⟩ := ih (k + 1) f _ (by omega) (by omega) c3
    have e2 : σ 31 0 (6 + 8 * k + 2) = d k 2 := by
      rw [hV.1.2.2.2.2 k (by omega) 2 (by omega)]
      unfold be_h
      rw [if_neg (by omega)]
    refine ⟨σ', ?_, y2, fun r i h1 => by rw [y3 r i h1, pz_up h1, pz_up h1, pz_up h1]⟩
    rw [f_Mo_hush_4, pz_i0 _ (by omega), show σ 31 0 ((0 : Int32).toNatClampNeg) = nI n from hV.1.1, sv_if_f (nI_ge (by omega) (by omega)), mo_of2 (by omega), pz_b, e2]
    have F : ∀ x : Int32, f_Mo_hush_29 (f_Mo_hush_4 f) (nI k) x (nI (be_ct (be_cn d) k)) σ = f_Mo_hush_4 f (nI (be_ct (be_cn d) k) + x) (nI (k + 1)) (sv_up (sv_up (sv_up σ 31 0 (6 + 8 * k + 2) 0) 31 0 (6 + 8 * k + 3) 0) 31 0 (6 + 8 * k + 4) 0) := by
      intro x
      unfold f_Mo_hush_29
      rw [mo_sets2 (by omega), pz_b0, mo_sets3 (by omega), pz_b0, mo_sets4 (by omega), pz_b0, nI_1]
    rw [F, F, Int32.add_zero, nI_1]
    by_cases hc : 0 < d k 2
    · rw [sv_if_f (Int32.not_le.mpr hc)]
      have e : be_ct (be_cn d) (k + 1) = be_ct (be_cn d) k + 1 := by simp [be_ct, be_cn, hc]
      rw [e] at y1; exact y1
    · rw [sv_if_t (Int32.not_lt.mp hc)]
      have e : be_ct (be_cn d) (k + 1) = be_ct (be_cn d) k := by simp [be_ct, be_cn, hc]
      rw [e] at y1; exact y1
theorem R_hush : R_m f_On_hush f_Mo_hush := by
  intro σ h
  obtain ⟨⟨n, nt, b, m, z, d, T, hC, hV, ok⟩, hX⟩ := id h
  have hn := ok.1
  obtain ⟨τ, g1, g2, g3⟩ := cl_hush (x := nI (be_ct (be_cn d) n)) (d := d) hn n 0 sv_fu σ (by omega) (by unfold sv_fu; omega) (hC.d (fun k _ j _ => (be_h_0 d k j).symm))
  have e31 : τ 31 0 = σ 31 0 := g3 31 0 (by omega) (by omega)
  obtain ⟨υ, y1, y2, y3⟩ := mo_hush (d := d) hn n 0 sv_fu τ (by omega) (by unfold sv_fu; omega) (by rw [e31]; exact hV.d (fun k _ j _ => (be_h_0 d k j).symm))
  exact R_o (σ1 := τ) (σ2 := υ) (by unfold f_On_hush; rw [cl_cnt hC.1 (by omega) hn, pz_b]; exact g1) y1 (R_two hX g3.k y3.k g2 y2 ⟨ok.1, ok.2.1, be_h_ok ok.2.2.1, ok.2.2.2⟩)
/-! sounds -/
def be_fs (d : be_D) (lo : Nat) : Nat → Int32
  | 0 => 0
  | l + 1 => be_fs d lo l + d (lo + l) 7
def be_far (d : be_D) (p q : Nat) : Int32 := be_fs d (if q < p then q else p) ((if q < p then p else q) - (if q < p then q else p))
theorem be_far_c (d : be_D) (p q : Nat) : be_far d p q = be_far d q p := by
  unfold be_far
  by_cases h : q < p
  · rw [if_pos h, if_pos h, if_neg (by omega), if_neg (by omega)]
  · by_cases h2 : p < q
    · rw [if_neg h, if_neg h, if_pos h2, if_pos h2]
    · have : p = q := by omega
      subst this; rfl
section FAR
variable {σ : sv_S} {n : Nat} {b m z : Int32} {d : be_D}
theorem cl_far (h : be_C σ 0 n b m z d) (hn : n ≤ 10) {p q : Nat} (hp : p < n) (hq : q < n) : f_Li_beatsBetween 0 (nI p) (nI q) σ = some (be_far d p q, σ) := by
  generalize hlo : (if q < p then q else p) = lo
  generalize hhi : (if q < p then p else q) = hi
  have hlh : lo ≤ hi ∧ hi < n := by rw [← hlo, ← hhi]; split <;> omega
  have emax : ∀ τ, f_Jm_max (nI p) (nI q) τ = some (nI hi, τ) := by
    intro τ
    unfold f_Jm_max
    rw [← hhi]
    by_cases e : p < q
    · rw [if_pos (nI_lt e (by omega)), if_neg (by omega)]
    · rw [if_neg (nI_nlt (by omega) (by omega))]
      by_cases e2 : q < p
      · rw [if_pos e2]
      · rw [if_neg e2]; congr 3; omega
  have G : ∀ (r l fuel : Nat), l + r = hi - lo → r < fuel → f_Li_beatsBetween_9 fuel 0 (nI p) (nI q) (be_fs d lo l) (nI (lo + l)) σ = some (be_fs d lo (hi - lo), σ) := by
    intro r
    induction r with
    | zero =>
      intro l fuel hl hf
      obtain ⟨f, rfl⟩ : ∃ f, fuel = f + 1 := ⟨fuel - 1, by omega⟩
      have hl : l = hi - lo := by omega
      subst hl
      rw [f_Li_beatsBetween_9, emax, pz_b, sv_if_t (nI_le (by omega) (by omega))]
    | succ r ih =>
      intro l fuel hl hf
      obtain ⟨f, rfl⟩ : ∃ f, fuel = f + 1 := ⟨fuel - 1, by omega⟩
      rw [f_Li_beatsBetween_9, emax, pz_b, sv_if_f (nI_ge (by omega) (by omega)), be_ln3 (by omega), pz_in (by omega) (by omega), pz_cl (by omega), show σ 2 (10 * 0 + (lo + l)) 6 = d (lo + l) 7 from h.at (by omega) 7 (by omega), nI_1]
      exact ih (l + 1) f (by omega) (by omega)
  unfold f_Li_beatsBetween f_Jm_min be_far
  rw [pz_b, hlo, hhi]
  have e : (if nI q < nI p then nI q else nI p) = nI lo := by
    rw [← hlo]
    by_cases e : q < p
    · rw [if_pos (nI_lt e (by omega)), if_pos e]
    · rw [if_neg (nI_nlt (by omega) (by omega)), if_neg e]
  rw [e]
  exact G (hi - lo) 0 sv_fu (by omega) (by unfold sv_fu; omega)
theorem mo_far (h : be_M σ n b m z d) (hn : n ≤ 10) {p q : Nat} (hp : p < n) (hq : q < n) : f_Mo_farOf (nI p) (nI q) σ = some (be_far d p q, σ) := by
  generalize hlo : (if q < p then q else p) = lo
  generalize hhi : (if q < p then p else q) = hi
  have hlh : lo ≤ hi ∧ hi < n := by rw [← hlo, ← hhi]; split <;> omega
  have G : ∀ (r l fuel : Nat), l + r = hi - lo → r < fuel → f_Mo_farOf_14 fuel (nI p) (nI q) (be_fs d lo l) (nI (lo + l)) σ = some (be_fs d lo (hi - lo), σ) := by
    intro r
    induction r with
    | zero =>
      intro l fuel hl hf
      obtain ⟨f, rfl⟩ : ∃ f, fuel = f + 1 := ⟨fuel - 1, by omega⟩
      have hl : l = hi - lo := by omega
      subst hl
      rw [f_Mo_farOf_14]
      unfold f_Mo_farOf_26
      by_cases e : q ≤ p
      · have : p ≤ lo + (hi - lo) := by rw [← hhi] at hlh ⊢; rw [← hlo] at hlh ⊢; split <;> omega
        rw [sv_if_t (nI_le e (by omega)), sv_if_t (nI_le this (by omega))]
      · have : q ≤ lo + (hi - lo) := by rw [← hhi] at hlh ⊢; rw [← hlo] at hlh ⊢; split <;> omega
        rw [sv_if_f (nI_ge (by omega) (by omega)), sv_if_t (nI_le this (by omega))]
    | succ r ih =>
      intro l fuel hl hf
      obtain ⟨f, rfl⟩ : ∃ f, fuel = f + 1 := ⟨fuel - 1, by omega⟩
      have hh : lo + l < hi := by omega
      rw [f_Mo_farOf_14]
      unfold f_Mo_farOf_26
      have g := ih (l + 1) f (by omega) (by omega)
      by_cases e : q ≤ p
      · have : lo + l < p := by
          have : hi = p := by rw [← hhi]; split <;> omega
          omega
        rw [sv_if_t (nI_le e (by omega)), sv_if_f (nI_ge this (by omega)), mo_of7 (by omega), pz_b, h.at (by omega) 7 (by omega), nI_1]
        exact g
      · have : lo + l < q := by
          have : hi = q := by rw [← hhi]; split <;> omega
          omega
        rw [sv_if_f (nI_ge (by omega) (by omega)), sv_if_f (nI_ge this (by omega)), mo_of7 (by omega), pz_b, h.at (by omega) 7 (by omega), nI_1]
        exact g
  unfold f_Mo_farOf be_far
  rw [hlo, hhi]
  have g := G (hi - lo) 0 sv_fu (by omega) (by unfold sv_fu; omega)
  by_cases e : q ≤ p
  · rw [sv_if_t (nI_le e (by omega))]
    have el : lo = q := by rw [← hlo]; split <;> omega
    rw [el] at g ⊢
    exact g
  · rw [sv_if_f (nI_ge (by omega) (by omega))]
    have el : lo = p := by rw [← hlo]; split <;> omega
    rw [el] at g ⊢
    exact g
end FAR
theorem R_far (x y : Int32) : R_m (f_On_far x y) (f_Mo_far x y) := by
  intro σ h
  obtain ⟨⟨n, nt, b, m, z, d, T, hC, hV, ok⟩, hX⟩ := id h
  have hn := ok.1
  by_cases hg : 0 ≤ x.toInt ∧ x.toInt ≤ (n : Int) - 1
  · by_cases hy : 0 ≤ y.toInt ∧ y.toInt ≤ (n : Int) - 1
    · obtain ⟨k, rfl, hk, hk2⟩ := pz_nat hg.1
      obtain ⟨l, rfl, hl, hl2⟩ := pz_nat hy.1
      exact R_o (σ1 := σ) (σ2 := σ) (by unfold f_On_far; rw [on_dr hC.1.1 hn, pz_b, pz_if1, if_pos hg, on_dr hC.1.1 hn, pz_b, pz_if1, if_pos hy, cl_far hC.1 hn (by omega) (by omega), pz_b]) (by unfold f_Mo_far; rw [mo_dr (n := n) hV.1.1 hn, pz_b, pz_if1, if_pos hg, mo_dr (n := n) hV.1.1 hn, pz_b, pz_if1, if_pos hy, mo_far (li_VM hV) hn (by omega) (by omega), pz_b]) h
    · exact R_o (σ1 := σ) (by unfold f_On_far; rw [on_dr hC.1.1 hn, pz_b, pz_if1, if_pos hg, on_dr hC.1.1 hn, pz_b, pz_if1, if_neg hy]) (by unfold f_Mo_far; rw [mo_dr (n := n) hV.1.1 hn, pz_b, pz_if1, if_pos hg, mo_dr (n := n) hV.1.1 hn, pz_b, pz_if1, if_neg hy]) h
  · exact R_o (σ1 := σ) (by unfold f_On_far; rw [on_dr hC.1.1 hn, pz_b, pz_if1, if_neg hg]) (by unfold f_Mo_far; rw [mo_dr (n := n) hV.1.1 hn, pz_b, pz_if1, if_neg hg]) h
theorem R_edge (x : Int32) : R_m (f_On_edge x) (f_Mo_edge x) := by
  intro σ h
  obtain ⟨⟨n, nt, b, m, z, d, T, hC, hV, ok⟩, hX⟩ := id h
  have hn := ok.1
  by_cases hg : 0 ≤ x.toInt ∧ x.toInt ≤ (n : Int) - 1
  · obtain ⟨k, rfl, hk, hk2⟩ := pz_nat hg.1
    have e1 : nI n - (1 : Int32) = nI (n - 1) := pk_sub (b := 1) (by omega)
    refine R_o (v := if be_far d 0 k < be_far d k (n - 1) then be_far d k (n - 1) else be_far d 0 k) (σ1 := σ) (σ2 := σ) ?_ ?_ h
    · unfold f_On_edge
      rw [on_dr hC.1.1 hn, pz_b, pz_if1, if_pos hg, show f_Li_beatsBetween 0 (0 : Int32) (nI k) σ = some (be_far d 0 k, σ) from cl_far (p := 0) hC.1 hn (by omega) (by omega), pz_b, hC.1.1, e1, cl_far hC.1 hn (by omega) (by omega), pz_b]
      unfold f_Jm_max
      rw [pz_b]
    · unfold f_Mo_edge
      rw [mo_dr (n := n) hV.1.1 hn, pz_b, pz_if1, if_pos hg, show f_Mo_farOf (nI k) (0 : Int32) σ = some (be_far d k 0, σ) from mo_far (q := 0) (li_VM hV) hn (by omega) (by omega), pz_b, pz_i0 _ (by omega), show σ 31 0 ((0 : Int32).toNatClampNeg) = nI n from hV.1.1, e1, mo_far (li_VM hV) hn (by omega) (by omega), pz_b, be_far_c d k 0]
      by_cases e : be_far d 0 k < be_far d k (n - 1)
      · rw [sv_if_t (Int32.le_of_lt e), if_pos e]
      · rw [if_neg e]
        by_cases e2 : be_far d 0 k ≤ be_far d k (n - 1)
        · rw [sv_if_t e2, Int32.le_antisymm e2 (Int32.not_lt.mp e)]
        · rw [sv_if_f e2]
  · exact R_o (σ1 := σ) (by unfold f_On_edge; rw [on_dr hC.1.1 hn, pz_b, pz_if1, if_neg hg]) (by unfold f_Mo_edge; rw [mo_dr (n := n) hV.1.1 hn, pz_b, pz_if1, if_neg hg]) h
theorem R_reach (x y : Int32) : R_m (f_On_reach x y) (f_Mo_reach x y) := by
  intro σ h
  obtain ⟨⟨n, nt, b, m, z, d, T, hC, hV, ok⟩, hX⟩ := id h
  have hn := ok.1
  by_cases hg : 0 ≤ x.toInt ∧ x.toInt ≤ (n : Int) - 1
  · by_cases hy : 0 ≤ y.toInt ∧ y.toInt ≤ 30
    · obtain ⟨p, rfl, hp, hp2⟩ := pz_nat hg.1
      have hpn : p < n := by omega
      have GC : ∀ (r k fuel : Nat), k + r = n → r < fuel → f_On_reach_26 fuel (nI p) y (be_mk (fun k => decide (¬ y < be_far d p k)) k) (nI k) σ = some (be_mk (fun k => decide (¬ y < be_far d p k)) n, σ) := by
        intro r
        induction r with
        | zero =>
          intro k fuel hk hf
          obtain ⟨f, rfl⟩ : ∃ f, fuel = f + 1 := ⟨fuel - 1, by omega⟩
          have hk : k = n := by omega
          subst hk
          rw [f_On_reach_26, hC.1.1, sv_if_t (nI_le (Nat.le_refl k) (by omega))]
        | succ r ih =>
          intro k fuel hk hf
          obtain ⟨f, rfl⟩ : ∃ f, fuel = f + 1 := ⟨fuel - 1, by omega⟩
          rw [f_On_reach_26, hC.1.1, sv_if_f (nI_ge (by omega) (by omega)), cl_far hC.1 hn hpn (by omega), pz_b, nI_1, ← ih (k + 1) f (by omega) (by omega)]
          by_cases e : y < be_far d p k
          · rw [sv_if_t e]; simp [be_mk, e]
          · rw [sv_if_f e]; simp [be_mk, e]
      have GM : ∀ (r k fuel : Nat), k + r = n → r < fuel → f_Mo_reach_28 fuel (nI p) y (be_mk (fun k => decide (¬ y < be_far d p k)) k) (nI k) σ = some (be_mk (fun k => decide (¬ y < be_far d p k)) n, σ) := by
        intro r
        induction r with
        | zero =>
          intro k fuel hk hf
          obtain ⟨f, rfl⟩ : ∃ f, fuel = f + 1 := ⟨fuel - 1, by omega⟩
          have hk : k = n := by omega
          subst hk
          rw [f_Mo_reach_28, pz_i0 _ (by omega), show σ 31 0 ((0 : Int32).toNatClampNeg) = nI k from hV.1.1, sv_if_t (nI_le (Nat.le_refl k) (by omega))]
        | succ r ih =>
          intro k fuel hk hf
          obtain ⟨f, rfl⟩ : ∃ f, fuel = f + 1 := ⟨fuel - 1, by omega⟩
          rw [f_Mo_reach_28, pz_i0 _ (by omega), show σ 31 0 ((0 : Int32).toNatClampNeg) = nI n from hV.1.1, sv_if_f (nI_ge (by omega) (by omega)), mo_far (li_VM hV) hn hpn (by omega), pz_b, nI_1, ← ih (k + 1) f (by omega) (by omega)]
          by_cases e : y < be_far d p k
          · rw [sv_if_t e]; simp [be_mk, e]
          · rw [sv_if_f e]; simp [be_mk, e]
      exact R_o (σ1 := σ) (σ2 := σ) (by unfold f_On_reach; rw [on_dr hC.1.1 hn, pz_b, pz_if1, if_pos hg, on_w0_30, pz_b, pz_if1, if_pos hy]; exact GC n 0 sv_fu (by omega) (by unfold sv_fu; omega)) (by unfold f_Mo_reach; rw [mo_dr (n := n) hV.1.1 hn, pz_b, pz_if1, if_pos hg, mo_w0_30, pz_b, pz_if1, if_pos hy]; exact GM n 0 sv_fu (by omega) (by unfold sv_fu; omega)) h
    · exact R_o (σ1 := σ) (by unfold f_On_reach; rw [on_dr hC.1.1 hn, pz_b, pz_if1, if_pos hg, on_w0_30, pz_b, pz_if1, if_neg hy]) (by unfold f_Mo_reach; rw [mo_dr (n := n) hV.1.1 hn, pz_b, pz_if1, if_pos hg, mo_w0_30, pz_b, pz_if1, if_neg hy]) h
  · exact R_o (σ1 := σ) (by unfold f_On_reach; rw [on_dr hC.1.1 hn, pz_b, pz_if1, if_neg hg]) (by unfold f_Mo_reach; rw [mo_dr (n := n) hV.1.1 hn, pz_b, pz_if1, if_neg hg]) h
