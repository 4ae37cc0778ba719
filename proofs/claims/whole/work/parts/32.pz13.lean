/-! ===== pure: order, hush, sounds, sums, texts told ===== -/
theorem R_order (x : Int32) : R_m (f_On_order x) (f_Mo_order x) := by
  intro σ h
  obtain ⟨⟨n, nt, b, m, z, d, T, hC, hV, ok⟩, hX⟩ := id h
  have hn := ok.1
  by_cases hg : 0 ≤ x.toInt ∧ x.toInt ≤ (n : Int) - 1
  · obtain ⟨k, rfl, hk, hk2⟩ := pz_nat hg.1
    have hkn : k < n := by omega
    obtain ⟨u, hu, eu⟩ := (ok.2.2.1 k hkn).2.2.1
    have c2 := show σ 2 (10 * 0 + k) 2 = d k 2 from hC.1.at hkn 2 (by omega)
    have m2 := hV.1.2.2.2.2 k hkn 2 (by omega)
    by_cases hu0 : u = 0
    · subst hu0
      have e0 : d k 2 = 0 := eu
      obtain ⟨τ, g1, g2⟩ := be_wakeC (a := 0) (k := k) hC.1.2.1 (hC.1.at hkn 0 (by omega)) (hC.1.at hkn 1 (by omega)) ok.2.2.1 (li_LC hC ok (q := 1) (by omega)) (by omega) ok.1 hkn
      have hCτ : li_C τ 0 n nt b m z d T := hC.to ok.1 (by rw [g2 1 (by decide)]) (fun i _ _ => by rw [g2 2 (by decide)]) (by rw [g2 4 (by decide)]) (by rw [g2 5 (by decide)]) (g2 18 (by decide)) (g2 19 (by decide)) (g2 22 (by decide))
      have hC1 := hCτ.up (k := k) (j := 2) (v := be_wk (li_f T 1 nt) b d k) (by omega)
      have e31 : sv_up τ 2 (10 * 0 + k) 2 (be_wk (li_f T 1 nt) b d k) 31 0 = σ 31 0 := by rw [pz_up (by omega), g2 31 (by decide)]
      have hV1 : li_V (sv_up τ 2 (10 * 0 + k) 2 (be_wk (li_f T 1 nt) b d k) 31 0) n nt b m z d T := by rw [e31]; exact hV
      obtain ⟨υ, y1, y2⟩ := mo_wakes (σ := sv_up τ 2 (10 * 0 + k) 2 (be_wk (li_f T 1 nt) b d k)) (k := k) hV1.1.2.1 (hV1.1.2.2.2.2 k hkn 0 (by omega)) (hV1.1.2.2.2.2 k hkn 1 (by omega)) ok.2.2.1 (li_LM hV1 ok (q := 1) (by omega)) ok.1 hkn
      have hV2 : li_V (υ 31 0) n nt b m z d T := by rw [y2.s]; exact hV1
      refine R_o (v := be_wk (li_f T 1 nt) b d k) (σ1 := sv_up τ 2 (10 * 0 + k) 2 (be_wk (li_f T 1 nt) b d k)) (σ2 := sv_up υ 31 0 (6 + 8 * k + 2) (be_wk (li_f T 1 nt) b d k)) ?_ ?_ ?_
      · unfold f_On_order f_Li_wake
        rw [on_dr hC.1.1 ok.1, pz_b, pz_if1, if_pos hg, pz_in (by omega) (by omega), pz_cl (by omega), c2, e0, sv_if_t (by decide), be_ln3 (by omega), pz_in (by omega) (by omega), g1, pz_b, pz_b0, pz_in (by omega) (by omega), pz_us]
      · unfold f_Mo_order f_Mo_mayOrder f_Mo_orders
        rw [mo_dr (n := n) hV1.1.1 ok.1, pz_b, pz_if1, if_pos hg, mo_of2 (by omega), pz_b, hV1.1.2.2.2.2 k hkn 2 (by omega), sv_if_t e0, pz_11, pz_b, sv_if_f (by decide), y1, pz_b, mo_sets2 (by omega), pz_b0, mo_of2 (by omega), pz_b, pz_us, pz_b]
      · refine R_two hX (σ1 := sv_up τ 2 (10 * 0 + k) 2 (be_wk (li_f T 1 nt) b d k)) (fun r i h20 _ h2 _ _ => ?_) ⟨fun r i hr _ => ?_, fun j _ => ?_⟩ hC1 (hV2.up (by omega) (by omega) hn) ⟨ok.1, ok.2.1, ok.2.2.1.u (fun e => by cases e) (fun e => by cases e) (fun _ => be_wk_r ok.2.2.1 hkn) (fun e => by cases e), ok.2.2.2⟩
        · rw [pz_up (fun e => h2 ⟨e.1, by omega⟩), g2 r h20]
        · rw [pz_up (fun e => hr ⟨e.1, Or.inl e.2⟩), y2 r i (fun e => hr ⟨e.1, by omega⟩)]
        · rw [pz_ur (by decide), y2 30 0 (by omega)]
    · have e0 : ¬ d k 2 ≤ 0 := by rw [eu]; exact nI_nle (by omega) (by omega)
      have e1 : ¬ d k 2 = 0 := by rw [eu]; exact nI_ne0 (by omega) (by omega)
      refine R_o (σ1 := σ) (σ2 := σ) (by unfold f_On_order; rw [on_dr hC.1.1 ok.1, pz_b, pz_if1, if_pos hg, pz_in (by omega) (by omega), pz_cl (by omega), c2, sv_if_f e0]) (by unfold f_Mo_order f_Mo_mayOrder; rw [mo_dr (n := n) hV.1.1 ok.1, pz_b, pz_if1, if_pos hg, mo_of2 (by omega), pz_b, m2, sv_if_f e1, pz_01, pz_b, sv_if_t rfl]) h
  · exact R_o (σ1 := σ) (by unfold f_On_order; rw [on_dr hC.1.1 ok.1, pz_b, pz_if1, if_neg hg]) (by unfold f_Mo_order; rw [mo_dr (n := n) hV.1.1 ok.1, pz_b, pz_if1, if_neg hg]) h
/-! sums -/
def be_sm (d : be_D) (j : Nat) : Nat → Int32
  | 0 => 0
  | k + 1 => be_sm d j k + d k j
section SUM
variable {σ : sv_S} {a n : Nat} {b m z : Int32} {d : be_D}
theorem cl_sum5 (h : be_C σ a n b m z d) (ha : a < 3) (hn : n ≤ 10) : f_Li_strokesOfAll a σ = some (be_sm d 5 n, σ) := by
  have G : ∀ (r k fuel : Nat), k + r = n → r < fuel → f_Li_strokesOfAll_4 fuel a (be_sm d 5 k) (nI k) σ = some (be_sm d 5 n, σ) := by
    intro r
    induction r with
    | zero =>
      intro k fuel hk hf
      obtain ⟨f, rfl⟩ : ∃ f, fuel = f + 1 := ⟨fuel - 1, by omega⟩
      have hk : k = n := by omega
      subst hk
      rw [f_Li_strokesOfAll_4, h.1, sv_if_t (nI_le (Nat.le_refl k) (by omega))]
    | succ r ih =>
      intro k fuel hk hf
      obtain ⟨f, rfl⟩ : ∃ f, fuel = f + 1 := ⟨fuel - 1, by omega⟩
      rw [f_Li_strokesOfAll_4, h.1, sv_if_f (nI_ge (by omega) (by omega)), be_ln3 ha, pz_in (by omega) (by omega), pz_cl (by omega), show σ 2 (10 * a + k) 5 = d k 5 from h.at (by omega) 5 (by omega), nI_1]
      exact ih (k + 1) f (by omega) (by omega)
  exact G n 0 sv_fu (by omega) (by unfold sv_fu; omega)
theorem cl_sum2 (h : be_C σ a n b m z d) (ha : a < 3) (hn : n ≤ 10) : f_Li_countsOfAll a σ = some (be_sm d 2 n, σ) := by
  have G : ∀ (r k fuel : Nat), k + r = n → r < fuel → f_Li_countsOfAll_4 fuel a (be_sm d 2 k) (nI k) σ = some (be_sm d 2 n, σ) := by
    intro r
    induction r with
    | zero =>
      intro k fuel hk hf
      obtain ⟨f, rfl⟩ : ∃ f, fuel = f + 1 := ⟨fuel - 1, by omega⟩
      have hk : k = n := by omega
      subst hk
      rw [f_Li_countsOfAll_4, h.1, sv_if_t (nI_le (Nat.le_refl k) (by omega))]
    | succ r ih =>
      intro k fuel hk hf
      obtain ⟨f, rfl⟩ : ∃ f, fuel = f + 1 := ⟨fuel - 1, by omega⟩
      rw [f_Li_countsOfAll_4, h.1, sv_if_f (nI_ge (by omega) (by omega)), be_ln3 ha, pz_in (by omega) (by omega), pz_cl (by omega), show σ 2 (10 * a + k) 2 = d k 2 from h.at (by omega) 2 (by omega), nI_1]
      exact ih (k + 1) f (by omega) (by omega)
  exact G n 0 sv_fu (by omega) (by unfold sv_fu; omega)
theorem mo_sum5 (h : be_M σ n b m z d) (hn : n ≤ 10) : f_Mo_strokesOfAll σ = some (be_sm d 5 n, σ) := by
  have G : ∀ (r k fuel : Nat), k + r = n → r < fuel → f_Mo_strokesOfAll_4 fuel (be_sm d 5 k) (nI k) σ = some (be_sm d 5 n, σ) := by
    intro r
    induction r with
    | zero =>
      intro k fuel hk hf
      obtain ⟨f, rfl⟩ : ∃ f, fuel = f + 1 := ⟨fuel - 1, by omega⟩
      have hk : k = n := by omega
      subst hk
      rw [f_Mo_strokesOfAll_4, pz_i0 _ (by omega), show σ 31 0 ((0 : Int32).toNatClampNeg) = nI k from h.1, sv_if_t (nI_le (Nat.le_refl k) (by omega))]
    | succ r ih =>
      intro k fuel hk hf
      obtain ⟨f, rfl⟩ : ∃ f, fuel = f + 1 := ⟨fuel - 1, by omega⟩
      rw [f_Mo_strokesOfAll_4, pz_i0 _ (by omega), show σ 31 0 ((0 : Int32).toNatClampNeg) = nI n from h.1, sv_if_f (nI_ge (by omega) (by omega)), mo_of5 (by omega), pz_b, h.at (by omega) 5 (by omega), nI_1]
      exact ih (k + 1) f (by omega) (by omega)
  exact G n 0 sv_fu (by omega) (by unfold sv_fu; omega)
theorem mo_sum2 (h : be_M σ n b m z d) (hn : n ≤ 10) : f_Mo_countsOfAll σ = some (be_sm d 2 n, σ) := by
  have G : ∀ (r k fuel : Nat), k + r = n → r < fuel → f_Mo_countsOfAll_4 fuel (be_sm d 2 k) (nI k) σ = some (be_sm d 2 n, σ) := by
    intro r
    induction r with
    | zero =>
      intro k fuel hk hf
      obtain ⟨f, rfl⟩ : ∃ f, fuel = f + 1 := ⟨fuel - 1, by omega⟩
      have hk : k = n := by omega
      subst hk
      rw [f_Mo_countsOfAll_4, pz_i0 _ (by omega), show σ 31 0 ((0 : Int32).toNatClampNeg) = nI k from h.1, sv_if_t (nI_le (Nat.le_refl k) (by omega))]
    | succ r ih =>
      intro k fuel hk hf
      obtain ⟨f, rfl⟩ : ∃ f, fuel = f + 1 := ⟨fuel - 1, by omega⟩
      rw [f_Mo_countsOfAll_4, pz_i0 _ (by omega), show σ 31 0 ((0 : Int32).toNatClampNeg) = nI n from h.1, sv_if_f (nI_ge (by omega) (by omega)), mo_of2 (by omega), pz_b, h.at (by omega) 2 (by omega), nI_1]
      exact ih (k + 1) f (by omega) (by omega)
  exact G n 0 sv_fu (by omega) (by unfold sv_fu; omega)
def be_cn (d : be_D) (k : Nat) : Bool := decide (0 < d k 2)
theorem cl_cnt (h : be_C σ a n b m z d) (ha : a < 3) (hn : n ≤ 10) : f_Li_counting a σ = some (nI (be_ct (be_cn d) n), σ) := by
  have G : ∀ (r k fuel : Nat), k + r = n → r < fuel → f_Li_counting_4 fuel a (nI (be_ct (be_cn d) k)) (nI k) σ = some (nI (be_ct (be_cn d) n), σ) := by
    intro r
    induction r with
    | zero =>
      intro k fuel hk hf
      obtain ⟨f, rfl⟩ : ∃ f, fuel = f + 1 := ⟨fuel - 1, by omega⟩
      have hk : k = n := by omega
      subst hk
      rw [f_Li_counting_4, h.1, sv_if_t (nI_le (Nat.le_refl k) (by omega))]
    | succ r ih =>
      intro k fuel hk hf
      obtain ⟨f, rfl⟩ : ∃ f, fuel = f + 1 := ⟨fuel - 1, by omega⟩
      rw [f_Li_counting_4, h.1, sv_if_f (nI_ge (by omega) (by omega)), be_ln3 ha, pz_in (by omega) (by omega), pz_cl (by omega), show σ 2 (10 * a + k) 2 = d k 2 from h.at (by omega) 2 (by omega), nI_1, nI_1]
      have g := ih (k + 1) f (by omega) (by omega)
      by_cases hc : 0 < d k 2
      · rw [sv_if_f (Int32.not_le.mpr hc)]
        have e : be_ct (be_cn d) (k + 1) = be_ct (be_cn d) k + 1 := by simp [be_ct, be_cn, hc]
        rw [e] at g; exact g
      · rw [sv_if_t (Int32.not_lt.mp hc)]
        have e : be_ct (be_cn d) (k + 1) = be_ct (be_cn d) k := by simp [be_ct, be_cn, hc]
        rw [e] at g; exact g
  exact G n 0 sv_fu (by omega) (by unfold sv_fu; omega)
theorem mo_cntg (h : be_M σ n b m z d) (hn : n ≤ 10) : f_Mo_counting σ = some (nI (be_ct (be_cn d) n), σ) := by
  have G : ∀ (r k fuel : Nat), k + r = n → r < fuel → f_Mo_counting_4 fuel (nI (be_ct (be_cn d) k)) (nI k) σ = some (nI (be_ct (be_cn d) n), σ) := by
    intro r
    induction r with
    | zero =>
      intro k fuel hk hf
      obtain ⟨f, rfl⟩ : ∃ f, fuel = f + 1 := ⟨fuel - 1, by omega⟩
      have hk : k = n := by omega
      subst hk
      rw [f_Mo_counting_4, pz_i0 _ (by omega), show σ 31 0 ((0 : Int32).toNatClampNeg) = nI k from h.1, sv_if_t (nI_le (Nat.le_refl k) (by omega))]
    | succ r ih =>
      intro k fuel hk hf
      obtain ⟨f, rfl⟩ : ∃ f, fuel = f + 1 := ⟨fuel - 1, by omega⟩
      rw [f_Mo_counting_4, pz_i0 _ (by omega), show σ 31 0 ((0 : Int32).toNatClampNeg) = nI n from h.1, sv_if_f (nI_ge (by omega) (by omega)), mo_of2 (by omega), pz_b, h.at (by omega) 2 (by omega), nI_1, nI_1]
      have g := ih (k + 1) f (by omega) (by omega)
      by_cases hc : 0 < d k 2
      · rw [sv_if_f (Int32.not_le.mpr hc)]
        have e : be_ct (be_cn d) (k + 1) = be_ct (be_cn d) k + 1 := by simp [be_ct, be_cn, hc]
        rw [e] at g; exact g
      · rw [sv_if_t (Int32.not_lt.mp hc), Int32.add_zero]
        have e : be_ct (be_cn d) (k + 1) = be_ct (be_cn d) k := by simp [be_ct, be_cn, hc]
        rw [e] at g; exact g
  exact G n 0 sv_fu (by omega) (by unfold sv_fu; omega)
end SUM
theorem R_count (x : Int32) : R_m (f_On_count x) (f_Mo_count x) := by
  intro σ h
  obtain ⟨⟨n, nt, b, m, z, d, T, hC, hV, ok⟩, hX⟩ := id h
  obtain ⟨-, ⟨pl, p1, p2, p3, p4⟩, -, -, ⟨w, w1, w2, w3, w4⟩⟩ := id hX
  have hn := ok.1
  by_cases e0 : x.toInt = 0
  · exact R_o (v := nI n) (σ1 := σ) (σ2 := σ) (by unfold f_On_count; rw [sv_if_t e0, hC.1.1]) (by unfold f_Mo_count; rw [sv_if_t e0, pz_i0 _ (by omega), show σ 31 0 ((0 : Int32).toNatClampNeg) = nI n from hV.1.1]) h
  by_cases e1 : x.toInt = 1
  · exact R_o (v := b) (σ1 := σ) (σ2 := σ) (by unfold f_On_count; rw [sv_if_f e0, sv_if_t e1, hC.1.2.1]) (by unfold f_Mo_count; rw [sv_if_f e0, sv_if_t e1, sv_g_t ⟨by decide, by decide⟩, show σ 31 0 ((3 : Int32).toNatClampNeg) = b from hV.1.2.1]) h
  by_cases e2 : x.toInt = 2
  · exact R_o (v := m) (σ1 := σ) (σ2 := σ) (by unfold f_On_count; rw [sv_if_f e0, sv_if_f e1, sv_if_t e2, hC.1.2.2.1]) (by unfold f_Mo_count; rw [sv_if_f e0, sv_if_f e1, sv_if_t e2, sv_g_t ⟨by decide, by decide⟩, show σ 31 0 ((2 : Int32).toNatClampNeg) = m from hV.1.2.2.1]) h
  by_cases e3 : x.toInt = 3
  · exact R_o (σ1 := σ) (σ2 := σ) (by unfold f_On_count; rw [sv_if_f e0, sv_if_f e1, sv_if_f e2, sv_if_t e3, cl_sum5 hC.1 (by omega) hn, pz_b]) (by unfold f_Mo_count; rw [sv_if_f e0, sv_if_f e1, sv_if_f e2, sv_if_t e3, mo_sum5 (li_VM hV) hn, pz_b]) h
  by_cases e4 : x.toInt = 4
  · exact R_o (σ1 := σ) (σ2 := σ) (by unfold f_On_count; rw [sv_if_f e0, sv_if_f e1, sv_if_f e2, sv_if_f e3, sv_if_t e4, cl_cnt hC.1 (by omega) hn, pz_b]) (by unfold f_Mo_count; rw [sv_if_f e0, sv_if_f e1, sv_if_f e2, sv_if_f e3, sv_if_t e4, mo_cntg (li_VM hV) hn, pz_b]) h
  by_cases e5 : x.toInt = 5
  · exact R_o (σ1 := σ) (σ2 := σ) (by unfold f_On_count; rw [sv_if_f e0, sv_if_f e1, sv_if_f e2, sv_if_f e3, sv_if_f e4, sv_if_t e5, cl_sum2 hC.1 (by omega) hn, pz_b]) (by unfold f_Mo_count; rw [sv_if_f e0, sv_if_f e1, sv_if_f e2, sv_if_f e3, sv_if_f e4, sv_if_t e5, mo_sum2 (li_VM hV) hn, pz_b]) h
  by_cases e6 : x.toInt = 6
  · exact R_o (v := nI nt) (σ1 := σ) (σ2 := σ) (by unfold f_On_count; rw [sv_if_f e0, sv_if_f e1, sv_if_f e2, sv_if_f e3, sv_if_f e4, sv_if_f e5, sv_if_t e6, hC.2.1]) (by unfold f_Mo_count; rw [sv_if_f e0, sv_if_f e1, sv_if_f e2, sv_if_f e3, sv_if_f e4, sv_if_f e5, sv_if_t e6, sv_g_t ⟨by decide, by decide⟩, show σ 31 0 ((1 : Int32).toNatClampNeg) = nI nt from hV.2.1]) h
  by_cases e7 : x.toInt = 7
  · exact R_o (v := nI w) (σ1 := σ) (σ2 := σ) (by unfold f_On_count; rw [sv_if_f e0, sv_if_f e1, sv_if_f e2, sv_if_f e3, sv_if_f e4, sv_if_f e5, sv_if_f e6, sv_if_t e7, w2]) (by unfold f_Mo_count; rw [sv_if_f e0, sv_if_f e1, sv_if_f e2, sv_if_f e3, sv_if_f e4, sv_if_f e5, sv_if_f e6, sv_if_t e7, w3]) h
  by_cases e8 : x.toInt = 8
  · exact R_o (v := nI pl) (σ1 := σ) (σ2 := σ) (by unfold f_On_count; rw [sv_if_f e0, sv_if_f e1, sv_if_f e2, sv_if_f e3, sv_if_f e4, sv_if_f e5, sv_if_f e6, sv_if_f e7, sv_if_t e8, p2]) (by unfold f_Mo_count; rw [sv_if_f e0, sv_if_f e1, sv_if_f e2, sv_if_f e3, sv_if_f e4, sv_if_f e5, sv_if_f e6, sv_if_f e7, sv_if_t e8, p3]) h
  by_cases e9 : x.toInt = 9
  · exact R_o (v := z) (σ1 := σ) (σ2 := σ) (by unfold f_On_count; rw [sv_if_f e0, sv_if_f e1, sv_if_f e2, sv_if_f e3, sv_if_f e4, sv_if_f e5, sv_if_f e6, sv_if_f e7, sv_if_f e8, sv_if_t e9, hC.1.2.2.2.1]) (by unfold f_Mo_count; rw [sv_if_f e0, sv_if_f e1, sv_if_f e2, sv_if_f e3, sv_if_f e4, sv_if_f e5, sv_if_f e6, sv_if_f e7, sv_if_f e8, sv_if_t e9, sv_g_t ⟨by decide, by decide⟩, show σ 31 0 ((4 : Int32).toNatClampNeg) = z from hV.1.2.2.2.1]) h
  · exact R_o (σ1 := σ) (σ2 := σ) (by unfold f_On_count; rw [sv_if_f e0, sv_if_f e1, sv_if_f e2, sv_if_f e3, sv_if_f e4, sv_if_f e5, sv_if_f e6, sv_if_f e7, sv_if_f e8, sv_if_f e9]) (by unfold f_Mo_count; rw [sv_if_f e0, sv_if_f e1, sv_if_f e2, sv_if_f e3, sv_if_f e4, sv_if_f e5, sv_if_f e6, sv_if_f e7, sv_if_f e8, sv_if_f e9]) h
theorem li_t_r (T : Nat → tx_T) (q nt : Nat) (hnt : nt ≤ 14) : li_t T q nt = -1 ∨ ∃ t : Nat, t < 14 ∧ li_t T q nt = nI t := by
  rcases li_tf T q nt with ⟨_, e⟩ | ⟨t, ht, _, e, _⟩
  · exact Or.inl e
  · exact Or.inr ⟨t, by omega, e⟩
theorem R_why (x : Int32) : R_m (f_On_why x) (f_Mo_why x) := by
  intro σ h
  obtain ⟨⟨n, nt, b, m, z, d, T, hC, hV, ok⟩, hX⟩ := id h
  by_cases hg : 0 ≤ x.toInt ∧ x.toInt ≤ 2
  · obtain ⟨q, rfl, hq, hq2⟩ := pz_nat hg.1
    have hq3 : q < 3 := by omega
    have hm : mo_li σ q nt = li_t T q nt := li_mo nt (fun t ht => ⟨(ok.2.2.2.2 t ht).1, (hV.2.2 t ht).1⟩) hq3
    have c5 := hC.2.2.2 q hq3
    have mc := mo_cnt (σ := σ) (q := q) hV.2.1 ok.2.1
    rcases li_t_r T q nt ok.2.1 with e | ⟨t, ht, e⟩
    · exact R_o (σ1 := σ) (σ2 := σ) (by unfold f_On_why; rw [on_w0_2, pz_b, pz_if1, if_pos hg, pz_in hq3 (by omega), pz_cl (by omega), c5, e, sv_if_f (by decide)]) (by unfold f_Mo_why f_Mo_orNone; rw [mo_w0_2, pz_b, pz_if1, if_pos hg, mc, pz_b, hm, e, sv_if_f (by decide), pz_b]) h
    · exact R_o (v := nI t) (σ1 := σ) (σ2 := σ) (by unfold f_On_why; rw [on_w0_2, pz_b, pz_if1, if_pos hg, pz_in hq3 (by omega), pz_cl (by omega), c5, e, sv_if_t (nI_pos' (by omega)), pz_in hq3 (by omega)]) (by unfold f_Mo_why f_Mo_orNone; rw [mo_w0_2, pz_b, pz_if1, if_pos hg, mc, pz_b, hm, e, sv_if_t (nI_pos' (by omega)), pz_b]) h
  · exact R_o (σ1 := σ) (by unfold f_On_why; rw [on_w0_2, pz_b, pz_if1, if_neg hg]) (by unfold f_Mo_why; rw [mo_w0_2, pz_b, pz_if1, if_neg hg]) h
theorem R_textTold (x y : Int32) : R_m (f_On_textTold x y) (f_Mo_textTold x y) := by
  intro σ h
  obtain ⟨⟨n, nt, b, m, z, d, T, hC, hV, ok⟩, hX⟩ := id h
  have hnt := ok.2.1
  have G1 : f_On_isWithin x (0 : Int32) (nI nt - (1 : Int32)) σ = some (if 0 ≤ x.toInt ∧ x.toInt ≤ (nt : Int) - 1 then 1 else 0, σ) := on_w x 0 ((nt : Int) - 1) rfl (pz_m1 (by omega)) σ
  have G2 : f_Mo_isText x σ = some (if 0 ≤ x.toInt ∧ x.toInt ≤ (nt : Int) - 1 then 1 else 0, σ) := by
    unfold f_Mo_isText
    rw [sv_g_t ⟨by decide, by decide⟩, show σ 31 0 ((1 : Int32).toNatClampNeg) = nI nt from hV.2.1, mo_isIn, pz_b, Int32.toInt_toInt64, pz_m1 (by omega), pz_bool]
    rfl
  by_cases hg : 0 ≤ x.toInt ∧ x.toInt ≤ (nt : Int) - 1
  · by_cases hy : 0 ≤ y.toInt ∧ y.toInt ≤ 1
    · obtain ⟨t, rfl, ht, ht2⟩ := pz_nat hg.1
      have htn : t < nt := by omega
      obtain ⟨id, i1, i2, i3, i4, i5, i6⟩ := hC.2.2.1 t htn
      have hid : id + 1 < 2 ^ 31 := by
        have i2 : id < (σ 22 0 0).toNatClampNeg := i2
        have := sv_cl32 (σ 22 0 0)
        by_cases hh : id + 1 < 2 ^ 31
        · exact hh
        · omega
      obtain ⟨v1, v2, v3, v4⟩ := hV.2.2 t htn
      by_cases y0 : y = 0
      · subst y0
        refine R_o (v := nI (T t).1) (σ1 := σ) (σ2 := σ) ?_ ?_ h
        · unfold f_On_textTold
          rw [hC.2.1, G1, pz_b, pz_if1, if_pos hg, on_w0_1, pz_b, pz_if1, if_pos hy, pz_in (by omega) (by omega), pz_cl (by omega), i1, sv_tx_nI hid, sv_g_t i2, sv_if_t rfl, i3]
        · unfold f_Mo_textTold
          rw [G2, pz_b, pz_if1, if_pos hg, mo_w0_1, pz_b, pz_if1, if_pos hy, mo_textAt, pz_b, Int32.add_zero, pz_in (by omega) (by omega), pz_cl (by omega), v1]
      · have y1 : y = 1 := by
          rw [pz_eq] at y0 ⊢
          have e0 : (0 : Int32).toInt = 0 := rfl
          have e1 : (1 : Int32).toInt = 1 := rfl
          omega
        subst y1
        refine R_o (v := nI (T t).2.1) (σ1 := σ) (σ2 := σ) ?_ ?_ h
        · unfold f_On_textTold
          rw [hC.2.1, G1, pz_b, pz_if1, if_pos hg, on_w0_1, pz_b, pz_if1, if_pos hy, pz_in (by omega) (by omega), pz_cl (by omega), i1, sv_tx_nI hid, sv_g_t i2, sv_if_f (by decide), i4]
        · unfold f_Mo_textTold
          rw [G2, pz_b, pz_if1, if_pos hg, mo_w0_1, pz_b, pz_if1, if_pos hy, mo_textAt, pz_b, nI_1, pz_in (by omega) (by omega), pz_cl (by omega), show 86 + 200 * t + 1 = 87 + 200 * t by omega, v2]
    · exact R_o (σ1 := σ) (by unfold f_On_textTold; rw [hC.2.1, G1, pz_b, pz_if1, if_pos hg, on_w0_1, pz_b, pz_if1, if_neg hy]) (by unfold f_Mo_textTold; rw [G2, pz_b, pz_if1, if_pos hg, mo_w0_1, pz_b, pz_if1, if_neg hy]) h
  · exact R_o (σ1 := σ) (by unfold f_On_textTold; rw [hC.2.1, G1, pz_b, pz_if1, if_neg hg]) (by unfold f_Mo_textTold; rw [G2, pz_b, pz_if1, if_neg hg]) h
theorem R_fine : R_m f_On_fine f_Mo_fine := by
  intro σ h
  obtain ⟨⟨n, nt, b, m, z, d, T, hC, hV, ok⟩, hX⟩ := id h
  have hn := ok.1
  have hL := li_LC hC ok (q := 2) (by omega)
  have hM := li_LM hV ok (q := 2) (by omega)
  cases hf : li_f T 2 nt with
  | none =>
    rw [hf] at hL hM
    exact R_o (σ1 := σ) (σ2 := σ) (by unfold f_On_fine; rw [show f_Li_lawOf 0 (2 : Int32) σ = some (none, σ) from be_lawN (q := 2) (by omega) hL, pz_bT0, cl_sum5 hC.1 (by omega) hn, pz_b]) (by unfold f_Mo_fine; rw [show f_Mo_counts (2 : Int32) σ = some (-1, σ) from mo_cntN (q := 2) hM, pz_b, sv_if_f (by decide), mo_sum5 (li_VM hV) hn, pz_b]) h
  | some g =>
    rw [hf] at hL hM
    obtain ⟨id, g1, g2⟩ := be_lawS (q := 2) (by omega) hL
    obtain ⟨τ, g3, g4⟩ := g2 (be_sm d 5 n) b 0 σ (be_e20.rfl' σ)
    have hτ := h.e20 g4
    have e31 := g4 31 (by decide)
    have hV' : li_V (τ 31 0) n nt b m z d T := by rw [e31]; exact hV
    have hM' := li_LM hV' ok (q := 2) (by omega)
    rw [hf] at hM'
    have e2 : be_eM τ (sv_up (sv_up τ 31 28 109 (be_sm d 5 n)) 31 28 98 b) := mo_nm (mo_nm (be_eM.rfl' τ) _ _) _ _
    obtain ⟨t, ht, c1, υ, c2, c3⟩ := mo_worked (x := be_sm d 5 n) (y := b) (w := 0) hM' e2 (by show sv_up _ 31 28 98 _ 31 28 109 = _; rw [pz_uk (by decide), pz_us]) (by show sv_up _ 31 28 98 _ 31 28 98 = _; rw [pz_us]) (fun e => absurd e (by omega))
    refine R_o (v := g (be_sm d 5 n) b 0) (σ1 := τ) (σ2 := υ) ?_ ?_ (hτ.eM c3)
    · unfold f_On_fine
      rw [show f_Li_lawOf 0 (2 : Int32) σ = some (some id, σ) from g1, pz_bT1, cl_sum5 hC.1 (by omega) hn, pz_b, show σ 1 0 5 = b from hC.1.2.1, g3, pz_b]
    · unfold f_Mo_fine
      rw [show f_Mo_counts (2 : Int32) τ = some (nI t, τ) from c1, pz_b, sv_if_t (nI_pos' (by omega)), mo_sum5 (li_VM hV') hn, pz_b, sv_g_t ⟨by decide, by decide⟩, sv_g_t ⟨by decide, by decide⟩, sv_g_t ⟨by decide, by decide⟩, show sv_up τ 31 28 ((109 : Int32).toNatClampNeg) (be_sm d 5 n) 31 0 ((3 : Int32).toNatClampNeg) = b by rw [pz_ui (by decide)]; exact hV'.1.2.1]
      rw [show f_Mo_worked (nI t) (sv_up (sv_up τ 31 28 ((109 : Int32).toNatClampNeg) (be_sm d 5 n)) 31 28 ((98 : Int32).toNatClampNeg) b) = some (g (be_sm d 5 n) b 0, υ) from c2, pz_b]
