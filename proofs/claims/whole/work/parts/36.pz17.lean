/-! ===== pure: behind, spread, toWhom, beats ===== -/
def be_la (s : Nat → Nat → Bool) (n : Nat) : Nat → Int32
  | 0 => 0
  | i + 1 => nI (be_ct (s i) n)
section BHD
variable {hr sr : be_F} {n : Nat} {m b z : Int32} {d e : be_D} {σ0 : sv_S}
theorem cl_behind {N k : Nat} {w : Int32} (hN : N ≤ 100) (hk : k < n) (hok : be_ok n d) (hq : be_q n e d) (hoe : be_ok n e) (h5 : e k 5 = 0) (hn : n ≤ 10) : ∀ (r i fuel : Nat) (σ : sv_S), i + r = N → r < fuel → be_TC hr sr 2 n m b z e σ0 i σ → ∃ σ', f_On_behind_40 fuel (nI k) (nI N) w (be_la (be_s hr sr n m b z d) n i) (nI i) σ = some (if w = 2 then be_la (be_s hr sr n m b z d) n N else if w = 1 then nI (be_n (be_s hr sr n m b z d) k N) else (be_it hr sr n m b z d N).2 k 2, σ') ∧ be_fC 2 σ0 σ' := by
  intro r
  induction r with
  | zero =>
    intro i fuel σ hi hf hT
    obtain ⟨f, rfl⟩ : ∃ f, fuel = f + 1 := ⟨fuel - 1, by omega⟩
    have hi : i = N := by omega
    subst hi
    refine ⟨σ, ?_, hT.2.2.2.1⟩
    have c5 : σ 2 (10 * 2 + k) 5 = nI (be_n (be_s hr sr n m b z d) k i) := by
      rw [show σ 2 (10 * 2 + k) 5 = (be_it hr sr n m b z e i).2 k 5 from hT.1.at hk 5 (by omega), be_n5, h5, Int32.zero_add, be_n_congr i (fun j => be_q_s hq j hk)]
    have c2 : σ 2 (10 * 2 + k) 2 = (be_it hr sr n m b z d i).2 k 2 := by
      rw [show σ 2 (10 * 2 + k) 2 = (be_it hr sr n m b z e i).2 k 2 from hT.1.at hk 2 (by omega)]
      exact (be_q_it hq i).2 k hk 2 (by omega) (by omega) (by omega)
    rw [f_On_behind_40, sv_if_t (nI_le (Nat.le_refl i) (by omega)), pz_in (by omega) (by omega), pz_in (by omega) (by omega), pz_cl (by omega), c5, c2]
    by_cases h2 : w = 2
    · rw [sv_if_t h2, if_pos h2]
    · rw [sv_if_f h2, if_neg h2]
      by_cases h1 : w = 1
      · rw [sv_if_t h1, if_pos h1]
      · rw [sv_if_f h1, if_neg h1]
  | succ r ih =>
    intro i fuel σ hi hf hT
    obtain ⟨f, rfl⟩ : ∃ f, fuel = f + 1 := ⟨fuel - 1, by omega⟩
    obtain ⟨τ, g1, g2⟩ := hT.go2 hok hq hoe hn
    obtain ⟨σ', y1, y2⟩ := ih (i + 1) f τ (by omega) (by omega) g2
    refine ⟨σ', ?_, y2⟩
    rw [f_On_behind_40, sv_if_f (nI_ge (by omega) (by omega)), g1, pz_b, nI_1]
    exact y1
theorem mo_behind {N k : Nat} {w : Int32} (hN : N ≤ 100) (hk : k < n) (hok : be_ok n d) (hn : n ≤ 10) : ∀ (r i fuel : Nat) (σ : sv_S), i + r = N → r < fuel → be_TM hr sr n m b z d σ0 i σ → ∃ σ', f_Mo_behind_48 fuel (nI k) (nI N) w (nI (be_n (be_s hr sr n m b z d) k i)) (be_la (be_s hr sr n m b z d) n i) (nI i) σ = some (if w = 0 then (be_it hr sr n m b z d N).2 k 2 else if w = 1 then nI (be_n (be_s hr sr n m b z d) k N) else be_la (be_s hr sr n m b z d) n N, pz_cp σ' 13 0 86) ∧ be_fT σ0 σ' := by
  intro r
  induction r with
  | zero =>
    intro i fuel σ hi hf hT
    obtain ⟨f, rfl⟩ : ∃ f, fuel = f + 1 := ⟨fuel - 1, by omega⟩
    have hi : i = N := by omega
    subst hi
    refine ⟨σ, ?_, hT.2.2.2⟩
    rw [f_Mo_behind_48, sv_if_t (nI_le (Nat.le_refl i) (by omega)), mo_of2 (by omega), pz_b, mo_laysBack, pz_b0, hT.1.at hk 2 (by omega)]
    by_cases h0 : w = 0
    · rw [sv_if_t h0, if_pos h0]
    · rw [sv_if_f h0, if_neg h0]
      by_cases h1 : w = 1
      · rw [sv_if_t h1, if_pos h1]
      · rw [sv_if_f h1, if_neg h1]
  | succ r ih =>
    intro i fuel σ hi hf hT
    obtain ⟨f, rfl⟩ : ∃ f, fuel = f + 1 := ⟨fuel - 1, by omega⟩
    obtain ⟨τ, g1, g2, g3⟩ := hT.go hok hn
    obtain ⟨σ', y1, y2⟩ := ih (i + 1) f τ (by omega) (by omega) g2
    refine ⟨σ', ?_, y2⟩
    rw [f_Mo_behind_48, sv_if_f (nI_ge (by omega) (by omega)), g1, pz_b, be_ones _ hn, pz_b, nI_1, be_mk_bit _ (by omega) hk]
    have e1 : nI (be_n (be_s hr sr n m b z d) k i) + (if be_s hr sr n m b z d i k = true then (1 : Int32) else 0) = nI (be_n (be_s hr sr n m b z d) k (i + 1)) := by
      simp only [be_n]
      by_cases hs : be_s hr sr n m b z d i k = true
      · rw [if_pos hs, if_pos hs, nI_1]
      · rw [if_neg hs, if_neg hs, Int32.add_zero]
    rw [e1]
    exact y1
end BHD
theorem R_behind (x y w : Int32) : R_m (f_On_behind x y w) (f_Mo_behind x y w) := by
  intro σ h
  obtain ⟨⟨n, nt, b, m, z, d, T, hC, hV, ok⟩, hX⟩ := id h
  have hn := ok.1
  by_cases hg : 0 ≤ x.toInt ∧ x.toInt ≤ (n : Int) - 1
  · by_cases hy : 0 ≤ y.toInt ∧ y.toInt ≤ 100
    · by_cases hw : 0 ≤ w.toInt ∧ w.toInt ≤ 2
      · obtain ⟨k, rfl, hk, hk2⟩ := pz_nat hg.1
        obtain ⟨N, rfl, hN, hN2⟩ := pz_nat hy.1
        obtain ⟨τ, g1, g2, g3⟩ := cl_think ok hC
        obtain ⟨υ, y1, y2⟩ := cl_behind (w := w) (N := N) (k := k) (by omega) (by omega) ok.2.2.1 (be_o_q n d) (be_o_ok ok.2.2.1) (by simp [be_o]) hn N 0 sv_fu τ (by omega) (by unfold sv_fu; omega) (be_TC0 ok g2)
        have hkk : R_tC σ υ := g3.tr y2.t
        have e31 : υ 31 0 = σ 31 0 := hkk 31 0 (by decide) (by decide) (by omega) (by omega)
        have hV2 : li_V (pz_cp υ 0 13 86 31 0) n nt b m z d T := by rw [mo_by, e31]; exact hV
        obtain ⟨ω, x1, x2⟩ := mo_behind (w := w) (N := N) (k := k) (by omega) (by omega) ok.2.2.1 hn N 0 sv_fu (pz_cp υ 0 13 86) (by omega) (by unfold sv_fu; omega) (be_TM0 ok hV2)
        refine R_o (σ1 := υ) (σ2 := pz_cp ω 13 0 86) (by unfold f_On_behind; rw [on_dr hC.1.1 hn, pz_b, pz_if1, if_pos hg, on_w0_100, pz_b, pz_if1, if_pos hy, on_w0_2, pz_b, pz_if1, if_pos hw, g1, pz_b0]; exact y1) ?_ ((mo_bk x2).A (hkk.A h))
        unfold f_Mo_behind
        rw [mo_dr (n := n) (by rw [e31]; exact hV.1.1) hn, pz_b, pz_if1, if_pos hg, mo_w0_100, pz_b, pz_if1, if_pos hy, mo_w0_2, pz_b, pz_if1, if_pos hw, mo_laysBy, pz_b0]
        refine Eq.trans x1 ?_
        congr 2
        have e0 : (0 : Int32).toInt = 0 := rfl
        have e1 : (1 : Int32).toInt = 1 := rfl
        have e2 : (2 : Int32).toInt = 2 := rfl
        by_cases h2 : w = 2
        · subst h2; rfl
        · by_cases h1 : w = 1
          · subst h1; rfl
          · have h0 : w = 0 := by rw [pz_eq] at *; omega
            rw [if_pos h0, if_neg h2, if_neg h1]
      · exact R_o (σ1 := σ) (by unfold f_On_behind; rw [on_dr hC.1.1 hn, pz_b, pz_if1, if_pos hg, on_w0_100, pz_b, pz_if1, if_pos hy, on_w0_2, pz_b, pz_if1, if_neg hw]) (by unfold f_Mo_behind; rw [mo_dr (n := n) hV.1.1 hn, pz_b, pz_if1, if_pos hg, mo_w0_100, pz_b, pz_if1, if_pos hy, mo_w0_2, pz_b, pz_if1, if_neg hw]) h
    · exact R_o (σ1 := σ) (by unfold f_On_behind; rw [on_dr hC.1.1 hn, pz_b, pz_if1, if_pos hg, on_w0_100, pz_b, pz_if1, if_neg hy]) (by unfold f_Mo_behind; rw [mo_dr (n := n) hV.1.1 hn, pz_b, pz_if1, if_pos hg, mo_w0_100, pz_b, pz_if1, if_neg hy]) h
  · exact R_o (σ1 := σ) (by unfold f_On_behind; rw [on_dr hC.1.1 hn, pz_b, pz_if1, if_neg hg]) (by unfold f_Mo_behind; rw [mo_dr (n := n) hV.1.1 hn, pz_b, pz_if1, if_neg hg]) h
theorem R_spread (x : Int32) : R_m (f_On_spread x) (f_Mo_spread x) := by
  intro σ h
  obtain ⟨⟨n, nt, b, m, z, d, T, hC, hV, ok⟩, hX⟩ := id h
  have hn := ok.1
  by_cases hg : 1 ≤ x.toInt ∧ x.toInt ≤ 100
  · obtain ⟨N, rfl, hN, hN2⟩ := pz_nat (a := x) (by omega)
    obtain ⟨bb, hbb, hb⟩ := ok.2.2.2.1
    obtain ⟨τ, g1, g2, g3⟩ := cl_think ok hC
    obtain ⟨υ, y1, y2⟩ := cl_spreadIn (N := N) (by omega) hb hbb ok.2.2.1 (be_o_q n d) (be_o_ok ok.2.2.1) (fun k _ => by simp [be_o]) hn (be_TC0 ok g2)
    have hkk : R_tC σ υ := g3.tr y2.t
    have e31 : υ 31 0 = σ 31 0 := hkk 31 0 (by decide) (by decide) (by omega) (by omega)
    have hV2 : li_V (pz_cp υ 0 13 86 31 0) n nt b m z d T := by rw [mo_by, e31]; exact hV
    obtain ⟨ω, x1, x2, x3, x4⟩ := mo_lay (N := N) (by omega) ok.2.2.1 hn (be_TM0 ok hV2)
    have hb2 := mo_bk x2.2.2.2
    have hfl : ∀ k, be_f (be_s (li_f T 0 nt) (li_f T 1 nt) n m b z d) k N ≤ 100 := fun k => Nat.le_trans (be_f_le _ _ _) (by omega)
    have hs := mo_spread (f := fun k => be_f (be_s (li_f T 0 nt) (li_f T 1 nt) n m b z d) k N) (n := n) (σ := pz_cp ω 13 0 86) hfl hn (by rw [hb2.1, e31]; exact hV.1.1) (fun j hj => by rw [pz_cp_o (by omega)]; exact x3 j hj)
    exact R_o (σ1 := υ) (σ2 := pz_cp ω 13 0 86) (by unfold f_On_spread; rw [on_w1_100, pz_b, pz_if1, if_pos hg, g1, pz_b0, y1, pz_b]) (by unfold f_Mo_spread; rw [mo_w1_100, pz_b, pz_if1, if_pos hg, mo_laysBy, pz_b0, x1, pz_b0, mo_laysBack, pz_b0, hs, pz_b, mo_orN _ (fun k hk => by have := sp_r _ hfl hk; omega), pz_b]) (hb2.A (hkk.A h))
  · exact R_o (σ1 := σ) (by unfold f_On_spread; rw [on_w1_100, pz_b, pz_if1, if_neg hg]) (by unfold f_Mo_spread; rw [mo_w1_100, pz_b, pz_if1, if_neg hg]) h
/-! toWhom -/
def tw_s (c : Nat → Option Nat) : Nat → Option Nat × Nat
  | 0 => (none, 0)
  | k + 1 => match c k with
    | none => tw_s c k
    | some v => if (tw_s c k).1 = none ∨ v < (tw_s c k).2 then (some k, v) else tw_s c k
theorem tw_r (c : Nat → Option Nat) (hc : ∀ k v, c k = some v → v ≤ 100) : ∀ k, (tw_s c k).2 ≤ 100 ∧ ∀ j, (tw_s c k).1 = some j → j < k := by
  intro k
  induction k with
  | zero => exact ⟨(by decide : (0 : Nat) ≤ 100), fun j h => by cases h⟩
  | succ k ih =>
    simp only [tw_s]
    cases hk : c k with
    | none => exact ⟨ih.1, fun j h => Nat.lt_succ_of_lt (ih.2 j h)⟩
    | some v =>
      dsimp only
      split
      · exact ⟨hc k v hk, fun j h => by cases h; omega⟩
      · exact ⟨ih.1, fun j h => Nat.lt_succ_of_lt (ih.2 j h)⟩
theorem be_op_none {x : Option Nat} (h : ∀ k, x = some k → k < 2147483648) : be_op x = -1000000005 ↔ x = none := by
  cases x with
  | none => exact ⟨fun _ => rfl, fun _ => rfl⟩
  | some k =>
    refine ⟨fun e => ?_, fun e => by cases e⟩
    have h1 : (nI k).toInt = (k : Int) := pz_ti (h k rfl)
    have e2 : (nI k) = -1000000005 := e
    rw [e2] at h1
    have : (-1000000005 : Int32).toInt = -1000000005 := rfl
    omega
theorem be_o1_neg {x : Option Nat} (h : ∀ k, x = some k → k < 2147483648) : be_o1 x < 0 ↔ x = none := by
  cases x with
  | none => exact ⟨fun _ => rfl, fun _ => by decide⟩
  | some k => exact ⟨fun e => absurd e (nI_pos (h k rfl)), fun e => by cases e⟩
/-- the reference's way back, again and again -/
theorem mo_bk2 {σ τ : sv_S} (hc : ∀ j, j < 86 → σ 31 13 j = σ 31 0 j) (h : be_fT σ τ) : pz_cp τ 13 0 86 31 0 = σ 31 0 ∧ (∀ j, pz_cp τ 13 0 86 31 13 j = σ 31 13 j) ∧ R_kM σ (pz_cp τ 13 0 86) := by
  refine ⟨?_, fun j => ?_, fun r i hr hs => ?_, fun j hj => ?_⟩
  · funext j
    by_cases hj : j < 86
    · rw [pz_cp_in hj, h.1 31 13 (by omega) (by omega), hc j hj]
    · rw [pz_cp_ge (by omega), h.2.1 j (by omega)]
  · rw [pz_cp_o (by omega), h.1 31 13 (by omega) (by omega)]
  · rw [pz_cp_o (fun q => hr ⟨q.1, Or.inl q.2⟩), h.1 r i (fun q => hr ⟨q.1, by omega⟩) hs]
  · rw [pz_cp_o (by omega), h.2.2.2 j hj]
section TWH
variable {n nt : Nat} {m b z : Int32} {d : be_D} {T : Nat → tx_T}
/-- the spread if drummer k is ordered -/
noncomputable def tw_c (n nt : Nat) (m b z : Int32) (d : be_D) (T : Nat → tx_T) (N k : Nat) : Option Nat := if d k 2 = 0 then sp_o (fun j => be_f (be_s (li_f T 0 nt) (li_f T 1 nt) n m b z (be_u d k 2 (be_wk (li_f T 1 nt) b d k))) j N) n else none
theorem tw_c_r {N : Nat} (hN : N ≤ 100) : ∀ k v, tw_c n nt m b z d T N k = some v → v ≤ 100 := by
  intro k v h
  unfold tw_c at h
  split at h
  · exact sp_r _ (fun k => Nat.le_trans (be_f_le _ _ _) hN) h
  · cases h
theorem cl_toWhom {N : Nat} (hN : N ≤ 60) (ok : li_ok n nt b d T) : ∀ (r k fuel : Nat) (σ : sv_S), k + r = n → r < fuel → li_C σ 0 n nt b m z d T → ∃ σ', f_On_toWhom_21 fuel (nI N) (be_op (tw_s (tw_c n nt m b z d T N) k).1) (nI (tw_s (tw_c n nt m b z d T N) k).2) (nI k) σ = some (be_op (tw_s (tw_c n nt m b z d T N) n).1, σ') ∧ R_tC σ σ' := by
  have hn := ok.1
  have hcr := tw_c_r (n := n) (nt := nt) (m := m) (b := b) (z := z) (d := d) (T := T) (N := N) (by omega)
  intro r
  induction r with
  | zero =>
    intro k fuel σ hk hf hC
    obtain ⟨f, rfl⟩ : ∃ f, fuel = f + 1 := ⟨fuel - 1, by omega⟩
    have hk : k = n := by omega
    subst hk
    exact ⟨σ, by rw [f_On_toWhom_21, hC.1.1, sv_if_t (nI_le (Nat.le_refl k) (by omega))], R_tC.rfl' σ⟩
  | succ r ih =>
    intro k fuel σ hk hf hC
    obtain ⟨f, rfl⟩ : ∃ f, fuel = f + 1 := ⟨fuel - 1, by omega⟩
    have hkn : k < n := by omega
    obtain ⟨bb, hbb, hb⟩ := ok.2.2.2.1
    obtain ⟨w1, w2⟩ := tw_r _ hcr k
    rw [f_On_toWhom_21, hC.1.1, sv_if_f (nI_ge hkn (by omega)), pz_in (by omega) (by omega), pz_cl (by omega), show σ 2 (10 * 0 + k) 2 = d k 2 from hC.1.at hkn 2 (by omega), nI_1]
    by_cases h2 : d k 2 = 0
    · rw [sv_if_t h2]
      obtain ⟨τ, g1, g2, g3⟩ := cl_think ok hC
      obtain ⟨υ, y1, y2⟩ := be_wakeC (σ := τ) (a := 2) (k := k) (d := d) (n := n) (b := b) (sr := li_f T 1 nt) g2.1.2.1 (g2.1.at hkn 0 (by omega)) (g2.1.at hkn 1 (by omega)) ok.2.2.1 (be_TC0 ok g2).2.2.1 (by omega) hn hkn
      have hCυ : li_C υ 2 n nt b m z (be_o d) T := g2.to hn (by rw [y2 1 (by decide)]) (fun i _ _ => by rw [y2 2 (by decide)]) (by rw [y2 4 (by decide)]) (by rw [y2 5 (by decide)]) (y2 18 (by decide)) (y2 19 (by decide)) (y2 22 (by decide))
      have hC1 := hCυ.up (k := k) (j := 2) (v := be_wk (li_f T 1 nt) b d k) (by omega)
      have hok1 : be_ok n (be_u d k 2 (be_wk (li_f T 1 nt) b d k)) := ok.2.2.1.u (fun e => by cases e) (fun e => by cases e) (fun _ => be_wk_r ok.2.2.1 hkn) (fun e => by cases e)
      have hok2 : be_ok n (be_u (be_o d) k 2 (be_wk (li_f T 1 nt) b d k)) := (be_o_ok ok.2.2.1).u (fun e => by cases e) (fun e => by cases e) (fun _ => be_wk_r ok.2.2.1 hkn) (fun e => by cases e)
      have hq : be_q n (be_u (be_o d) k 2 (be_wk (li_f T 1 nt) b d k)) (be_u d k 2 (be_wk (li_f T 1 nt) b d k)) := fun k' hk' j' hj' h5 h6 => by
        unfold be_u
        by_cases e : k' = k ∧ j' = 2
        · rw [if_pos e, if_pos e]
        · rw [if_neg e, if_neg e]; exact be_o_q n d k' hk' j' hj' h5 h6
      obtain ⟨ω, x1, x2⟩ := cl_spreadIn (N := N) (by omega) hb hbb hok1 hq hok2 (fun k' _ => by unfold be_u be_o; simp) hn (be_TC0 (σ := sv_up υ 2 (10 * 2 + k) 2 (be_wk (li_f T 1 nt) b d k)) ok hC1)
      have hfr : R_tC σ ω := by
        intro r i a1 a2 a3 a4
        rw [x2.t r i a1 a2 a3 a4, pz_up (fun q => a4 ⟨q.1, by omega, by omega⟩), y2 r a1, g3 r i a1 a2 a3 a4]
      obtain ⟨σ', u1, u2⟩ := ih (k + 1) f ω (by omega) (by omega) (hfr.L (by omega) hn hC)
      refine ⟨σ', ?_, hfr.tr u2⟩
      unfold f_Li_wake
      rw [g1, pz_b0, be_ln3 (by omega), pz_in (by omega) (by omega), pz_cl (by omega), y1, pz_b, pz_b0, x1, pz_b]
      have hck : tw_c n nt m b z d T N k = sp_o (fun j => be_f (be_s (li_f T 0 nt) (li_f T 1 nt) n m b z (be_u d k 2 (be_wk (li_f T 1 nt) b d k))) j N) n := by unfold tw_c; rw [if_pos h2]
      rw [← hck]
      simp only [tw_s] at u1
      cases hv : tw_c n nt m b z d T N k with
      | none =>
        rw [hv] at u1
        rw [sv_if_t (show be_op none = (-1000000005 : Int32) from rfl)]
        exact u1
      | some v =>
        rw [hv] at u1
        have hv100 := hcr k v hv
        dsimp only at u1
        rw [sv_if_f (fun e => by have := (be_op_none (x := some v) (fun j hj => by cases hj; omega)).mp e; cases this)]
        unfold f_On_toWhom_91
        rw [nI_1]
        show sv_if _ (f_On_toWhom_21 f (nI N) (nI k) (nI v) _ ω) (sv_if _ _ (f_On_toWhom_21 f (nI N) (nI k) (nI v) _ ω)) = _
        by_cases en : (tw_s (tw_c n nt m b z d T N) k).1 = none
        · rw [sv_if_t ((be_op_none (fun j hj => by have := w2 j hj; omega)).mpr en)]
          rw [if_pos (Or.inl en)] at u1
          exact u1
        · rw [sv_if_f (fun q => en ((be_op_none (fun j hj => by have := w2 j hj; omega)).mp q))]
          by_cases el : v < (tw_s (tw_c n nt m b z d T N) k).2
          · rw [sv_if_f (show ¬ nI _ ≤ be_op (some v) from nI_ge el (by omega))]
            rw [if_pos (Or.inr el)] at u1
            exact u1
          · rw [sv_if_t (show nI _ ≤ be_op (some v) from nI_le (by omega) (by omega))]
            rw [if_neg (fun q => q.elim en el)] at u1
            exact u1
    · rw [sv_if_f h2]
      obtain ⟨σ', u1, u2⟩ := ih (k + 1) f σ (by omega) (by omega) hC
      refine ⟨σ', ?_, u2⟩
      have hck : tw_c n nt m b z d T N k = none := by unfold tw_c; rw [if_neg h2]
      simp only [tw_s, hck] at u1
      exact u1
theorem mo_toWhom {N : Nat} (hN : N ≤ 60) (ok : li_ok n nt b d T) : ∀ (r k fuel : Nat) (σ : sv_S), k + r = n → r < fuel → li_V (σ 31 0) n nt b m z d T → (∀ j, j < 86 → σ 31 13 j = σ 31 0 j) → ∃ σ', f_Mo_toWhom_26 fuel (nI N) (be_o1 (tw_s (tw_c n nt m b z d T N) k).1) (nI (tw_s (tw_c n nt m b z d T N) k).2) (nI k) σ = some (be_op (tw_s (tw_c n nt m b z d T N) n).1, σ') ∧ R_tM σ σ' := by
  have hn := ok.1
  have hcr := tw_c_r (n := n) (nt := nt) (m := m) (b := b) (z := z) (d := d) (T := T) (N := N) (by omega)
  intro r
  induction r with
  | zero =>
    intro k fuel σ hk hf hV hcl
    obtain ⟨f, rfl⟩ : ∃ f, fuel = f + 1 := ⟨fuel - 1, by omega⟩
    have hk : k = n := by omega
    subst hk
    obtain ⟨w1, w2⟩ := tw_r _ hcr k
    exact ⟨σ, by rw [f_Mo_toWhom_26, pz_i0 _ (by omega), show σ 31 0 ((0 : Int32).toNatClampNeg) = nI k from hV.1.1, sv_if_t (nI_le (Nat.le_refl k) (by omega)), mo_orN _ (fun j hj => by have := w2 j hj; omega), pz_b], rfl, R_kM.rfl' σ⟩
  | succ r ih =>
    intro k fuel σ hk hf hV hcl
    obtain ⟨f, rfl⟩ : ∃ f, fuel = f + 1 := ⟨fuel - 1, by omega⟩
    have hkn : k < n := by omega
    obtain ⟨w1, w2⟩ := tw_r _ hcr k
    rw [f_Mo_toWhom_26, pz_i0 _ (by omega), show σ 31 0 ((0 : Int32).toNatClampNeg) = nI n from hV.1.1, sv_if_f (nI_ge hkn (by omega))]
    unfold f_Mo_mayOrder
    rw [mo_of2 (by omega), pz_b, hV.1.2.2.2.2 k hkn 2 (by omega)]
    by_cases h2 : d k 2 = 0
    · obtain ⟨υ, y1, y2⟩ := mo_wakes (σ := σ) (k := k) hV.1.2.1 (hV.1.2.2.2.2 k hkn 0 (by omega)) (hV.1.2.2.2.2 k hkn 1 (by omega)) ok.2.2.1 (li_LM hV ok (q := 1) (by omega)) hn hkn
      have hVυ : li_V (υ 31 0) n nt b m z d T := by rw [y2.s]; exact hV
      have hV1 := hVυ.up (k := k) (j := 2) (v := be_wk (li_f T 1 nt) b d k) (by omega) (by omega) hn
      have hok1 : be_ok n (be_u d k 2 (be_wk (li_f T 1 nt) b d k)) := ok.2.2.1.u (fun e => by cases e) (fun e => by cases e) (fun _ => be_wk_r ok.2.2.1 hkn) (fun e => by cases e)
      obtain ⟨ω, x1, x2, x3, x4⟩ := mo_lay (N := N) (by omega) hok1 hn (be_TM0 (σ := sv_up υ 31 0 (6 + 8 * k + 2) (be_wk (li_f T 1 nt) b d k)) ok hV1)
      have hfT : be_fT σ ω := (y2.f.tr (be_fM.up (σ := υ) (j := 6 + 8 * k + 2) (v := be_wk (li_f T 1 nt) b d k) (by omega) (by omega))).t.tr x2.2.2.2
      obtain ⟨b1, b2, b3⟩ := mo_bk2 hcl hfT
      have hV3 : li_V (pz_cp ω 13 0 86 31 0) n nt b m z d T := by rw [b1]; exact hV
      obtain ⟨σ', u1, u2⟩ := ih (k + 1) f (pz_cp ω 13 0 86) (by omega) (by omega) hV3 (fun j hj => by rw [b2 j, b1]; exact hcl j hj)
      have hfl : ∀ j, be_f (be_s (li_f T 0 nt) (li_f T 1 nt) n m b z (be_u d k 2 (be_wk (li_f T 1 nt) b d k))) j N ≤ 100 := fun k => Nat.le_trans (be_f_le _ _ _) (by omega)
      have hs := mo_spread (f := fun j => be_f (be_s (li_f T 0 nt) (li_f T 1 nt) n m b z (be_u d k 2 (be_wk (li_f T 1 nt) b d k))) j N) (n := n) (σ := pz_cp ω 13 0 86) hfl hn hV3.1.1 (fun j hj => by rw [pz_cp_o (by omega)]; exact x3 j hj)
      refine ⟨σ', ?_, u2.1.trans b1, b3.tr u2.2⟩
      unfold f_Mo_orders
      rw [sv_if_t h2, pz_11, pz_b, sv_if_f (by decide), y1, pz_b, mo_sets2 (by omega), pz_b0, mo_of2 (by omega), pz_b, pz_b, x1, pz_b0, mo_laysBack, pz_b0, hs, pz_b, nI_1]
      have hck : tw_c n nt m b z d T N k = sp_o (fun j => be_f (be_s (li_f T 0 nt) (li_f T 1 nt) n m b z (be_u d k 2 (be_wk (li_f T 1 nt) b d k))) j N) n := by unfold tw_c; rw [if_pos h2]
      rw [← hck]
      simp only [tw_s] at u1
      cases hv : tw_c n nt m b z d T N k with
      | none =>
        rw [hv] at u1
        rw [sv_if_t (show be_o1 none < 0 by decide)]
        exact u1
      | some v =>
        rw [hv] at u1
        have hv100 := hcr k v hv
        dsimp only at u1
        rw [sv_if_f (show ¬ be_o1 (some v) < 0 from nI_pos (by omega))]
        unfold f_Mo_toWhom_84
        rw [nI_1]
        show sv_if _ (f_Mo_toWhom_26 f (nI N) (nI k) (nI v) _ _) (sv_if _ _ (f_Mo_toWhom_26 f (nI N) (nI k) (nI v) _ _)) = _
        by_cases en : (tw_s (tw_c n nt m b z d T N) k).1 = none
        · rw [sv_if_t ((be_o1_neg (fun j hj => by have := w2 j hj; omega)).mpr en)]
          rw [if_pos (Or.inl en)] at u1
          exact u1
        · rw [sv_if_f (fun q => en ((be_o1_neg (fun j hj => by have := w2 j hj; omega)).mp q))]
          by_cases el : v < (tw_s (tw_c n nt m b z d T N) k).2
          · rw [sv_if_f (show ¬ nI _ ≤ be_o1 (some v) from nI_ge el (by omega))]
            rw [if_pos (Or.inr el)] at u1
            exact u1
          · rw [sv_if_t (show nI _ ≤ be_o1 (some v) from nI_le (by omega) (by omega))]
            rw [if_neg (fun q => q.elim en el)] at u1
            exact u1
    · obtain ⟨σ', u1, u2⟩ := ih (k + 1) f σ (by omega) (by omega) hV hcl
      refine ⟨σ', ?_, u2⟩
      rw [sv_if_f h2, pz_01, pz_b, sv_if_t rfl, nI_1]
      have hck : tw_c n nt m b z d T N k = none := by unfold tw_c; rw [if_neg h2]
      simp only [tw_s, hck] at u1
      exact u1
end TWH
theorem mo_cl0 {σ : sv_S} : ∀ j, j < 86 → pz_cp σ 0 13 86 31 13 j = pz_cp σ 0 13 86 31 0 j := fun j hj => by rw [pz_cp_in hj, mo_by]
theorem mo_byM {σ : sv_S} : R_tM σ (pz_cp σ 0 13 86) := ⟨mo_by, fun r i hr _ => pz_cp_o (fun q => hr ⟨q.1, by omega⟩), fun j _ => by rw [pz_cp_o (by omega)]⟩
theorem R_toWhom (x : Int32) : R_m (f_On_toWhom x) (f_Mo_toWhom x) := by
  intro σ h
  obtain ⟨⟨n, nt, b, m, z, d, T, hC, hV, ok⟩, hX⟩ := id h
  have hn := ok.1
  by_cases hg : 1 ≤ x.toInt ∧ x.toInt ≤ 60
  · obtain ⟨N, rfl, hN, hN2⟩ := pz_nat (a := x) (by omega)
    obtain ⟨υ, y1, y2⟩ := cl_toWhom (m := m) (z := z) (N := N) (by omega) ok n 0 sv_fu σ (by omega) (by unfold sv_fu; omega) hC
    have e31 : υ 31 0 = σ 31 0 := y2 31 0 (by decide) (by decide) (by omega) (by omega)
    have hV2 : li_V (pz_cp υ 0 13 86 31 0) n nt b m z d T := by rw [mo_by, e31]; exact hV
    obtain ⟨ω, x1, x2⟩ := mo_toWhom (m := m) (z := z) (N := N) (by omega) ok n 0 sv_fu (pz_cp υ 0 13 86) (by omega) (by unfold sv_fu; omega) hV2 mo_cl0
    exact R_o (σ1 := υ) (σ2 := ω) (by unfold f_On_toWhom; rw [on_w1_60, pz_b, pz_if1, if_pos hg]; exact y1) (by unfold f_Mo_toWhom; rw [mo_w1_60, pz_b, pz_if1, if_pos hg, mo_laysBy, pz_b0]; exact x1) (x2.A (mo_byM.A (y2.A h)))
  · exact R_o (σ1 := σ) (by unfold f_On_toWhom; rw [on_w1_60, pz_b, pz_if1, if_neg hg]) (by unfold f_Mo_toWhom; rw [mo_w1_60, pz_b, pz_if1, if_neg hg]) h
