/-! ===== pure: keep, back, check ===== -/
def R_Y (σ : sv_S) : Prop := R_P σ ∧ R_H σ ∧ R_S σ ∧ R_W σ
theorem R_Y.to {σ τ : sv_S} (h : R_Y σ) (hr : ∀ r, r = 8 ∨ r = 9 ∨ 12 ≤ r ∧ r ≤ 16 → τ r = σ r) (h2 : ∀ i, 30 ≤ i → τ 2 i = σ 2 i) (h0 : τ 0 0 11 = σ 0 0 11) (h30 : ∀ j, j = 17 ∨ j = 32 → τ 30 0 j = σ 30 0 j) (h31 : ∀ i, (4 ≤ i ∧ i ≤ 11) ∨ i = 16 ∨ i = 31 → τ 31 i = σ 31 i) : R_Y τ := by
  obtain ⟨hp, hh, hs, hw⟩ := h
  refine ⟨?_, ?_, ?_, ?_⟩
  · unfold R_P at *; rw [hr 8 (by omega), hr 9 (by omega), h30 17 (by omega), h31 16 (by omega)]; exact hp
  · unfold R_H at *; rw [hr 12 (by omega), hr 13 (by omega), h31 4 (by omega), h31 5 (by omega), h31 6 (by omega)]; exact hh
  · intro s hs5
    have g := hs s hs5
    rw [hr 14 (by omega), hr 15 (by omega), hr 12 (by omega), hr 13 (by omega), h2 (30 + s) (by omega), h31 7 (by omega), h31 8 (by omega), h31 9 (by omega), h31 10 (by omega), h31 11 (by omega)]
    exact g
  · unfold R_W at *; rw [h0, hr 16 (by omega), h30 32 (by omega), h31 31 (by omega)]; exact hw
theorem R_keep : R_m f_On_keep f_Mo_keep := by
  intro σ h
  obtain ⟨⟨n, nt, b, m, z, d, T, hC, hV, ok⟩, hX⟩ := id h
  have hn := ok.1
  obtain ⟨τ, g1, g2, g3⟩ := cl_become (a := 1) (c := 0) (by omega) (by omega) (by omega) ok hC
  have f0 : ∀ r i, ¬ ((r = 1 ∨ r = 4 ∨ r = 5) ∧ i = 1) → ¬ (r = 2 ∧ 10 ≤ i ∧ i < 20) → ¬ (r = 0 ∧ i = 0) → sv_up τ 0 0 3 1 r i = σ r i := fun r i a b c => by rw [pz_up c]; exact g3 r i a (by omega)
  have e31 : sv_up τ 0 0 3 1 31 = σ 31 := funext fun i => f0 31 i (by omega) (by omega) (by omega)
  have e30 : sv_up τ 0 0 3 1 30 = σ 30 := funext fun i => f0 30 i (by omega) (by omega) (by omega)
  refine R_o (v := nI n) (σ1 := sv_up τ 0 0 3 1) (σ2 := pz_cp (sv_up (sv_up τ 0 0 3 1) 30 0 3 1) 0 1 2886) ?_ ?_ ?_
  · unfold f_On_keep
    rw [g1, pz_b0, pz_11, pz_ur (by decide), g2.1.1]
  · unfold f_Mo_keep
    rw [pz_11, mo_aside (by decide) rfl rfl, pz_b0, pz_i0 _ (by omega)]
    show some (pz_cp (sv_up (sv_up τ 0 0 3 1) 30 0 3 1) 0 1 2886 31 0 0, _) = _
    rw [pz_cp_o (by omega), pz_ur (by decide), e31, hV.1.1]
  · generalize hω : pz_cp (sv_up (sv_up τ 0 0 3 1) 30 0 3 1) 0 1 2886 = ω
    have o : ∀ r i, ¬ (r = 31 ∧ i = 1) → ¬ (r = 30 ∧ i = 0) → ¬ (r = 0 ∧ i = 0) → ω r i = τ r i := fun r i a b c => by rw [← hω, pz_cp_o a, pz_up b, pz_up c]
    have o0 : ∀ j, j ≠ 3 → ω 0 0 j = σ 0 0 j := fun j hj => by rw [← hω, pz_cp_o (by omega), pz_ur (by decide), pz_uk hj, g3 0 0 (by omega) (by omega)]
    have o3 : ω 0 0 3 = 1 := by rw [← hω, pz_cp_o (by omega), pz_ur (by decide), pz_us]
    have p0 : ∀ j, j ≠ 3 → ω 30 0 j = σ 30 0 j := fun j hj => by rw [← hω, pz_cp_o (by omega), pz_uk hj, e30]
    have p3 : ω 30 0 3 = 1 := by rw [← hω, pz_cp_o (by omega), pz_us]
    have oo : ∀ r i, r ≠ 31 → r ≠ 30 → r ≠ 0 → ω r i = τ r i := fun r i a b c => o r i (fun q => a q.1) (fun q => b q.1) (fun q => c q.1)
    have s31 : ∀ i, i ≠ 1 → ω 31 i = σ 31 i := fun i hi => by rw [o 31 i (by omega) (by omega) (by omega), g3 31 i (by omega) (by omega)]
    have hL0 : li_C ω 0 n nt b m z d T := hC.to hn (by rw [oo 1 0 (by decide) (by decide) (by decide)]; exact g3 1 0 (by omega) (by omega)) (fun i _ _ => by rw [oo 2 i (by decide) (by decide) (by decide)]; exact g3 2 i (by omega) (by omega)) (by rw [oo 4 0 (by decide) (by decide) (by decide)]; exact g3 4 0 (by omega) (by omega)) (by rw [oo 5 0 (by decide) (by decide) (by decide)]; exact g3 5 0 (by omega) (by omega)) (funext fun i => by rw [oo 18 i (by decide) (by decide) (by decide)]; exact g3 18 i (by omega) (by omega)) (funext fun i => by rw [oo 19 i (by decide) (by decide) (by decide)]; exact g3 19 i (by omega) (by omega)) (funext fun i => by rw [oo 22 i (by decide) (by decide) (by decide)]; exact g3 22 i (by omega) (by omega))
    have hL1 : li_C ω 1 n nt b m z d T := g2.to hn (oo 1 1 (by decide) (by decide) (by decide)) (fun i _ _ => oo 2 i (by decide) (by decide) (by decide)) (oo 4 1 (by decide) (by decide) (by decide)) (oo 5 1 (by decide) (by decide) (by decide)) (funext fun i => oo 18 i (by decide) (by decide) (by decide)) (funext fun i => oo 19 i (by decide) (by decide) (by decide)) (funext fun i => oo 22 i (by decide) (by decide) (by decide))
    have hY : R_Y ω := R_Y.to (σ := σ) ⟨hX.2.1, hX.2.2.1, hX.2.2.2.1, hX.2.2.2.2⟩ (fun r hr => funext fun i => by rw [oo r i (by omega) (by omega) (by omega)]; exact g3 r i (by omega) (by omega)) (fun i hi => by rw [oo 2 i (by decide) (by decide) (by decide)]; exact g3 2 i (by omega) (by omega)) (o0 11 (by decide)) (fun j hj => p0 j (by omega)) (fun i hi => s31 i (by omega))
    refine ⟨⟨n, nt, b, m, z, d, T, hL0, by rw [s31 0 (by decide)]; exact hV, ok⟩, ⟨by rw [o3, p3], Or.inr ⟨o3, n, nt, b, m, z, d, T, hL1, ?_, ok⟩⟩, hY.1, hY.2.1, hY.2.2.1, hY.2.2.2⟩
    refine hV.eq hn ok.2.1 (fun t ht => (ok.2.2.2.2 t ht).2.2.1) (fun j hj => ?_)
    rw [← hω, pz_cp_in hj, pz_ur (by decide), e31]
theorem R_back : R_m f_On_back f_Mo_back := by
  intro σ h
  obtain ⟨⟨n0, nt0, b0, m0, z0, d0, T0, hC0, hV0, ok0⟩, hX⟩ := id h
  obtain ⟨hg0, hg1⟩ := hX.1
  rcases hg1 with hk | ⟨hk, n, nt, b, m, z, d, T, hC, hV, ok⟩
  · exact R_o (σ1 := σ) (σ2 := σ) (by unfold f_On_back; rw [sv_if_t hk]) (by unfold f_Mo_back; rw [hg0, sv_if_t hk]) h
  · have hn := ok.1
    have hk1 : ¬ σ 0 0 3 = 0 := by rw [hk]; decide
    obtain ⟨τ, g1, g2, g3⟩ := cl_become (a := 0) (c := 1) (by omega) (by omega) (by omega) ok hC
    have e31 : τ 31 = σ 31 := funext fun i => g3 31 i (by omega) (by omega)
    have e30 : τ 30 = σ 30 := funext fun i => g3 30 i (by omega) (by omega)
    have hs : ∀ j, j < 2886 → pz_cp τ 1 0 2886 31 0 j = σ 31 1 j := fun j hj => by rw [pz_cp_in hj, e31]
    refine R_o (v := nI n) (σ1 := τ) (σ2 := pz_cp τ 1 0 2886) ?_ ?_ ?_
    · unfold f_On_back
      rw [sv_if_f hk1, g1, pz_b0, g2.1.1]
    · unfold f_Mo_back
      rw [e30, hg0, sv_if_f hk1, mo_aside (by decide) rfl rfl, pz_b0, pz_i0 _ (by omega)]
      show some (pz_cp τ 1 0 2886 31 0 0, _) = _
      rw [hs 0 (by omega), hV.1.1]
    · exact R_two hX (fun r i _ _ h2 _ h1 => g3 r i (fun q => h1 ⟨q.1, Or.inl q.2⟩) (fun q => h2 ⟨q.1, by omega⟩)) ⟨fun r i hr _ => pz_cp_o (fun q => hr ⟨q.1, Or.inl q.2⟩), fun j _ => by rw [pz_cp_o (by omega)]⟩ g2 (hV.eq hn ok.2.1 (fun t ht => (ok.2.2.2.2 t ht).2.2.1) hs) ok
/-! check -/
theorem R_w0 {σ : sv_S} (h : R_A σ) : R_A (sv_up (sv_up σ 0 0 11 0) 30 0 32 0) := by
  obtain ⟨⟨n, nt, b, m, z, d, T, hC, hV, ok⟩, hX⟩ := h
  generalize hω : sv_up (sv_up σ 0 0 11 0) 30 0 32 0 = ω
  have o : ∀ r i, ¬ (r = 30 ∧ i = 0) → ¬ (r = 0 ∧ i = 0) → ω r i = σ r i := fun r i a b => by rw [← hω, pz_up a, pz_up b]
  have o0 : ∀ j, j ≠ 11 → ω 0 0 j = σ 0 0 j := fun j hj => by rw [← hω, pz_ur (by decide), pz_uk hj]
  have p0 : ∀ j, j ≠ 32 → ω 30 0 j = σ 30 0 j := fun j hj => by rw [← hω, pz_uk hj, pz_ur (by decide)]
  have oo : ∀ r, r ≠ 30 → r ≠ 0 → ω r = σ r := fun r a b => funext fun i => o r i (fun q => a q.1) (fun q => b q.1)
  refine ⟨⟨n, nt, b, m, z, d, T, hC.to ok.1 (by rw [oo 1 (by decide) (by decide)]) (fun i _ _ => by rw [oo 2 (by decide) (by decide)]) (by rw [oo 4 (by decide) (by decide)]) (by rw [oo 5 (by decide) (by decide)]) (oo 18 (by decide) (by decide)) (oo 19 (by decide) (by decide)) (oo 22 (by decide) (by decide)), by rw [oo 31 (by decide) (by decide)]; exact hV, ok⟩, ⟨by rw [p0 3 (by decide), o0 3 (by decide)]; exact hX.1.1, ?_⟩, ?_, ?_, ?_, ?_⟩
  · rw [o0 3 (by decide)]
    rcases hX.1.2 with e | ⟨e, hi⟩
    · exact Or.inl e
    · exact Or.inr ⟨e, hi.to (by rw [oo 1 (by decide) (by decide)]) (fun i _ _ => by rw [oo 2 (by decide) (by decide)]) (by rw [oo 4 (by decide) (by decide)]) (by rw [oo 5 (by decide) (by decide)]) (oo 18 (by decide) (by decide)) (oo 19 (by decide) (by decide)) (oo 22 (by decide) (by decide)) (by rw [oo 31 (by decide) (by decide)])⟩
  · have g := hX.2.1; unfold R_P at *; rw [oo 8 (by decide) (by decide), oo 9 (by decide) (by decide), p0 17 (by decide), oo 31 (by decide) (by decide)]; exact g
  · have g := hX.2.2.1; unfold R_H at *; rw [oo 12 (by decide) (by decide), oo 13 (by decide) (by decide), oo 31 (by decide) (by decide)]; exact g
  · have g := hX.2.2.2.1; unfold R_S at *; rw [oo 14 (by decide) (by decide), oo 15 (by decide) (by decide), oo 12 (by decide) (by decide), oo 13 (by decide) (by decide), oo 2 (by decide) (by decide), oo 31 (by decide) (by decide)]; exact g
  · exact ⟨0, by omega, by rw [← hω, pz_ur (by decide), pz_us]; rfl, by rw [← hω, pz_us]; rfl, fun i hi => absurd hi (Nat.not_lt_zero i)⟩
/-- what is due at each place of a row -/
def ck_r (s : Nat → Nat → Bool) (n : Nat) (D : Nat → be_D) (j : Nat) : Int32 := if j % 2 = 0 then nI (be_ct (s (j / 2)) n) else be_sm (D (j / 2 + 1)) 2 n
def ck_o (w due : Nat) (W row : Nat → Int32) : Nat → Nat → Int32
  | 0, _ => if w ≤ due then 0 else nI (1 + due)
  | r + 1, k => if w ≤ k ∨ W k ≠ row k then nI (1 + k) else ck_o w due W row r (k + 1)
section CHK
variable {hr sr : be_F} {n : Nat} {m b z : Int32} {d : be_D} {σ0 : sv_S}
theorem ck_half (k : Nat) (hk : k < 1000) : nI k - nI k / (2 : Int32) * 2 = nI (k % 2) := pk_rem (d := 2) (by omega) (by omega) (by omega)
theorem cl_check {w due : Nat} {W : Nat → Int32} (hw : w ≤ 60) (hdue : due ≤ 60) (hok : be_ok n d) (hn : n ≤ 10) (h16 : ∀ i, i < w → σ0 16 0 i = W i) : ∀ (r k fuel : Nat) (σ : sv_S), k + r = due → r < fuel → be_TC hr sr 2 n m b z d σ0 ((k + 1) / 2) σ → ∃ σ', f_On_check_65 fuel (nI w) (nI due) (nI k) σ = some (ck_o w due W (ck_r (be_s hr sr n m b z d) n (fun i => (be_it hr sr n m b z d i).2)) r k, σ') ∧ be_fC 2 σ0 σ' := by
  intro r
  induction r with
  | zero =>
    intro k fuel σ hk hf hT
    obtain ⟨f, rfl⟩ : ∃ f, fuel = f + 1 := ⟨fuel - 1, by omega⟩
    have hk : k = due := by omega
    subst hk
    refine ⟨σ, ?_, hT.2.2.2.1⟩
    rw [f_On_check_65, sv_if_t (nI_le (Nat.le_refl k) (by omega))]
    simp only [ck_o]
    by_cases e : w ≤ k
    · rw [sv_if_t (nI_le e (by omega)), if_pos e]
    · rw [sv_if_f (nI_ge (by omega) (by omega)), if_neg e, show (1 : Int32) + nI k = nI 1 + nI k from rfl, nI_add]
  | succ r ih =>
    intro k fuel σ hk hf hT
    obtain ⟨f, rfl⟩ : ∃ f, fuel = f + 1 := ⟨fuel - 1, by omega⟩
    have H : ∀ (y : Int32) (τ : sv_S), y = ck_r (be_s hr sr n m b z d) n (fun i => (be_it hr sr n m b z d i).2) k → be_TC hr sr 2 n m b z d σ0 ((k + 1 + 1) / 2) τ → ∃ σ', f_On_check_95 (f_On_check_65 f) (nI w) (nI due) (nI k) y τ = some (ck_o w due W (ck_r (be_s hr sr n m b z d) n (fun i => (be_it hr sr n m b z d i).2)) (r + 1) k, σ') ∧ be_fC 2 σ0 σ' := by
      intro y τ hy hτ
      unfold f_On_check_95
      simp only [ck_o]
      by_cases e : w ≤ k
      · rw [sv_if_t (nI_le e (by omega)), if_pos (Or.inl e), show (1 : Int32) + nI k = nI 1 + nI k from rfl, nI_add]
        exact ⟨τ, rfl, hτ.2.2.2.1⟩
      · rw [sv_if_f (nI_ge (by omega) (by omega)), pz_in (by omega) (by omega), pz_cl (by omega), hτ.2.2.2.1 16 0 (by decide) (by omega) (by omega), h16 k (by omega), hy]
        by_cases e2 : W k = ck_r (be_s hr sr n m b z d) n (fun i => (be_it hr sr n m b z d i).2) k
        · rw [sv_if_t e2, if_neg (fun q => q.elim e (fun q => q e2)), nI_1]
          exact ih (k + 1) f τ (by omega) (by omega) hτ
        · rw [sv_if_f e2, if_pos (Or.inr e2), show (1 : Int32) + nI k = nI 1 + nI k from rfl, nI_add]
          exact ⟨τ, rfl, hτ.2.2.2.1⟩
    rw [f_On_check_65, sv_if_f (nI_ge (by omega) (by omega)), sv_g_t (by decide), ck_half k (by omega)]
    by_cases h2 : k % 2 = 0
    · rw [sv_if_t (by rw [h2]; rfl)]
      have hi : (k + 1) / 2 = k / 2 := by omega
      rw [hi] at hT
      obtain ⟨τ, g1, g2⟩ := hT.go hok (by omega) hn
      rw [g1, pz_b]
      exact H _ τ (by unfold ck_r; rw [if_pos h2]) (by rw [show (k + 1 + 1) / 2 = k / 2 + 1 by omega]; exact g2)
    · rw [sv_if_f (nI_ne0 (by omega) (by omega)), cl_sum2 hT.1 (by omega) hn, pz_b]
      exact H _ σ (by unfold ck_r; rw [if_neg h2, show k / 2 + 1 = (k + 1) / 2 by omega]) (by rw [show (k + 1 + 1) / 2 = (k + 1) / 2 by omega]; exact hT)
theorem mo_check64 {X N bb : Nat} {w : Int32} (hX : X ≤ 30) (hb : b = nI bb) (hbb : bb ≤ 9999) (hN : N = if X < 9999 - bb then X else 9999 - bb) (hok : be_ok n d) (hn : n ≤ 10) : ∀ (r i fuel : Nat) (σ : sv_S), i + r = N → r < fuel → be_TM hr sr n m b z d σ0 i σ → (∀ j, j < 2 * i → σ 31 33 j = ck_r (be_s hr sr n m b z d) n (fun i => (be_it hr sr n m b z d i).2) j) → ∃ σ', f_Mo_check_64 fuel (nI X) w (nI (2 * i)) (nI i) σ = f_Mo_check_116 w (nI (2 * N)) σ' ∧ be_TM hr sr n m b z d σ0 N σ' ∧ (∀ j, j < 2 * N → σ' 31 33 j = ck_r (be_s hr sr n m b z d) n (fun i => (be_it hr sr n m b z d i).2) j) := by
  have hNN : N ≤ X ∧ bb + N ≤ 9999 ∧ (N = X ∨ bb + N = 9999) := by rw [hN]; split <;> omega
  intro r
  induction r with
  | zero =>
    intro i fuel σ hi hf hT hR
    obtain ⟨f, rfl⟩ : ∃ f, fuel = f + 1 := ⟨fuel - 1, by omega⟩
    have hi : i = N := by omega
    subst hi
    refine ⟨σ, ?_, hT, hR⟩
    rw [f_Mo_check_64]
    by_cases e : X ≤ i
    · rw [sv_if_t (nI_le e (by omega))]
    · rw [sv_if_f (nI_ge (by omega) (by omega)), sv_g_t ⟨by decide, by decide⟩, show σ 31 0 ((3 : Int32).toNatClampNeg) = nI (bb + i) by rw [← nI_add, ← hb]; exact hT.1.2.1, sv_if_t (show (9999 : Int32) ≤ nI (bb + i) from nI_le (a := 9999) (by omega) (by omega))]
  | succ r ih =>
    intro i fuel σ hi hf hT hR
    obtain ⟨f, rfl⟩ : ∃ f, fuel = f + 1 := ⟨fuel - 1, by omega⟩
    obtain ⟨τ, g1, g2, g3⟩ := hT.go hok hn
    have fw : ∀ (υ : sv_S) (j : Nat) (v : Int32), be_fT υ (sv_up υ 31 33 j v) := fun υ j v => ⟨fun r i h1 _ => pz_up (fun q => h1 ⟨q.1, by omega⟩), fun k _ => pz_ui (by decide), pz_ui (by decide), fun k _ => pz_ur (by decide)⟩
    have h1 : be_TM hr sr n m b z d σ0 (i + 1) (sv_up τ 31 33 (2 * i) (nI (be_ct (be_s hr sr n m b z d i) n))) := g2.w (pz_up (by omega)) (fw _ _ _)
    have h2 : be_TM hr sr n m b z d σ0 (i + 1) (sv_up (sv_up τ 31 33 (2 * i) (nI (be_ct (be_s hr sr n m b z d i) n))) 31 33 (2 * i + 1) (be_sm (be_it hr sr n m b z d (i + 1)).2 2 n)) := h1.w (pz_up (by omega)) (fw _ _ _)
    obtain ⟨σ', y1, y2, y3⟩ := ih (i + 1) f _ (by omega) (by omega) h2 (fun j hj => by
      by_cases e1 : j = 2 * i + 1
      · subst e1
        rw [pz_us]
        unfold ck_r
        rw [if_neg (by omega), show (2 * i + 1) / 2 + 1 = i + 1 by omega]
      · rw [pz_uk e1]
        by_cases e0 : j = 2 * i
        · subst e0
          rw [pz_us]
          unfold ck_r
          rw [if_pos (by omega), show 2 * i / 2 = i by omega]
        · rw [pz_uk e0, g3.1 31 33 (by omega)]
          exact hR j (by omega))
    refine ⟨σ', ?_, y2, y3⟩
    rw [f_Mo_check_64, sv_if_f (nI_ge (by omega) (by omega)), sv_g_t ⟨by decide, by decide⟩, show σ 31 0 ((3 : Int32).toNatClampNeg) = nI (bb + i) by rw [← nI_add, ← hb]; exact hT.1.2.1, sv_if_f (show ¬ (9999 : Int32) ≤ nI (bb + i) from nI_ge (b := 9999) (by omega) (by omega)), g1, pz_b, be_ones _ hn, pz_b, pz_in (by omega) (by omega), pz_cl (by omega), mo_sum2 h1.1 hn, pz_b, nI_1, pz_in (by omega) (by omega), pz_cl (by omega), nI_1, show nI (2 * i) + (2 : Int32) = nI (2 * (i + 1)) by rw [show nI (2 * i) + (2 : Int32) = nI (2 * i) + nI 2 from rfl, nI_add]; congr 1]
    exact y1
end CHK
theorem mo_check131 {w due : Nat} {W row : Nat → Int32} (hw : w ≤ 60) (hdue : due ≤ 60) {σ : sv_S} (h31 : ∀ i, i < w → σ 31 31 i = W i) (h33 : ∀ i, i < due → σ 31 33 i = row i) : ∀ (r k fuel : Nat), k + r = due → r < fuel → k ≤ w → f_Mo_check_131 fuel (nI w) (nI due) (nI k) σ = some (ck_o w due W row r k, σ) := by
  have E : ∀ k, k ≤ 60 → (1 : Int32) + nI k = nI (1 + k) := fun k _ => by rw [show (1 : Int32) + nI k = nI 1 + nI k from rfl, nI_add]
  intro r
  induction r with
  | zero =>
    intro k fuel hk hf hkw
    obtain ⟨f, rfl⟩ : ∃ f, fuel = f + 1 := ⟨fuel - 1, by omega⟩
    have hk : k = due := by omega
    subst hk
    have G : f_Mo_check_166 (nI w) (nI k) (nI k) σ = some (ck_o w k W row 0 k, σ) := by
      unfold f_Mo_check_166
      by_cases e : w ≤ k
      · have : w = k := by omega
        subst this
        rw [sv_if_t rfl, sv_if_t rfl]
        simp [ck_o]
      · rw [sv_if_f (fun q => e (by have := (nI_eq (by omega) (by omega)).mp q; omega)), E k (by omega)]
        simp [ck_o, e]
    rw [f_Mo_check_131, G]
    by_cases e : w ≤ k
    · rw [sv_if_t (nI_le e (by omega))]
    · rw [sv_if_f (nI_ge (by omega) (by omega)), sv_if_t (nI_le (Nat.le_refl k) (by omega))]
  | succ r ih =>
    intro k fuel hk hf hkw
    obtain ⟨f, rfl⟩ : ∃ f, fuel = f + 1 := ⟨fuel - 1, by omega⟩
    have G : f_Mo_check_166 (nI w) (nI due) (nI k) σ = some (nI (1 + k), σ) := by
      unfold f_Mo_check_166
      have hne : ¬ nI k = nI due := fun q => by have := (nI_eq (by omega) (by omega)).mp q; omega
      rw [E k (by omega)]
      by_cases e : nI k = nI w
      · rw [sv_if_t e, sv_if_f hne]
      · rw [sv_if_f e]
    rw [f_Mo_check_131, G]
    simp only [ck_o]
    by_cases e : w ≤ k
    · rw [sv_if_t (nI_le e (by omega)), if_pos (Or.inl e)]
    · rw [sv_if_f (nI_ge (by omega) (by omega)), sv_if_f (nI_ge (by omega) (by omega)), pz_in (by omega) (by omega), pz_in (by omega) (by omega), pz_cl (by omega), h31 k (by omega), h33 k (by omega), nI_1]
      by_cases e2 : W k = row k
      · rw [sv_if_t e2, if_neg (fun q => q.elim e (fun q => q e2))]
        exact ih (k + 1) f (by omega) (by omega) (by omega)
      · rw [sv_if_f e2, if_pos (Or.inr e2)]
theorem R_check (x : Int32) : R_m (f_On_check x) (f_Mo_check x) := by
  intro σ h
  obtain ⟨⟨n0, nt0, b0, m0, z0, d0, T0, hC0, hV0, ok0⟩, hX⟩ := id h
  have h0 := R_w0 h
  obtain ⟨hg0, hg1⟩ := hX.1
  obtain ⟨w, hw, w1, w2, w3⟩ := hX.2.2.2.2
  have a3 : sv_up σ 0 0 11 0 0 0 3 = σ 0 0 3 := pz_uk (by decide)
  -- the reference's store when the class's is τ
  have swap : ∀ τ, R_tC (sv_up σ 0 0 11 0) τ → R_tC (sv_up (sv_up σ 0 0 11 0) 30 0 32 0) (sv_up τ 30 0 32 0) := by
    intro τ ht r i a1 a2 a3 a4
    by_cases e : r = 30 ∧ i = 0
    · obtain ⟨rfl, rfl⟩ := e
      funext j
      by_cases ej : j = 32
      · subst ej; rw [pz_us, pz_us]
      · rw [pz_uk ej, pz_uk ej, ht 30 0 a1 a2 a3 a4]
    · rw [pz_up e, pz_up e]; exact ht r i a1 a2 a3 a4
  by_cases hg : 1 ≤ x.toInt ∧ x.toInt ≤ 30
  · rcases hg1 with hk | ⟨hk, n, nt, b, m, z, d, T, hC, hV, ok⟩
    · refine R_o (v := -1000000002) (σ1 := sv_up σ 0 0 11 0) (σ2 := sv_up (sv_up σ 0 0 11 0) 30 0 32 0) (by unfold f_On_check; dsimp only; rw [on_w1_30, pz_b, pz_if1, if_pos hg, a3, sv_if_t hk]) ?_ h0
      unfold f_Mo_check
      dsimp only
      rw [mo_w1_30, pz_b, pz_if1, if_pos hg, pz_uk (by decide), pz_ur (by decide), hg0, sv_if_t hk]
    · have hk1 : ¬ σ 0 0 3 = 0 := by rw [hk]; decide
      have hn := ok.1
      obtain ⟨X, rfl, hX1, hX2⟩ := pz_nat (a := x) (by omega)
      obtain ⟨bb, hbb, hb⟩ := ok.2.2.2.1
      generalize hc : (if X < 9999 - bb then X else 9999 - bb) = c
      have hcc : c ≤ X ∧ bb + c ≤ 9999 := by rw [← hc]; split <;> omega
      have hCa : li_C (sv_up σ 0 0 11 0) 1 n nt b m z d T := hC.to hn (pz_up (by omega)) (fun i _ _ => pz_up (by omega)) (pz_up (by omega)) (pz_up (by omega)) (funext fun i => pz_up (by omega)) (funext fun i => pz_up (by omega)) (funext fun i => pz_up (by omega))
      obtain ⟨τ, g1, g2, g3⟩ := cl_become (a := 2) (c := 1) (by omega) (by omega) (by omega) ok hCa
      have ft : R_tC (sv_up σ 0 0 11 0) τ := fun r i _ _ a3 a4 => g3 r i a3 (fun q => a4 ⟨q.1, by omega, by omega⟩)
      have t16 : ∀ i, i < w → τ 16 0 i = σ 16 0 i := fun i _ => by rw [g3 16 0 (by omega) (by omega), pz_ur (by decide)]
      obtain ⟨υ, y1, y2⟩ := cl_check (w := w) (due := 2 * c) (W := σ 16 0) hw (by omega) ok.2.2.1 hn t16 (2 * c) 0 sv_fu τ (by omega) (by unfold sv_fu; omega) (be_TC0 ok g2)
      have fu : R_tC (sv_up σ 0 0 11 0) υ := ft.tr y2.t
      have hAb := (swap υ fu).A h0
      -- the reference
      have e31 : υ 31 = σ 31 := funext fun i => by rw [fu 31 i (by decide) (by decide) (by omega) (by omega), pz_up (by omega)]
      have e30 : υ 30 = σ 30 := funext fun i => by rw [fu 30 i (by decide) (by decide) (by omega) (by omega), pz_up (by omega)]
      generalize hβ : sv_up υ 30 0 32 0 = β at hAb
      have β31 : β 31 = σ 31 := by rw [← hβ, ← e31]; exact funext fun i => pz_up (by omega)
      generalize hγ : pz_cp (pz_cp β 0 2 2886) 1 0 2886 = γ
      have γ0 : ∀ j, j < 2886 → γ 31 0 j = σ 31 1 j := fun j hj => by rw [← hγ, pz_cp_in hj, pz_cp_o (by omega), β31]
      have γ2 : ∀ j, j < 2886 → γ 31 2 j = σ 31 0 j := fun j hj => by rw [← hγ, pz_cp_o (by omega), pz_cp_in hj, β31]
      have hVγ : li_V (γ 31 0) n nt b m z d T := hV.eq hn ok.2.1 (fun t ht => (ok.2.2.2.2 t ht).2.2.1) γ0
      obtain ⟨δ, u1, u2, u3⟩ := mo_check64 (X := X) (N := c) (w := nI w) (by omega) hb hbb hc.symm ok.2.2.1 hn c 0 sv_fu γ (by omega) (by unfold sv_fu; omega) (be_TM0 ok hVγ) (fun j hj => absurd hj (Nat.not_lt_zero j))
      have hfT := u2.2.2.2
      have k1 : R_kM β γ := ⟨fun r i hr _ => by rw [← hγ, pz_cp_o (fun q => hr ⟨q.1, by omega⟩), pz_cp_o (fun q => hr ⟨q.1, by omega⟩)], fun j _ => by rw [← hγ, pz_cp_o (by omega), pz_cp_o (by omega)]⟩
      have k3 : R_kM δ (pz_cp δ 2 0 2886) := ⟨fun r i hr _ => pz_cp_o (fun q => hr ⟨q.1, by omega⟩), fun j _ => by rw [pz_cp_o (by omega)]⟩
      have δ2 : δ 31 2 = γ 31 2 := hfT.1 31 2 (by omega) (by omega)
      have hA : R_A (pz_cp δ 2 0 2886) := ((k1.tr hfT.k).tr k3).A (fun j hj => by rw [pz_cp_in hj, δ2, γ2 j hj, β31]) hAb
      have d31 : ∀ i, i < w → pz_cp δ 2 0 2886 31 31 i = σ 16 0 i := fun i hi => by
        rw [pz_cp_o (by omega), hfT.1 31 31 (by omega) (by omega), ← hγ, pz_cp_o (by omega), pz_cp_o (by omega), β31]; exact w3 i hi
      have v1 := mo_check131 (w := w) (due := 2 * c) (W := σ 16 0) hw (by omega) (σ := pz_cp δ 2 0 2886) d31 (fun i hi => (congrFun (pz_cp_o (by omega)) i).trans (u3 i hi)) (2 * c) 0 sv_fu (by omega) (by unfold sv_fu; omega) (Nat.zero_le w)
      refine R_o (v := ck_o w (2 * c) (σ 16 0) (ck_r (be_s (li_f T 0 nt) (li_f T 1 nt) n m b z d) n fun i => (be_it (li_f T 0 nt) (li_f T 1 nt) n m b z d i).2) (2 * c) 0) (σ1 := υ) (σ2 := pz_cp δ 2 0 2886) ?_ ?_ hA
      · unfold f_On_check f_Jm_min
        dsimp only
        rw [on_w1_30, pz_b, pz_if1, if_pos hg, a3, sv_if_f hk1, g1, pz_b0, pz_b, w1]
        rw [show τ 1 1 5 = nI bb by rw [ft 1 1 (by decide) (by decide) (by omega) (by omega), ← hb]; exact hCa.1.2.1, show (9999 : Int32) - nI bb = nI (9999 - bb) from pk_sub (a := 9999) hbb]
        have em : (if nI (9999 - bb) < nI X then nI (9999 - bb) else nI X) = nI c := by
          by_cases e : 9999 - bb < X
          · rw [if_pos (nI_lt e (by omega)), ← hc, if_neg (by omega)]
          · rw [if_neg (nI_nlt (by omega) (by omega)), ← hc]
            by_cases e2 : X < 9999 - bb
            · rw [if_pos e2]
            · rw [if_neg e2]; congr 1; omega
        rw [em, show (2 : Int32) * nI c = nI (2 * c) from pk_mul 2 c]
        exact y1
      · unfold f_Mo_check
        dsimp only
        rw [hβ, mo_w1_30, pz_b, pz_if1, if_pos hg, show β 30 0 3 = σ 0 0 3 by rw [← hβ, pz_uk (by decide), e30]; exact hg0, sv_if_f hk1, mo_aside (by decide) rfl rfl, pz_b0, mo_aside (by decide) rfl rfl, pz_b0, hγ, show υ 30 0 32 = nI w by rw [e30]; exact w2]
        refine Eq.trans u1 ?_
        unfold f_Mo_check_116
        rw [mo_aside (by decide) rfl rfl, pz_b0]
        exact v1
  · refine R_o (v := -1000000001) (σ1 := sv_up σ 0 0 11 0) (σ2 := sv_up (sv_up σ 0 0 11 0) 30 0 32 0) (by unfold f_On_check; dsimp only; rw [on_w1_30, pz_b, pz_if1, if_neg hg]) (by unfold f_Mo_check; dsimp only; rw [mo_w1_30, pz_b, pz_if1, if_neg hg]) h0
