/-! ===== pure: mend ===== -/
abbrev md_T : Type := Nat × Option (Nat × Nat)
def md_i (c : Nat → Nat) (k : Nat) : Nat → md_T → md_T
  | 0, st => st
  | v + 1, st => if (md_i c k v st).1 < c (v + 1) then (c (v + 1), some (k, v + 1)) else md_i c k v st
def md_o (c : Nat → Nat → Nat) : Nat → md_T → md_T
  | 0, st => st
  | k + 1, st => md_i (c k) k 9 (md_o c k st)
theorem md_i_ge (c : Nat → Nat) (k : Nat) (st : md_T) : ∀ v, st.1 ≤ (md_i c k v st).1 := by
  intro v
  induction v with
  | zero => exact Nat.le_refl _
  | succ v ih =>
    simp only [md_i]
    split
    · dsimp only; omega
    · exact ih
theorem md_o_ge (c : Nat → Nat → Nat) (st : md_T) : ∀ k, st.1 ≤ (md_o c k st).1 := by
  intro k
  induction k with
  | zero => exact Nat.le_refl _
  | succ k ih => exact Nat.le_trans ih (md_i_ge _ _ _ 9)
theorem md_i_le {M : Nat} (c : Nat → Nat) (k : Nat) (st : md_T) (hc : ∀ v, c v ≤ M) (hs : st.1 ≤ M) : ∀ v, (md_i c k v st).1 ≤ M := by
  intro v
  induction v with
  | zero => exact hs
  | succ v ih =>
    simp only [md_i]
    split
    · exact hc _
    · exact ih
theorem md_o_le {M : Nat} (c : Nat → Nat → Nat) (st : md_T) (hc : ∀ k v, c k v ≤ M) (hs : st.1 ≤ M) : ∀ k, (md_o c k st).1 ≤ M := by
  intro k
  induction k with
  | zero => exact hs
  | succ k ih => exact md_i_le _ _ _ (hc k) ih 9
/-- what was found lies where it is looked for -/
def md_C (σ : sv_S) (st : md_T) : Prop := match st.2 with
  | none => True
  | some q => σ 17 0 0 = nI q.1 ∧ σ 17 0 1 = nI q.2 ∧ σ 17 0 2 = nI st.1
def md_fl (st : md_T) : Int32 := match st.2 with
  | none => 0
  | some _ => 1
def md_b (st : md_T) : Int32 := match st.2 with
  | none => -1
  | some q => nI q.1
def md_v (st : md_T) : Int32 := match st.2 with
  | none => 0
  | some q => nI q.2
theorem md_C.to {σ τ : sv_S} {st : md_T} (h : md_C σ st) (e : τ 17 = σ 17) : md_C τ st := by
  unfold md_C at *
  rw [e]
  exact h
section MND
variable {hr sr : be_F} {n nt : Nat} {m b z : Int32} {d e : be_D} {T : Nat → tx_T} {σ0 : sv_S}
theorem cl_most {N : Nat} (hN : N ≤ 100) (hok : be_ok n d) (hq : be_q n e d) (hoe : be_ok n e) (hn : n ≤ 10) : ∀ (r i fuel : Nat) (σ : sv_S), i + r = N → r < fuel → be_TC hr sr 2 n m b z e σ0 i σ → ∃ σ', f_Li_mostAtOnce_4 fuel 2 (nI N) (nI (be_mo (be_s hr sr n m b z d) n i)) (nI i) σ = some (nI (be_mo (be_s hr sr n m b z d) n N), σ') ∧ be_fC 2 σ0 σ' := by
  intro r
  induction r with
  | zero =>
    intro i fuel σ hi hf hT
    obtain ⟨f, rfl⟩ : ∃ f, fuel = f + 1 := ⟨fuel - 1, by omega⟩
    have hi : i = N := by omega
    subst hi
    exact ⟨σ, by rw [f_Li_mostAtOnce_4, sv_if_t (nI_le (Nat.le_refl i) (by omega))], hT.2.2.2.1⟩
  | succ r ih =>
    intro i fuel σ hi hf hT
    obtain ⟨f, rfl⟩ : ∃ f, fuel = f + 1 := ⟨fuel - 1, by omega⟩
    obtain ⟨τ, g1, g2⟩ := hT.go2 hok hq hoe hn
    obtain ⟨σ', y1, y2⟩ := ih (i + 1) f τ (by omega) (by omega) g2
    refine ⟨σ', ?_, y2⟩
    have hc := be_ct_le (be_s hr sr n m b z d i) n
    have hm := be_mo_le (be_s hr sr n m b z d) n i
    rw [f_Li_mostAtOnce_4, sv_if_f (nI_ge (by omega) (by omega)), g1, pz_b, nI_1]
    unfold f_Jm_max
    rw [pz_b, ← y1]
    simp only [be_mo]
    by_cases e : be_mo (be_s hr sr n m b z d) n i < be_ct (be_s hr sr n m b z d i) n
    · rw [if_pos (nI_lt e (by omega)), if_pos e]
    · rw [if_neg (nI_nlt (by omega) (by omega)), if_neg e]
/-- the most at once, if drummer k starts with v -/
noncomputable def md_c (n nt : Nat) (m b z : Int32) (d : be_D) (T : Nat → tx_T) (N k v : Nat) : Nat := be_mo (be_s (li_f T 0 nt) (li_f T 1 nt) n m b z (be_u d k 1 (nI v))) n N
theorem be_mo_congr {s s' : Nat → Nat → Bool} {n : Nat} (h : ∀ i k, k < n → s i k = s' i k) : ∀ i, be_mo s n i = be_mo s' n i := by
  intro i
  induction i with
  | zero => rfl
  | succ i ih => simp only [be_mo]; rw [ih, be_ct_congr n (fun k hk => h i k hk)]
theorem md_own {N k v : Nat} (h : d k 1 = nI v) : md_c n nt m b z d T N k v = be_mo (be_s (li_f T 0 nt) (li_f T 1 nt) n m b z d) n N := by
  unfold md_c
  refine be_mo_congr (fun i j hj => be_q_s (fun k' _ j' _ _ _ => ?_) i hj) N
  unfold be_u
  split
  · rename_i q; rw [q.1, q.2]; exact h.symm
  · rfl
theorem be_u1_ok (h : be_ok n d) {k v : Nat} (h1 : 1 ≤ v) (h9 : v ≤ 9) : be_ok n (be_u d k 1 (nI v)) := h.u (fun e => by cases e) (fun _ => ⟨v, h1, h9, rfl⟩) (fun e => by cases e) (fun e => by cases e)
theorem be_u1_q (k : Nat) (x : Int32) : be_q n (be_u (be_o d) k 1 x) (be_u d k 1 x) := fun k' hk' j' hj' h5 h6 => by
  unfold be_u
  by_cases e : k' = k ∧ j' = 1
  · rw [if_pos e, if_pos e]
  · rw [if_neg e, if_neg e]; exact be_o_q n d k' hk' j' hj' h5 h6
theorem cl_mend33 {N k : Nat} (hN : N ≤ 40) (ok : li_ok n nt b d T) (hk : k < n) {K : Int32 → Int32 → Int32 → Int32 → sv_S → Option (Int32 × sv_S)} {st : md_T} (hst : be_mo (be_s (li_f T 0 nt) (li_f T 1 nt) n m b z d) n N ≤ st.1) (hst2 : st.1 ≤ n) : ∀ (r v fuel : Nat) (σ : sv_S), v + r = 9 → r < fuel → li_C σ 0 n nt b m z d T → md_C σ (md_i (md_c n nt m b z d T N k) k v st) → ∃ σ', f_On_findMend_33 K fuel (nI N) (nI (md_i (md_c n nt m b z d T N k) k v st).1) (md_fl (md_i (md_c n nt m b z d T N k) k v st)) (nI k) (nI (v + 1)) σ = K (nI N) (nI (md_i (md_c n nt m b z d T N k) k 9 st).1) (md_fl (md_i (md_c n nt m b z d T N k) k 9 st)) (nI (k + 1)) σ' ∧ md_C σ' (md_i (md_c n nt m b z d T N k) k 9 st) ∧ R_tC σ σ' := by
  have hn := ok.1
  intro r
  induction r with
  | zero =>
    intro v fuel σ hv hf hC hM
    obtain ⟨f, rfl⟩ : ∃ f, fuel = f + 1 := ⟨fuel - 1, by omega⟩
    have hv : v = 9 := by omega
    subst hv
    exact ⟨σ, by rw [f_On_findMend_33, sv_if_t (show (9 : Int32) < nI (9 + 1) by decide), nI_1], hM, R_tC.rfl' σ⟩
  | succ r ih =>
    intro v fuel σ hv hf hC hM
    obtain ⟨f, rfl⟩ : ∃ f, fuel = f + 1 := ⟨fuel - 1, by omega⟩
    have hge := md_i_ge (md_c n nt m b z d T N k) k st v
    have hle := md_i_le (M := n) (md_c n nt m b z d T N k) k st (fun v => be_mo_le _ _ _) hst2 v
    rw [f_On_findMend_33, sv_if_f (show ¬ (9 : Int32) < nI (v + 1) from nI_nlt (a := 9) (by omega) (by omega)), pz_in (by omega) (by omega), pz_cl (by omega), show σ 2 (10 * 0 + k) 1 = d k 1 from hC.1.at hk 1 (by omega), nI_1]
    by_cases e1 : nI (v + 1) = d k 1
    · have ec : md_c n nt m b z d T N k (v + 1) ≤ (md_i (md_c n nt m b z d T N k) k v st).1 := by
        rw [md_own e1.symm]; omega
      have es : md_i (md_c n nt m b z d T N k) k (v + 1) st = md_i (md_c n nt m b z d T N k) k v st := by
        simp only [md_i]; rw [if_neg (by omega)]
      rw [sv_if_t e1]
      obtain ⟨σ', u1, u2, u3⟩ := ih (v + 1) f σ (by omega) (by omega) hC (by rw [es]; exact hM)
      rw [es] at u1
      exact ⟨σ', u1, u2, u3⟩
    · rw [sv_if_f e1]
      obtain ⟨τ, g1, g2, g3, g4⟩ := cl_think7 ok hC
      have hC1 := g2.up (k := k) (j := 1) (v := nI (v + 1)) (by omega)
      have hok1 := be_u1_ok (k := k) (v := v + 1) ok.2.2.1 (by omega) (by omega)
      have hok2 := be_u1_ok (k := k) (v := v + 1) (be_o_ok ok.2.2.1) (by omega) (by omega)
      obtain ⟨ω, x1, x2⟩ := cl_most (N := N) (by omega) hok1 (be_u1_q k (nI (v + 1))) hok2 hn N 0 sv_fu (sv_up τ 2 (10 * 2 + k) 1 (nI (v + 1))) (by omega) (by unfold sv_fu; omega) (be_TC0 (σ := sv_up τ 2 (10 * 2 + k) 1 (nI (v + 1))) ok hC1)
      have hcl := be_mo_le (be_s (li_f T 0 nt) (li_f T 1 nt) n m b z (be_u d k 1 (nI (v + 1)))) n N
      have hfr : R_tC σ ω := by
        intro r i a1 a2 a3 a4
        rw [x2.t r i a1 a2 a3 a4, pz_up (fun q => a4 ⟨q.1, by omega, by omega⟩), g3 r i a1 a2 a3 a4]
      have h17 : ω 17 = σ 17 := funext fun i => by rw [x2 17 i (by decide) (by omega) (by omega), pz_up (by omega), g4]
      have hCω := hfr.L (a := 0) (by omega) hn hC
      rw [g1, pz_b0, pz_in (by omega) (by omega)]
      dsimp only
      rw [show f_Li_mostAtOnce 2 (nI N) (sv_up τ 2 (10 * 2 + k) 1 (nI (v + 1))) = some (nI (md_c n nt m b z d T N k (v + 1)), ω) from x1, pz_b]
      have hcl : md_c n nt m b z d T N k (v + 1) ≤ n := hcl
      by_cases el : (md_i (md_c n nt m b z d T N k) k v st).1 < md_c n nt m b z d T N k (v + 1)
      · have es : md_i (md_c n nt m b z d T N k) k (v + 1) st = (md_c n nt m b z d T N k (v + 1), some (k, v + 1)) := by
          simp only [md_i]; rw [if_pos el]
        rw [sv_if_f (nI_ge el (by omega)), sv_g_t ⟨by decide, by decide⟩, sv_g_t ⟨by decide, by decide⟩, sv_g_t ⟨by decide, by decide⟩]
        generalize hω : sv_up (sv_up (sv_up ω 17 0 ((0 : Int32).toNatClampNeg) (nI k)) 17 0 ((1 : Int32).toNatClampNeg) (nI (v + 1))) 17 0 ((2 : Int32).toNatClampNeg) (nI (md_c n nt m b z d T N k (v + 1))) = ω'
        have ho : ∀ r i, r ≠ 17 → ω' r i = ω r i := fun r i h => by rw [← hω, pz_up (fun q => h q.1), pz_up (fun q => h q.1), pz_up (fun q => h q.1)]
        have hfr' : R_tC σ ω' := fun r i a1 a2 a3 a4 => by rw [ho r i a2, hfr r i a1 a2 a3 a4]
        obtain ⟨σ', u1, u2, u3⟩ := ih (v + 1) f ω' (by omega) (by omega) (hfr'.L (a := 0) (by omega) hn hC) (by
          rw [es]
          refine ⟨?_, ?_, ?_⟩
          · rw [← hω, pz_uk (by decide), pz_uk (by decide)]; exact pz_us _ _ _ _ _
          · rw [← hω, pz_uk (by decide)]; exact pz_us _ _ _ _ _
          · rw [← hω]; exact pz_us _ _ _ _ _)
        rw [es] at u1
        exact ⟨σ', u1, u2, hfr'.tr u3⟩
      · have es : md_i (md_c n nt m b z d T N k) k (v + 1) st = md_i (md_c n nt m b z d T N k) k v st := by
          simp only [md_i]; rw [if_neg el]
        rw [sv_if_t (nI_le (by omega) (by omega))]
        obtain ⟨σ', u1, u2, u3⟩ := ih (v + 1) f ω (by omega) (by omega) hCω (by rw [es]; exact hM.to h17)
        rw [es] at u1
        exact ⟨σ', u1, u2, hfr.tr u3⟩
theorem cl_mend18 {N : Nat} (hN : N ≤ 40) (ok : li_ok n nt b d T) {st : md_T} (hst : be_mo (be_s (li_f T 0 nt) (li_f T 1 nt) n m b z d) n N ≤ st.1) (hst2 : st.1 ≤ n) : ∀ (r k fuel : Nat) (σ : sv_S), k + r = n → r < fuel → li_C σ 0 n nt b m z d T → md_C σ (md_o (md_c n nt m b z d T N) k st) → ∃ σ', f_On_findMend_18 fuel (nI N) (nI (md_o (md_c n nt m b z d T N) k st).1) (md_fl (md_o (md_c n nt m b z d T N) k st)) (nI k) σ = some (md_fl (md_o (md_c n nt m b z d T N) n st), σ') ∧ md_C σ' (md_o (md_c n nt m b z d T N) n st) ∧ R_tC σ σ' := by
  have hn := ok.1
  intro r
  induction r with
  | zero =>
    intro k fuel σ hk hf hC hM
    obtain ⟨f, rfl⟩ : ∃ f, fuel = f + 1 := ⟨fuel - 1, by omega⟩
    have hk : k = n := by omega
    subst hk
    refine ⟨σ, ?_, hM, R_tC.rfl' σ⟩
    rw [f_On_findMend_18, hC.1.1, sv_if_t (nI_le (Nat.le_refl k) (by omega)), sv_g_t ?_]
    unfold md_fl
    split
    · exact Or.inl rfl
    · exact Or.inr rfl
  | succ r ih =>
    intro k fuel σ hk hf hC hM
    obtain ⟨f, rfl⟩ : ∃ f, fuel = f + 1 := ⟨fuel - 1, by omega⟩
    rw [f_On_findMend_18, hC.1.1, sv_if_f (nI_ge (by omega) (by omega))]
    obtain ⟨τ, g1, g2, g3⟩ := cl_mend33 (m := m) (z := z) (K := f_On_findMend_18 f) (k := k) hN ok (by omega) (Nat.le_trans hst (md_o_ge (md_c n nt m b z d T N) st k)) (md_o_le (M := n) (md_c n nt m b z d T N) st (fun k v => be_mo_le _ _ _) hst2 k) 9 0 sv_fu σ rfl (by decide) hC hM
    obtain ⟨σ', u1, u2, u3⟩ := ih (k + 1) f τ (by omega) (by omega) (g3.L (a := 0) (by omega) hn hC) g2
    exact ⟨σ', g1.trans u1, u2, g3.tr u3⟩
theorem mo_mend68 {N k : Nat} {w : Int32} (hN : N ≤ 40) (ok : li_ok n nt b d T) (hk : k < n) {K : Int32 → Int32 → Int32 → Int32 → Int32 → Int32 → sv_S → Option (Int32 × sv_S)} {st : md_T} (hst2 : st.1 ≤ n) : ∀ (r v fuel : Nat) (σ : sv_S), v + r = 9 → r < fuel → li_V (σ 31 0) n nt b m z d T → (∀ j, j < 86 → σ 31 13 j = σ 31 0 j) → ∃ σ', f_Mo_mend_68 K fuel (nI N) w (nI (md_i (md_c n nt m b z d T N k) k v st).1) (md_b (md_i (md_c n nt m b z d T N k) k v st)) (md_v (md_i (md_c n nt m b z d T N k) k v st)) (nI k) (nI (v + 1)) σ = K (nI N) w (nI (md_i (md_c n nt m b z d T N k) k 9 st).1) (md_b (md_i (md_c n nt m b z d T N k) k 9 st)) (md_v (md_i (md_c n nt m b z d T N k) k 9 st)) (nI (k + 1)) σ' ∧ R_tM σ σ' ∧ (∀ j, σ' 31 13 j = σ 31 13 j) := by
  have hn := ok.1
  intro r
  induction r with
  | zero =>
    intro v fuel σ hv hf hV hcl
    obtain ⟨f, rfl⟩ : ∃ f, fuel = f + 1 := ⟨fuel - 1, by omega⟩
    have hv : v = 9 := by omega
    subst hv
    exact ⟨σ, by rw [f_Mo_mend_68, sv_if_t (show (9 : Int32) < nI (9 + 1) by decide), nI_1], ⟨rfl, R_kM.rfl' σ⟩, fun _ => rfl⟩
  | succ r ih =>
    intro v fuel σ hv hf hV hcl
    obtain ⟨f, rfl⟩ : ∃ f, fuel = f + 1 := ⟨fuel - 1, by omega⟩
    have hle := md_i_le (M := n) (md_c n nt m b z d T N k) k st (fun v => be_mo_le _ _ _) hst2 v
    have hV1 := hV.up (k := k) (j := 1) (v := nI (v + 1)) (by omega) (by omega) hn
    have hok1 := be_u1_ok (k := k) (v := v + 1) ok.2.2.1 (by omega) (by omega)
    obtain ⟨ω, x1, x2, x3, x4⟩ := mo_lay (N := N) (by omega) hok1 hn (be_TM0 (σ := sv_up σ 31 0 (6 + 8 * k + 1) (nI (v + 1))) ok hV1)
    have hfT : be_fT σ ω := (be_fM.up (σ := σ) (j := 6 + 8 * k + 1) (v := nI (v + 1)) (by omega) (by omega)).t.tr x2.2.2.2
    obtain ⟨b1, b2, b3⟩ := mo_bk2 hcl hfT
    have hV3 : li_V (pz_cp ω 13 0 86 31 0) n nt b m z d T := by rw [b1]; exact hV
    have hcl3 : ∀ j, j < 86 → pz_cp ω 13 0 86 31 13 j = pz_cp ω 13 0 86 31 0 j := fun j hj => by rw [b2 j, b1]; exact hcl j hj
    have e15 : pz_cp ω 13 0 86 30 0 15 = nI (md_c n nt m b z d T N k (v + 1)) := by rw [pz_cp_o (by omega)]; exact x4
    have hcl4 : md_c n nt m b z d T N k (v + 1) ≤ n := be_mo_le _ _ _
    obtain ⟨σ', u1, u2, u3⟩ := ih (v + 1) f (pz_cp ω 13 0 86) (by omega) (by omega) hV3 hcl3
    refine ⟨σ', ?_, ⟨u2.1.trans b1, b3.tr u2.2⟩, fun j => (u3 j).trans (b2 j)⟩
    rw [f_Mo_mend_68, sv_if_f (show ¬ (9 : Int32) < nI (v + 1) from nI_nlt (a := 9) (by omega) (by omega)), mo_sets1 (by omega), pz_b0, x1, pz_b0, mo_laysBack, pz_b0, e15, nI_1, ← u1]
    simp only [md_i]
    by_cases el : (md_i (md_c n nt m b z d T N k) k v st).1 < md_c n nt m b z d T N k (v + 1)
    · rw [sv_if_f (nI_ge el (by omega)), if_pos el]; rfl
    · rw [sv_if_t (nI_le (by omega) (by omega)), if_neg el]
theorem mo_mend54 {N : Nat} {w : Int32} (hN : N ≤ 40) (ok : li_ok n nt b d T) {st : md_T} (hst2 : st.1 ≤ n) : ∀ (r k fuel : Nat) (σ : sv_S), k + r = n → r < fuel → li_V (σ 31 0) n nt b m z d T → (∀ j, j < 86 → σ 31 13 j = σ 31 0 j) → ∃ σ', f_Mo_mend_54 fuel (nI N) w (nI (md_o (md_c n nt m b z d T N) k st).1) (md_b (md_o (md_c n nt m b z d T N) k st)) (md_v (md_o (md_c n nt m b z d T N) k st)) (nI k) σ = some (sv_if (0 ≤ md_b (md_o (md_c n nt m b z d T N) n st)) (sv_if (w = 0) (md_b (md_o (md_c n nt m b z d T N) n st)) (sv_if (w = 1) (md_v (md_o (md_c n nt m b z d T N) n st)) (nI (md_o (md_c n nt m b z d T N) n st).1))) (-1000000005), σ') ∧ R_tM σ σ' := by
  have hn := ok.1
  intro r
  induction r with
  | zero =>
    intro k fuel σ hk hf hV hcl
    obtain ⟨f, rfl⟩ : ∃ f, fuel = f + 1 := ⟨fuel - 1, by omega⟩
    have hk : k = n := by omega
    subst hk
    refine ⟨σ, ?_, rfl, R_kM.rfl' σ⟩
    rw [f_Mo_mend_54, pz_i0 _ (by omega), show σ 31 0 ((0 : Int32).toNatClampNeg) = nI k from hV.1.1, sv_if_t (nI_le (Nat.le_refl k) (by omega))]
    by_cases e0 : 0 ≤ md_b (md_o (md_c k nt m b z d T N) k st)
    · rw [sv_if_t e0, sv_if_t e0]
      by_cases w0 : w = 0
      · rw [sv_if_t w0, sv_if_t w0]
      · rw [sv_if_f w0, sv_if_f w0]
        by_cases w1 : w = 1
        · rw [sv_if_t w1, sv_if_t w1]
        · rw [sv_if_f w1, sv_if_f w1]
    · rw [sv_if_f e0, sv_if_f e0]
  | succ r ih =>
    intro k fuel σ hk hf hV hcl
    obtain ⟨f, rfl⟩ : ∃ f, fuel = f + 1 := ⟨fuel - 1, by omega⟩
    rw [f_Mo_mend_54, pz_i0 _ (by omega), show σ 31 0 ((0 : Int32).toNatClampNeg) = nI n from hV.1.1, sv_if_f (nI_ge (by omega) (by omega))]
    obtain ⟨τ, g1, g2, g3⟩ := mo_mend68 (m := m) (z := z) (w := w) (K := f_Mo_mend_54 f) (k := k) hN ok (by omega) (md_o_le (M := n) (md_c n nt m b z d T N) st (fun k v => be_mo_le _ _ _) hst2 k) 9 0 sv_fu σ rfl (by decide) hV hcl
    obtain ⟨σ', u1, u2⟩ := ih (k + 1) f τ (by omega) (by omega) (by rw [g2.1]; exact hV) (fun j hj => by rw [g3 j, g2.1]; exact hcl j hj)
    exact ⟨σ', g1.trans u1, u2.1.trans g2.1, g2.2.tr u2.2⟩
end MND
theorem md_i_r (c : Nat → Nat) (k : Nat) (st : md_T) (h : ∀ q, st.2 = some q → q.1 < 100) (hk : k < 100) : ∀ v, ∀ q, (md_i c k v st).2 = some q → q.1 < 100 := by
  intro v
  induction v with
  | zero => exact h
  | succ v ih =>
    intro q hq
    simp only [md_i] at hq
    split at hq
    · cases hq; exact hk
    · exact ih q hq
theorem md_o_r (c : Nat → Nat → Nat) (st : md_T) (h : ∀ q, st.2 = some q → q.1 < 100) : ∀ k, k ≤ 100 → ∀ q, (md_o c k st).2 = some q → q.1 < 100 := by
  intro k
  induction k with
  | zero => intro _; exact h
  | succ k ih => intro hk; exact md_i_r _ _ _ (ih (by omega)) (by omega) 9
theorem R_mend (x w : Int32) : R_m (f_On_mend x w) (f_Mo_mend x w) := by
  intro σ h
  obtain ⟨⟨n, nt, b, m, z, d, T, hC, hV, ok⟩, hX⟩ := id h
  have hn := ok.1
  by_cases hg : 1 ≤ x.toInt ∧ x.toInt ≤ 40
  · by_cases hw : 0 ≤ w.toInt ∧ w.toInt ≤ 2
    · obtain ⟨N, rfl, hN, hN2⟩ := pz_nat (a := x) (by omega)
      obtain ⟨τ, g1, g2, g3⟩ := cl_think ok hC
      obtain ⟨υ, y1, y2⟩ := cl_most (N := N) (by omega) ok.2.2.1 (be_o_q n d) (be_o_ok ok.2.2.1) hn N 0 sv_fu τ (by omega) (by unfold sv_fu; omega) (be_TC0 ok g2)
      have hf1 : R_tC σ υ := g3.tr y2.t
      have hbase := be_mo_le (be_s (li_f T 0 nt) (li_f T 1 nt) n m b z d) n N
      obtain ⟨ω, u1, u2, u3⟩ := cl_mend18 (m := m) (z := z) (N := N) (st := (be_mo (be_s (li_f T 0 nt) (li_f T 1 nt) n m b z d) n N, none)) (by omega) ok (Nat.le_refl _) hbase n 0 sv_fu υ (by omega) (by unfold sv_fu; omega) (hf1.L (a := 0) (by omega) hn hC) trivial
      have hf2 : R_tC σ ω := hf1.tr u3
      have e31 : ω 31 0 = σ 31 0 := hf2 31 0 (by decide) (by decide) (by omega) (by omega)
      have hV2 : li_V (pz_cp ω 0 13 86 31 0) n nt b m z d T := by rw [mo_by, e31]; exact hV
      obtain ⟨ζ, x1, x2, x3, x4⟩ := mo_lay (N := N) (by omega) ok.2.2.1 hn (be_TM0 ok hV2)
      obtain ⟨b1, b2, b3⟩ := mo_bk2 mo_cl0 x2.2.2.2
      have hV3 : li_V (pz_cp ζ 13 0 86 31 0) n nt b m z d T := by rw [b1]; exact hV2
      have e15 : pz_cp ζ 13 0 86 30 0 15 = nI (be_mo (be_s (li_f T 0 nt) (li_f T 1 nt) n m b z d) n N) := by rw [pz_cp_o (by omega)]; exact x4
      obtain ⟨θ, v1, v2⟩ := mo_mend54 (m := m) (z := z) (w := w) (N := N) (st := (be_mo (be_s (li_f T 0 nt) (li_f T 1 nt) n m b z d) n N, none)) (by omega) ok hbase n 0 sv_fu (pz_cp ζ 13 0 86) (by omega) (by unfold sv_fu; omega) hV3 (fun j hj => by rw [b2 j, b1]; exact mo_cl0 j hj)
      have hA : R_A θ := v2.A (R_tM.A ⟨b1, b3⟩ (mo_byM.A (hf2.A h)))
      have hr := md_o_r (md_c n nt m b z d T N) (be_mo (be_s (li_f T 0 nt) (li_f T 1 nt) n m b z d) n N, none) (fun q hq => by cases hq) n (by omega)
      generalize hst : md_o (md_c n nt m b z d T N) n (be_mo (be_s (li_f T 0 nt) (li_f T 1 nt) n m b z d) n N, none) = st at u1 u2 v1 hr
      have F : ∀ A, f_On_mend (nI N) w σ = A ↔ sv_if (md_fl st = 0) (some ((-1000000005 : Int32), ω)) (sv_g (sv_in w 3) (some (ω 17 0 (w.toNatClampNeg), ω))) = A := by
        intro A
        unfold f_On_mend f_On_findMend
        rw [on_w1_40, pz_b, pz_if1, if_pos hg, on_w0_2, pz_b, pz_if1, if_pos hw, g1, pz_b0, show f_Li_mostAtOnce 2 (nI N) τ = some (nI (be_mo (be_s (li_f T 0 nt) (li_f T 1 nt) n m b z d) n N), υ) from y1, pz_b, show f_On_findMend_18 sv_fu (nI N) (nI (be_mo (be_s (li_f T 0 nt) (li_f T 1 nt) n m b z d) n N)) (0 : Int32) (0 : Int32) υ = some (md_fl st, ω) from u1, pz_b]
      have M : f_Mo_mend (nI N) w ω = some (sv_if (0 ≤ md_b st) (sv_if (w = 0) (md_b st) (sv_if (w = 1) (md_v st) (nI st.1))) (-1000000005), θ) := by
        unfold f_Mo_mend
        rw [mo_w1_40, pz_b, pz_if1, if_pos hg, mo_w0_2, pz_b, pz_if1, if_pos hw, mo_laysBy, pz_b0, x1, pz_b0, mo_laysBack, pz_b0, e15]
        exact v1
      cases hs2 : st.2 with
      | none =>
        have e1 : md_fl st = 0 := by unfold md_fl; rw [hs2]
        have e2 : ¬ 0 ≤ md_b st := by unfold md_b; rw [hs2]; decide
        exact R_o (σ1 := ω) (σ2 := θ) ((F _).mpr (by rw [sv_if_t e1])) (by rw [M, sv_if_f e2]) hA
      | some q =>
        have e1 : ¬ md_fl st = 0 := by unfold md_fl; rw [hs2]; exact (by decide : ¬ (1 : Int32) = 0)
        have e2 : 0 ≤ md_b st := by unfold md_b; rw [hs2]; exact nI_pos' (by have := hr q hs2; omega)
        unfold md_C at u2
        rw [hs2] at u2
        obtain ⟨c0, c1, c2⟩ := u2
        have hb' : md_b st = nI q.1 := by unfold md_b; rw [hs2]
        have hv' : md_v st = nI q.2 := by unfold md_v; rw [hs2]
        obtain ⟨p, rfl, hp, hp2⟩ := pz_nat hw.1
        have hp3 : p = 0 ∨ p = 1 ∨ p = 2 := by omega
        rcases hp3 with rfl | rfl | rfl
        · exact R_o (v := nI q.1) (σ1 := ω) (σ2 := θ) ((F _).mpr (by rw [sv_if_f e1, pz_in (by omega) (by omega), pz_cl (by omega), c0])) (by rw [M, sv_if_t e2, sv_if_t (show nI 0 = (0 : Int32) from rfl), hb']) hA
        · exact R_o (v := nI q.2) (σ1 := ω) (σ2 := θ) ((F _).mpr (by rw [sv_if_f e1, pz_in (by omega) (by omega), pz_cl (by omega), c1])) (by rw [M, sv_if_t e2, sv_if_f (show ¬ nI 1 = (0 : Int32) by decide), sv_if_t (show nI 1 = (1 : Int32) from rfl), hv']) hA
        · exact R_o (v := nI st.1) (σ1 := ω) (σ2 := θ) ((F _).mpr (by rw [sv_if_f e1, pz_in (by omega) (by omega), pz_cl (by omega), c2])) (by rw [M, sv_if_t e2, sv_if_f (show ¬ nI 2 = (0 : Int32) by decide), sv_if_f (show ¬ nI 2 = (1 : Int32) by decide)]) hA
    · exact R_o (σ1 := σ) (by unfold f_On_mend; rw [on_w1_40, pz_b, pz_if1, if_pos hg, on_w0_2, pz_b, pz_if1, if_neg hw]) (by unfold f_Mo_mend; rw [mo_w1_40, pz_b, pz_if1, if_pos hg, mo_w0_2, pz_b, pz_if1, if_neg hw]) h
  · exact R_o (σ1 := σ) (by unfold f_On_mend; rw [on_w1_40, pz_b, pz_if1, if_neg hg]) (by unfold f_Mo_mend; rw [mo_w1_40, pz_b, pz_if1, if_neg hg]) h
