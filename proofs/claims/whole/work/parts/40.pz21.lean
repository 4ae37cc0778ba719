/-! ===== pure: miscounted ===== -/
def ms_a (f v : Int32) : Int32 := if f ≤ v then v - f else f - v
def ms_d (f : Nat → Nat) (P : Nat → Int32) : Nat → Int32
  | 0 => 0
  | i + 1 => if P i = -1000000005 then ms_d f P i else ms_d f P i + ms_a (nI (f i)) (P i)
theorem ms_abs {f : Nat} {v : Int32} (hf : f ≤ 1000) (h1 : -99999 ≤ v.toInt) (h2 : v.toInt ≤ 99999) (σ : sv_S) : f_Jm_abs (nI f - v) σ = some (ms_a (nI f) v, σ) := by
  unfold f_Jm_abs ms_a
  have e : (nI f).toInt = (f : Int) := pz_ti (by omega)
  have es : (nI f - v).toInt = (f : Int) - v.toInt := by
    rw [Int32.toInt_sub, e]
    exact Int.bmod_eq_of_le (by omega) (by omega)
  have e0 : (0 : Int32).toInt = 0 := rfl
  by_cases h : nI f ≤ v
  · rw [if_pos h]
    rw [pz_le, e] at h
    by_cases h3 : 0 ≤ nI f - v
    · rw [if_pos h3]
      rw [pz_le, es, e0] at h3
      have : nI f = v := by rw [pz_eq, e]; omega
      rw [this]
    · rw [if_neg h3, Int32.zero_sub, Int32.neg_sub]
  · rw [if_neg h]
    rw [pz_le, e] at h
    rw [if_pos (by rw [pz_le, es, e0]; omega)]
theorem ms_off (f v : Int32) (σ : sv_S) : f_Mo_off v f σ = some (ms_a f v, σ) := by
  unfold f_Mo_off ms_a
  by_cases h : f ≤ v
  · rw [sv_if_t h, if_pos h]
  · rw [sv_if_f h, if_neg h]
theorem cl_diff {σ : sv_S} {f : Nat → Nat} {P : Nat → Int32} {s S n bb : Nat} (hS : S ≤ 24) (hn : n ≤ 10) (hbb : bb ≤ 9999) (hf : ∀ k, f k ≤ 100) (h12 : σ 12 s 1 = nI S) (h13 : ∀ i, i < 24 → σ 13 s i = P i) (hP : ∀ i, i < 24 → P i = -1000000005 ∨ -99999 ≤ (P i).toInt ∧ (P i).toInt ≤ 99999) (h4 : σ 1 2 4 = nI n) (h5 : σ 1 0 5 = nI bb) (h7 : ∀ k, k < n → σ 2 (10 * 2 + k) 7 = if f k = 0 then 0 else nI (bb + f k)) (h0 : ∀ k, n ≤ k → f k = 0) : f_On_differences s σ = some (ms_d f P S, σ) := by
  have G : ∀ (r i fuel : Nat), i + r = S → r < fuel → f_On_differences_4 fuel s (ms_d f P i) (nI i) σ = some (ms_d f P S, σ) := by
    intro r
    induction r with
    | zero =>
      intro i fuel hi hff
      obtain ⟨g, rfl⟩ : ∃ g, fuel = g + 1 := ⟨fuel - 1, by omega⟩
      have hi : i = S := by omega
      subst hi
      rw [f_On_differences_4, h12, sv_if_t (nI_le (Nat.le_refl i) (by omega))]
    | succ r ih =>
      intro i fuel hi hff
      obtain ⟨g, rfl⟩ : ∃ g, fuel = g + 1 := ⟨fuel - 1, by omega⟩
      have hfi := hf i
      have e13 := h13 i (by omega)
      have ihi := ih (i + 1) g (by omega) (by omega)
      rw [f_On_differences_4, h12, sv_if_f (nI_ge (by omega) (by omega)), sh_has hS h12 (by omega), pz_b, e13, nI_1]
      simp only [ms_d] at ihi
      by_cases e0 : P i = -1000000005
      · rw [if_pos e0, sv_if_t rfl]
        rw [if_pos e0] at ihi
        exact ihi
      · rw [if_neg e0, sv_if_f (by decide)]
        rw [if_neg e0] at ihi
        have hPi := (hP i (by omega)).resolve_left e0
        have F : ∀ y, y = nI (f i) → f_On_differences_82 (f_On_differences_4 g) s (ms_d f P i) (nI i) y σ = some (ms_d f P S, σ) := by
          intro y hy
          unfold f_On_differences_82
          rw [pz_in (by omega) (by omega), pz_cl (by omega), e13, hy, ms_abs (by omega) hPi.1 hPi.2, pz_b, nI_1]
          exact ihi
        have F0 : f i = 0 → f_On_differences_51 (f_On_differences_4 g) s (ms_d f P i) (nI i) (0 : Int32) σ = some (ms_d f P S, σ) := by
          intro h
          unfold f_On_differences_51
          rw [sv_if_t rfl]
          exact F 0 (by rw [h]; rfl)
        rw [h4]
        by_cases e1 : n ≤ i
        · rw [sv_if_t (nI_le e1 (by omega))]
          exact F0 (h0 i e1)
        · rw [sv_if_f (nI_ge (by omega) (by omega)), pz_in (by omega) (by omega), pz_cl (by omega), h7 i (by omega)]
          by_cases e2 : f i = 0
          · rw [if_pos e2, sv_if_t (by decide)]
            exact F0 e2
          · rw [if_neg e2, sv_if_f (nI_nle (by omega) (by omega))]
            unfold f_On_differences_51
            rw [sv_if_f (by decide), pz_in (by omega) (by omega), pz_cl (by omega), h7 i (by omega), if_neg e2, h5, pk_sub (by omega)]
            exact F _ (by congr 1; omega)
  exact G S 0 sv_fu (by omega) (by unfold sv_fu; omega)
/-- the best so far -/
def ms_s (q : Nat → Int32) : Nat → Option Nat × Int32
  | 0 => (none, 0)
  | k + 1 => if (ms_s q k).1 = none ∨ q k < (ms_s q k).2 then (some k, q k) else ms_s q k
theorem ms_r (q : Nat → Int32) : ∀ k, (∀ j, (ms_s q k).1 = some j → j < k) ∧ (1 ≤ k → (ms_s q k).1 ≠ none) := by
  intro k
  induction k with
  | zero => exact ⟨fun j h => (by cases h), fun h => (by omega)⟩
  | succ k ih =>
    simp only [ms_s]
    split
    · exact ⟨fun j h => by cases h; omega, fun _ h => by cases h⟩
    · rename_i hn
      exact ⟨fun j h => Nat.lt_succ_of_lt (ih.1 j h), fun _ h => hn (Or.inl h)⟩
def ms_n (x : Int32) : Int32 := if x = 9 then 1 else x + 1
/-- where the first strokes are if drummer k had begun one later -/
noncomputable def ms_f (n nt : Nat) (m b z : Int32) (d : be_D) (T : Nat → tx_T) (N k i : Nat) : Nat := if i < n then be_f (be_s (li_f T 0 nt) (li_f T 1 nt) n m b z (be_u d k 1 (ms_n (d k 1)))) i N else 0
noncomputable def ms_q (n nt : Nat) (m b z : Int32) (d : be_D) (T : Nat → tx_T) (N : Nat) (P : Nat → Int32) (S k : Nat) : Int32 := ms_d (ms_f n nt m b z d T N k) P S
def ms_C (σ : sv_S) (st : Option Nat × Int32) : Prop := match st.1 with
  | none => True
  | some k => σ 17 0 0 = nI k ∧ σ 17 0 1 = st.2
section MSC
variable {n nt : Nat} {m b z : Int32} {d : be_D} {T : Nat → tx_T}
theorem ms_n_r (h : be_ok n d) {k : Nat} (hk : k < n) : ∃ u : Nat, 1 ≤ u ∧ u ≤ 9 ∧ ms_n (d k 1) = nI u := by
  obtain ⟨u, u1, u9, e⟩ := (h k hk).2.1
  unfold ms_n
  by_cases h9 : u = 9
  · subst h9; exact ⟨1, by omega, by omega, by rw [e, if_pos (by decide)]; rfl⟩
  · exact ⟨u + 1, by omega, by omega, by rw [e, if_neg (c := nI u = 9) (fun q => h9 ((nI_eq (b := 9) (by omega) (by omega)).mp q)), nI_1]⟩
theorem cl_misc {N s S : Nat} {P : Nat → Int32} (hN : N ≤ 60) (hS : S ≤ 24) (ok : li_ok n nt b d T) (hP : ∀ i, i < 24 → P i = -1000000005 ∨ -99999 ≤ (P i).toInt ∧ (P i).toInt ≤ 99999) : ∀ (r k fuel : Nat) (σ : sv_S), k + r = n → r < fuel → li_C σ 0 n nt b m z d T → σ 12 s 1 = nI S → (∀ i, i < 24 → σ 13 s i = P i) → ms_C σ (ms_s (ms_q n nt m b z d T N P S) k) → ∃ σ', f_On_findMiscounted_2 fuel s (nI N) (nI k) σ = some (if n = 0 then 0 else 1, σ') ∧ ms_C σ' (ms_s (ms_q n nt m b z d T N P S) n) ∧ R_tC σ σ' := by
  have hn := ok.1
  intro r
  induction r with
  | zero =>
    intro k fuel σ hk hf hC h12 h13 hM
    obtain ⟨f, rfl⟩ : ∃ f, fuel = f + 1 := ⟨fuel - 1, by omega⟩
    have hk : k = n := by omega
    subst hk
    refine ⟨σ, ?_, hM, R_tC.rfl' σ⟩
    rw [f_On_findMiscounted_2, hC.1.1, sv_if_t (nI_le (Nat.le_refl k) (by omega)), pz_01, pz_11]
    by_cases e : k = 0
    · subst e; rw [sv_if_t (show nI 0 ≤ (0 : Int32) by decide), if_pos rfl]
    · rw [sv_if_f (nI_nle (by omega) (by omega)), if_neg e]
  | succ r ih =>
    intro k fuel σ hk hf hC h12 h13 hM
    obtain ⟨f, rfl⟩ : ∃ f, fuel = f + 1 := ⟨fuel - 1, by omega⟩
    have hkn : k < n := by omega
    obtain ⟨bb, hbb, hb⟩ := ok.2.2.2.1
    obtain ⟨u, u1, u9, eu⟩ := (ok.2.2.1 k hkn).2.1
    obtain ⟨τ, g1, g2, g3, g4⟩ := cl_think7 ok hC
    obtain ⟨v, v1, v9, ev⟩ := ms_n_r ok.2.2.1 hkn
    have hCτ := g3.L (a := 0) (by omega) hn hC
    have hC1 := g2.up (k := k) (j := 1) (v := ms_n (d k 1)) (by omega)
    have hok1 : be_ok n (be_u d k 1 (ms_n (d k 1))) := ok.2.2.1.u (fun e => by cases e) (fun _ => ⟨v, v1, v9, ev⟩) (fun e => by cases e) (fun e => by cases e)
    have hok2 : be_ok n (be_u (be_o d) k 1 (ms_n (d k 1))) := (be_o_ok ok.2.2.1).u (fun e => by cases e) (fun _ => ⟨v, v1, v9, ev⟩) (fun e => by cases e) (fun e => by cases e)
    have hT0 := be_TC0 (σ := sv_up τ 2 (10 * 2 + k) 1 (ms_n (d k 1))) ok hC1
    obtain ⟨ω, x1, x2⟩ := cl_pass (N := N) (by omega) hok1 (be_u1_q k (ms_n (d k 1))) hok2 hn N 0 sv_fu (sv_up τ 2 (10 * 2 + k) 1 (ms_n (d k 1))) (by omega) (by unfold sv_fu; omega) hT0
    have x3 := x2.2.2.2.1
    have hfr : R_tC σ ω := by
      intro r i a1 a2 a3 a4
      rw [x3.t r i a1 a2 a3 a4, pz_up (fun q => a4 ⟨q.1, by omega, by omega⟩), g3 r i a1 a2 a3 a4]
    have h17 : ω 17 = σ 17 := funext fun i => by rw [x3 17 i (by decide) (by omega) (by omega), pz_up (by omega), g4]
    have w12 : ω 12 s 1 = nI S := by rw [hfr 12 s (by decide) (by decide) (by omega) (by omega)]; exact h12
    have w13 : ∀ i, i < 24 → ω 13 s i = P i := fun i hi => by rw [hfr 13 s (by decide) (by decide) (by omega) (by omega)]; exact h13 i hi
    have hCω := hfr.L (a := 0) (by omega) hn hC
    have hdf : f_On_differences s ω = some (ms_q n nt m b z d T N P S k, ω) := by
      refine cl_diff (f := ms_f n nt m b z d T N k) (n := n) (bb := bb) hS hn hbb (fun i => ?_) w12 w13 hP x2.1.1 (by rw [← hb]; exact hCω.1.2.1) (fun i hi => ?_) (fun i hi => ?_)
      · unfold ms_f; split
        · exact Nat.le_trans (be_f_le _ _ _) (by omega)
        · omega
      · rw [show ω 2 (10 * 2 + i) 7 = (be_it (li_f T 0 nt) (li_f T 1 nt) n m b z (be_u (be_o d) k 1 (ms_n (d k 1))) N).2 i 6 from x2.1.at hi 6 (by omega), be_f6 hb hbb i (by unfold be_u be_o; simp) N (by omega), be_f_congr N (fun j => be_q_s (be_u1_q k (ms_n (d k 1))) j hi)]
        unfold ms_f
        rw [if_pos hi]
      · unfold ms_f; rw [if_neg (by omega)]
    have E : f_On_findMiscounted_2 (f + 1) s (nI N) (nI k) σ = f_On_findMiscounted_55 (f_On_findMiscounted_2 f) s (nI N) (nI k) (ms_n (d k 1)) (10 * 2 + k) τ := by
      rw [f_On_findMiscounted_2, hC.1.1, sv_if_f (nI_ge hkn (by omega)), g1, pz_b0, pz_in (by omega) (by omega), pz_in (by omega) (by omega), pz_cl (by omega), show τ 2 (10 * 0 + k) 1 = d k 1 from hCτ.1.at hkn 1 (by omega)]
      unfold ms_n
      rw [eu]
      by_cases h9 : u = 9
      · subst h9; rw [sv_if_f (by decide), if_pos (by decide)]
      · rw [sv_if_t (show nI u < (9 : Int32) from nI_lt (b := 9) (by omega) (by omega)), if_neg (c := nI u = 9) (fun q => h9 ((nI_eq (b := 9) (by omega) (by omega)).mp q))]
    rw [E]
    unfold f_On_findMiscounted_55
    dsimp only
    rw [show f_Li_pass 2 (nI N) (sv_up τ 2 (10 * 2 + k) 1 (ms_n (d k 1))) = some (_, ω) from x1, pz_b, hdf, pz_b, nI_1]
    have UP : ((ms_s (ms_q n nt m b z d T N P S) k).1 = none ∨ ms_q n nt m b z d T N P S k < (ms_s (ms_q n nt m b z d T N P S) k).2) → ∃ σ', f_On_findMiscounted_89 (f_On_findMiscounted_2 f) s (nI N) (nI k) (ms_q n nt m b z d T N P S k) ω = some (if n = 0 then 0 else 1, σ') ∧ ms_C σ' (ms_s (ms_q n nt m b z d T N P S) n) ∧ R_tC σ σ' := by
      intro hc
      unfold f_On_findMiscounted_89
      rw [sv_g_t ⟨by decide, by decide⟩, sv_g_t ⟨by decide, by decide⟩, nI_1]
      generalize hω : sv_up (sv_up ω 17 0 ((0 : Int32).toNatClampNeg) (nI k)) 17 0 ((1 : Int32).toNatClampNeg) (ms_q n nt m b z d T N P S k) = ω'
      have ho : ∀ r i, r ≠ 17 → ω' r i = ω r i := fun r i h => by rw [← hω, pz_up (fun q => h q.1), pz_up (fun q => h q.1)]
      have hfr' : R_tC σ ω' := fun r i a1 a2 a3 a4 => by rw [ho r i a2, hfr r i a1 a2 a3 a4]
      obtain ⟨σ', y1, y2, y3⟩ := ih (k + 1) f ω' (by omega) (by omega) (hfr'.L (a := 0) (by omega) hn hC) (by rw [ho 12 s (by decide)]; exact w12) (fun i hi => by rw [ho 13 s (by decide)]; exact w13 i hi) (by
        simp only [ms_s]
        rw [if_pos hc]
        refine ⟨?_, ?_⟩
        · rw [← hω, pz_uk (by decide)]; exact pz_us _ _ _ _ _
        · rw [← hω]; exact pz_us _ _ _ _ _)
      exact ⟨σ', y1, y2, hfr'.tr y3⟩
    by_cases k0 : k = 0
    · subst k0
      rw [sv_if_t (show nI 0 = (0 : Int32) from rfl)]
      exact UP (Or.inl rfl)
    · have hnn := (ms_r (ms_q n nt m b z d T N P S) k).2 (by omega)
      rw [sv_if_f (nI_ne0 (by omega) (by omega)), sv_g_t ⟨by decide, by decide⟩]
      have hc2 : ω 17 0 1 = (ms_s (ms_q n nt m b z d T N P S) k).2 := by
        rw [h17]
        unfold ms_C at hM
        cases hs : (ms_s (ms_q n nt m b z d T N P S) k).1 with
        | none => exact absurd hs hnn
        | some j => rw [hs] at hM; exact hM.2
      rw [show ω 17 0 ((1 : Int32).toNatClampNeg) = (ms_s (ms_q n nt m b z d T N P S) k).2 from hc2]
      by_cases el : (ms_s (ms_q n nt m b z d T N P S) k).2 ≤ ms_q n nt m b z d T N P S k
      · rw [sv_if_t el]
        obtain ⟨σ', y1, y2, y3⟩ := ih (k + 1) f ω (by omega) (by omega) hCω w12 w13 (by
          simp only [ms_s]
          rw [if_neg (fun q => q.elim hnn (fun q => absurd el (Int32.not_le.mpr q)))]
          unfold ms_C at hM ⊢
          rw [h17]
          exact hM)
        exact ⟨σ', y1, y2, hfr.tr y3⟩
      · rw [sv_if_f el]
        exact UP (Or.inr (Int32.not_le.mp el))
theorem mo_misc {N s S : Nat} {P : Nat → Int32} {w : Int32} (hN : N ≤ 60) (hs : s < 4) (hS : S ≤ 24) (ok : li_ok n nt b d T) : ∀ (r k fuel : Nat) (σ : sv_S), k + r = n → r < fuel → li_V (σ 31 0) n nt b m z d T → (∀ j, j < 86 → σ 31 13 j = σ 31 0 j) → σ 31 5 s = nI S → (∀ i, i < 24 → σ 31 6 (24 * s + i) = P i) → ∃ σ', f_Mo_miscounted_58 fuel (nI s) (nI N) w (be_o1 (ms_s (ms_q n nt m b z d T N P S) k).1) (ms_s (ms_q n nt m b z d T N P S) k).2 (nI k) σ = some (if n = 0 then -1000000005 else if w = 0 then be_o1 (ms_s (ms_q n nt m b z d T N P S) n).1 else (ms_s (ms_q n nt m b z d T N P S) n).2, σ') ∧ R_tM σ σ' := by
  have hn := ok.1
  intro r
  induction r with
  | zero =>
    intro k fuel σ hk hf hV hcl h5 h6
    obtain ⟨f, rfl⟩ : ∃ f, fuel = f + 1 := ⟨fuel - 1, by omega⟩
    have hk : k = n := by omega
    subst hk
    refine ⟨σ, ?_, rfl, R_kM.rfl' σ⟩
    rw [f_Mo_miscounted_58, pz_i0 _ (by omega), show σ 31 0 ((0 : Int32).toNatClampNeg) = nI k from hV.1.1, sv_if_t (nI_le (Nat.le_refl k) (by omega))]
    by_cases e : k = 0
    · subst e
      rw [sv_if_f (show ¬ (0 : Int32) ≤ be_o1 (ms_s (ms_q 0 nt m b z d T N P S) 0).1 from (by decide : ¬ (0 : Int32) ≤ -1)), if_pos rfl]
    · obtain ⟨q1, q2⟩ := ms_r (ms_q k nt m b z d T N P S) k
      have hnn := q2 (by omega)
      rw [if_neg e, sv_if_t (Int32.not_lt.mp (fun q => hnn ((be_o1_neg (fun j hj => by have := q1 j hj; omega)).mp q)))]
      by_cases w0 : w = 0
      · rw [sv_if_t w0, if_pos w0]
      · rw [sv_if_f w0, if_neg w0]
  | succ r ih =>
    intro k fuel σ hk hf hV hcl h5 h6
    obtain ⟨f, rfl⟩ : ∃ f, fuel = f + 1 := ⟨fuel - 1, by omega⟩
    have hkn : k < n := by omega
    obtain ⟨v, v1, v9, ev⟩ := ms_n_r ok.2.2.1 hkn
    obtain ⟨q1, q2⟩ := ms_r (ms_q n nt m b z d T N P S) k
    have e1 : σ 31 0 (6 + 8 * k + 1) = d k 1 := hV.1.2.2.2.2 k hkn 1 (by omega)
    have hV1 := hV.up (k := k) (j := 1) (v := ms_n (d k 1)) (by omega) (by omega) hn
    have hok1 : be_ok n (be_u d k 1 (ms_n (d k 1))) := ok.2.2.1.u (fun e => by cases e) (fun _ => ⟨v, v1, v9, ev⟩) (fun e => by cases e) (fun e => by cases e)
    obtain ⟨ω, x1, x2, x3, x4⟩ := mo_lay (N := N) (by omega) hok1 hn (be_TM0 (σ := sv_up σ 31 0 (6 + 8 * k + 1) (ms_n (d k 1))) ok hV1)
    have hfT : be_fT σ ω := (be_fM.up (σ := σ) (j := 6 + 8 * k + 1) (v := ms_n (d k 1)) (by omega) (by omega)).t.tr x2.2.2.2
    obtain ⟨b1, b2, b3⟩ := mo_bk2 hcl hfT
    generalize hζ : pz_cp ω 13 0 86 = ζ at b1 b2 b3
    have hV3 : li_V (ζ 31 0) n nt b m z d T := by rw [b1]; exact hV
    have z5 : ζ 31 5 s = nI S := by rw [b3.1 31 5 (by omega) (by omega)]; exact h5
    have z6 : ∀ i, i < 24 → ζ 31 6 (24 * s + i) = P i := fun i hi => by rw [b3.1 31 6 (by omega) (by omega)]; exact h6 i hi
    have z14 : ∀ j, j < n → ζ 31 14 j = nI (ms_f n nt m b z d T N k j) := fun j hj => by
      rw [← hζ, pz_cp_o (by omega), x3 j hj]; unfold ms_f; rw [if_pos hj]
    obtain ⟨σ', u1, u2⟩ := ih (k + 1) f ζ (by omega) (by omega) hV3 (fun j hj => by rw [b2 j, b1]; exact hcl j hj) z5 z6
    refine ⟨σ', ?_, u2.1.trans b1, b3.tr u2.2⟩
    have UP : f_Mo_miscounted_202 (f_Mo_miscounted_58 f) (nI s) (nI N) w (nI k) (ms_q n nt m b z d T N P S k) ζ = f_Mo_miscounted_58 f (nI s) (nI N) w (be_o1 (some k)) (ms_q n nt m b z d T N P S k) (nI (k + 1)) ζ := by
      unfold f_Mo_miscounted_202
      rw [nI_1]; rfl
    have G : ∀ (r i fuel : Nat), i + r = S → r < fuel → f_Mo_miscounted_116 (f_Mo_miscounted_58 f) fuel (nI s) (nI N) w (be_o1 (ms_s (ms_q n nt m b z d T N P S) k).1) (ms_s (ms_q n nt m b z d T N P S) k).2 (nI k) (ms_d (ms_f n nt m b z d T N k) P i) (nI i) ζ = f_Mo_miscounted_58 f (nI s) (nI N) w (be_o1 (ms_s (ms_q n nt m b z d T N P S) (k + 1)).1) (ms_s (ms_q n nt m b z d T N P S) (k + 1)).2 (nI (k + 1)) ζ := by
      intro r
      induction r with
      | zero =>
        intro i fuel hi hff
        obtain ⟨g, rfl⟩ : ∃ g, fuel = g + 1 := ⟨fuel - 1, by omega⟩
        have hi : i = S := by omega
        subst hi
        rw [f_Mo_miscounted_116, pz_in hs (by omega), pz_cl (by omega), z5, sv_if_t (nI_le (Nat.le_refl i) (by omega)), nI_1]
        show sv_if _ (f_Mo_miscounted_202 _ _ _ _ _ (ms_q n nt m b z d T N P i k) ζ) (sv_if (_ ≤ ms_q n nt m b z d T N P i k) _ (f_Mo_miscounted_202 _ _ _ _ _ (ms_q n nt m b z d T N P i k) ζ)) = _
        rw [UP]
        simp only [ms_s]
        by_cases en : (ms_s (ms_q n nt m b z d T N P i) k).1 = none
        · rw [sv_if_t ((be_o1_neg (fun j hj => by have := q1 j hj; omega)).mpr en), if_pos (Or.inl en)]
        · rw [sv_if_f (fun q => en ((be_o1_neg (fun j hj => by have := q1 j hj; omega)).mp q))]
          by_cases el : (ms_s (ms_q n nt m b z d T N P i) k).2 ≤ ms_q n nt m b z d T N P i k
          · rw [sv_if_t el, if_neg (fun q => q.elim en (fun q => absurd el (Int32.not_le.mpr q)))]
          · rw [sv_if_f el, if_pos (Or.inr (Int32.not_le.mp el))]
      | succ r ih2 =>
        intro i fuel hi hff
        obtain ⟨g, rfl⟩ : ∃ g, fuel = g + 1 := ⟨fuel - 1, by omega⟩
        have ihi := ih2 (i + 1) g (by omega) (by omega)
        have F : ∀ y, y = nI (ms_f n nt m b z d T N k i) → P i ≠ -1000000005 → f_Mo_miscounted_178 (f_Mo_miscounted_58 f) (f_Mo_miscounted_116 (f_Mo_miscounted_58 f) g) (nI s) (nI N) w (be_o1 (ms_s (ms_q n nt m b z d T N P S) k).1) (ms_s (ms_q n nt m b z d T N P S) k).2 (nI k) (nI i) y (P i) (ms_d (ms_f n nt m b z d T N k) P i) ζ = f_Mo_miscounted_58 f (nI s) (nI N) w (be_o1 (ms_s (ms_q n nt m b z d T N P S) (k + 1)).1) (ms_s (ms_q n nt m b z d T N P S) (k + 1)).2 (nI (k + 1)) ζ := by
          intro y hy hne
          unfold f_Mo_miscounted_178
          rw [ms_off, pz_b, nI_1, hy]
          simp only [ms_d] at ihi
          rw [if_neg hne] at ihi
          exact ihi
        rw [f_Mo_miscounted_116, pz_in hs (by omega), pz_cl (by omega), z5, sv_if_f (nI_ge (by omega) (by omega)), mo_ix24, pz_in (by omega) (by omega), pz_cl (by omega), z6 i (by omega), pz_i0 _ (by omega), show ζ 31 0 ((0 : Int32).toNatClampNeg) = nI n from hV3.1.1, nI_1, Int32.add_zero]
        by_cases e0 : P i = -1000000005
        · rw [sv_if_t e0]
          simp only [ms_d] at ihi
          rw [if_pos e0] at ihi
          exact ihi
        · rw [sv_if_f e0]
          by_cases e2 : n ≤ i
          · rw [sv_if_t (nI_le e2 (by omega))]
            exact F 0 (by unfold ms_f; rw [if_neg (by omega)]; rfl) e0
          · rw [sv_if_f (nI_ge (by omega) (by omega)), pz_in (by omega) (by omega), pz_cl (by omega), z14 i (by omega)]
            exact F _ rfl e0
    have E98 : ∀ y, y = ms_n (d k 1) → f_Mo_miscounted_98 (f_Mo_miscounted_58 f) (nI s) (nI N) w (be_o1 (ms_s (ms_q n nt m b z d T N P S) k).1) (ms_s (ms_q n nt m b z d T N P S) k).2 (nI k) y (1 : Int32) (nI k) σ = some (if n = 0 then -1000000005 else if w = 0 then be_o1 (ms_s (ms_q n nt m b z d T N P S) n).1 else (ms_s (ms_q n nt m b z d T N P S) n).2, σ') := by
      intro y hy
      unfold f_Mo_miscounted_98
      rw [mo_sets1 (by omega), pz_b0, hy, x1, pz_b0, mo_laysBack, pz_b0, hζ]
      exact (G S 0 sv_fu (by omega) (by unfold sv_fu; omega)).trans u1
    rw [f_Mo_miscounted_58, pz_i0 _ (by omega), show σ 31 0 ((0 : Int32).toNatClampNeg) = nI n from hV.1.1, sv_if_f (nI_ge hkn (by omega)), mo_of1 (by omega), pz_b, e1]
    by_cases h9 : d k 1 = 9
    · rw [sv_if_t h9]
      exact E98 1 (by unfold ms_n; rw [if_pos h9])
    · rw [sv_if_f h9, mo_of1 (by omega), pz_b, e1]
      exact E98 _ (by unfold ms_n; rw [if_neg h9])
end MSC
theorem R_miscounted (x y w : Int32) : R_m (f_On_miscounted x y w) (f_Mo_miscounted x y w) := by
  intro σ h
  obtain ⟨⟨n, nt, b, m, z, d, T, hC, hV, ok⟩, hX⟩ := id h
  have hn := ok.1
  by_cases hg : 0 ≤ x.toInt ∧ x.toInt ≤ 3
  · by_cases hy : 1 ≤ y.toInt ∧ y.toInt ≤ 60
    · by_cases hw : 0 ≤ w.toInt ∧ w.toInt ≤ 1
      · obtain ⟨s, rfl, hs, hs2⟩ := pz_nat hg.1
        obtain ⟨N, rfl, hN, hN2⟩ := pz_nat (a := y) (by omega)
        obtain ⟨H1, H2, ⟨S, hS, H3, H4⟩, H5, H6⟩ := hX.2.2.1 s (by omega)
        have e4 : 4 * 0 + s = s := by omega
        by_cases hm : σ 12 s 0 = -1
        · exact R_o (σ1 := σ) (σ2 := σ) (by unfold f_On_miscounted f_Sh_isMissing; rw [on_sheet, pz_b, pz_if1, if_pos hg, on_w1_60, pz_b, pz_if1, if_pos hy, on_w0_1, pz_b, pz_if1, if_pos hw, pz_in (by omega) (by omega), pz_cl (by omega), e4, sv_if_t hm, pz_11, pz_b, sv_if_f (by decide)]) (by unfold f_Mo_miscounted; rw [mo_sheet', pz_b, pz_if1, if_pos hg, mo_w1_60, pz_b, pz_if1, if_pos hy, mo_w0_1, pz_b, pz_if1, if_pos hw, pz_in (by omega) (by omega), pz_cl (by omega), H1, hm, sv_if_f (by decide)]) h
        · have hm2 : 0 ≤ σ 12 s 0 := by
            rcases H2 with e | e | e
            · exact absurd e hm
            · rw [e]; decide
            · rw [e]; decide
          obtain ⟨υ, y1, y2, y3⟩ := cl_misc (m := m) (z := z) (N := N) (s := s) (S := S) (P := σ 13 s) (by omega) hS ok H6 n 0 sv_fu σ (by omega) (by unfold sv_fu; omega) hC H3 (fun _ _ => rfl) trivial
          have e31 : υ 31 = σ 31 := funext fun i => y3 31 i (by decide) (by decide) (by omega) (by omega)
          have hV2 : li_V (pz_cp υ 0 13 86 31 0) n nt b m z d T := by rw [mo_by, e31]; exact hV
          obtain ⟨ω, x1, x2⟩ := mo_misc (m := m) (z := z) (w := w) (N := N) (s := s) (S := S) (P := σ 13 s) (by omega) (by omega) hS ok n 0 sv_fu (pz_cp υ 0 13 86) (by omega) (by unfold sv_fu; omega) hV2 mo_cl0 (by rw [pz_cp_o (by omega), e31]; exact H4) (fun i hi => by rw [pz_cp_o (by omega), e31]; exact H5 i hi)
          have hA : R_A ω := x2.A (mo_byM.A (y3.A h))
          have M : f_Mo_miscounted (nI s) (nI N) w υ = some (if n = 0 then -1000000005 else if w = 0 then be_o1 (ms_s (ms_q n nt m b z d T N (σ 13 s) S) n).1 else (ms_s (ms_q n nt m b z d T N (σ 13 s) S) n).2, ω) := by
            unfold f_Mo_miscounted
            rw [mo_sheet', pz_b, pz_if1, if_pos hg, mo_w1_60, pz_b, pz_if1, if_pos hy, mo_w0_1, pz_b, pz_if1, if_pos hw, pz_in (by omega) (by omega), pz_cl (by omega), e31, H1, sv_if_t hm2, mo_laysBy, pz_b0]
            exact x1
          have C : ∀ A, f_On_miscounted (nI s) (nI N) w σ = A ↔ sv_if ((if n = 0 then (0 : Int32) else 1) = 0) (some ((-1000000005 : Int32), υ)) (sv_g (sv_in w 3) (some (υ 17 0 (w.toNatClampNeg), υ))) = A := by
            intro A
            unfold f_On_miscounted f_Sh_isMissing
            rw [on_sheet, pz_b, pz_if1, if_pos hg, on_w1_60, pz_b, pz_if1, if_pos hy, on_w0_1, pz_b, pz_if1, if_pos hw, pz_in (by omega) (by omega), pz_cl (by omega), e4, sv_if_f hm, pz_01, pz_b, sv_if_t rfl, pz_in (by omega) (by omega), show f_On_findMiscounted s (nI N) σ = _ from y1, pz_b]
          by_cases n0 : n = 0
          · rw [if_pos n0] at M
            exact R_o (σ1 := υ) (σ2 := ω) ((C _).mpr (by rw [if_pos n0, sv_if_t rfl])) M hA
          · rw [if_neg n0] at M
            have hnn := (ms_r (ms_q n nt m b z d T N (σ 13 s) S) n).2 (by omega)
            unfold ms_C at y2
            cases hst : (ms_s (ms_q n nt m b z d T N (σ 13 s) S) n).1 with
            | none => exact absurd hst hnn
            | some j =>
              rw [hst] at y2 M
              obtain ⟨p, rfl, hp, hp2⟩ := pz_nat hw.1
              have hp3 : p = 0 ∨ p = 1 := by omega
              rcases hp3 with rfl | rfl
              · exact R_o (v := nI j) (σ1 := υ) (σ2 := ω) ((C _).mpr (by rw [if_neg n0, sv_if_f (by decide), pz_in (by omega) (by omega), pz_cl (by omega), y2.1])) (by rw [M, if_pos (show nI 0 = (0 : Int32) from rfl)]; rfl) hA
              · exact R_o (σ1 := υ) (σ2 := ω) ((C _).mpr (by rw [if_neg n0, sv_if_f (by decide), pz_in (by omega) (by omega), pz_cl (by omega), y2.2])) (by rw [M, if_neg (show ¬ nI 1 = (0 : Int32) by decide)]) hA
      · exact R_o (σ1 := σ) (by unfold f_On_miscounted; rw [on_sheet, pz_b, pz_if1, if_pos hg, on_w1_60, pz_b, pz_if1, if_pos hy, on_w0_1, pz_b, pz_if1, if_neg hw]) (by unfold f_Mo_miscounted; rw [mo_sheet', pz_b, pz_if1, if_pos hg, mo_w1_60, pz_b, pz_if1, if_pos hy, mo_w0_1, pz_b, pz_if1, if_neg hw]) h
    · exact R_o (σ1 := σ) (by unfold f_On_miscounted; rw [on_sheet, pz_b, pz_if1, if_pos hg, on_w1_60, pz_b, pz_if1, if_neg hy]) (by unfold f_Mo_miscounted; rw [mo_sheet', pz_b, pz_if1, if_pos hg, mo_w1_60, pz_b, pz_if1, if_neg hy]) h
  · exact R_o (σ1 := σ) (by unfold f_On_miscounted; rw [on_sheet, pz_b, pz_if1, if_neg hg]) (by unfold f_Mo_miscounted; rw [mo_sheet', pz_b, pz_if1, if_neg hg]) h
