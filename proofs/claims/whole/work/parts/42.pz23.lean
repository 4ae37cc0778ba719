/-! ===== pure: pour, copy, tell, trim, feed ===== -/
def po_d (P : Nat → Int32) (S : Nat) (d : be_D) (k : Nat) : be_D := fun i j => if i < k ∧ j = 1 ∧ i < S ∧ P i ≠ -1000000005 then be_cl (P i) else d i j
def po_c (P : Nat → Int32) (S : Nat) (d : be_D) : Nat → Nat
  | 0 => 0
  | k + 1 => if k < S ∧ P k ≠ -1000000005 ∧ d k 1 ≠ be_cl (P k) then po_c P S d k + 1 else po_c P S d k
theorem po_ok {P : Nat → Int32} {S n k : Nat} {d : be_D} (h : be_ok n d) : be_ok n (po_d P S d k) := by
  intro i hi
  obtain ⟨g0, g1, g2, g7⟩ := h i hi
  unfold po_d
  refine ⟨by simpa using g0, ?_, by simpa using g2, by simpa using g7⟩
  split
  · exact be_cl_r _
  · exact g1
theorem po_0 (P : Nat → Int32) (S : Nat) (d : be_D) (i j : Nat) : po_d P S d 0 i j = d i j := by unfold po_d; rw [if_neg (fun e => absurd e.1 (Nat.not_lt_zero i))]
theorem po_k {P : Nat → Int32} {S k : Nat} {d : be_D} (j : Nat) : po_d P S d k k j = d k j := by unfold po_d; rw [if_neg (fun e => absurd e.1 (Nat.lt_irrefl k))]
theorem po_same {P : Nat → Int32} {S k : Nat} {d : be_D} (h : ¬ (k < S ∧ P k ≠ -1000000005 ∧ d k 1 ≠ be_cl (P k))) (i j : Nat) : po_d P S d k i j = po_d P S d (k + 1) i j := by
  unfold po_d
  by_cases e : i = k
  · subst e
    rw [if_neg (fun q => absurd q.1 (Nat.lt_irrefl i))]
    by_cases c : i < i + 1 ∧ j = 1 ∧ i < S ∧ P i ≠ -1000000005
    · rw [if_pos c, c.2.1]
      by_cases e2 : d i 1 = be_cl (P i)
      · exact e2
      · exact absurd ⟨c.2.2.1, c.2.2.2, e2⟩ h
    · rw [if_neg c]
  · have h1 : (i < k + 1) = (i < k) := by apply propext; omega
    simp only [h1]
theorem po_put {P : Nat → Int32} {S k : Nat} {d : be_D} (h1 : k < S) (h2 : P k ≠ -1000000005) (i j : Nat) : be_u (po_d P S d k) k 1 (be_cl (P k)) i j = po_d P S d (k + 1) i j := by
  unfold be_u po_d
  by_cases e : i = k
  · subst e
    by_cases ej : j = 1
    · subst ej; simp [h1, h2]
    · simp [ej]
  · have h3 : (i < k + 1) = (i < k) := by apply propext; omega
    simp only [h3]
    rw [if_neg (fun q => e q.1)]
theorem po_big {P : Nat → Int32} {S n k : Nat} {d : be_D} (hS : S ≤ k) (hk : k ≤ n) (i j : Nat) : po_d P S d k i j = po_d P S d n i j := by
  unfold po_d
  by_cases c : i < k ∧ j = 1 ∧ i < S ∧ P i ≠ -1000000005
  · rw [if_pos c, if_pos ⟨by omega, c.2⟩]
  · rw [if_neg c, if_neg (fun q => c ⟨by omega, q.2⟩)]
theorem po_cbig {P : Nat → Int32} {S : Nat} {d : be_D} {k : Nat} (hS : S ≤ k) : ∀ r, po_c P S d (k + r) = po_c P S d k := by
  intro r
  induction r with
  | zero => rfl
  | succ r ih =>
    show po_c P S d (k + r + 1) = _
    simp only [po_c]
    rw [if_neg (fun q => by omega)]
    exact ih
theorem sh_hasG {σ : sv_S} {s S i : Nat} (hS : S ≤ 24) (h1 : σ 12 s 1 = nI S) (hi : i < 1000) : f_Sh_hasNumber s (nI i) σ = some (if i < S ∧ σ 13 s i ≠ -1000000005 then 1 else 0, σ) := by
  by_cases e : i < S
  · rw [sh_has hS h1 e]
    by_cases e2 : σ 13 s i = -1000000005
    · rw [if_pos e2, if_neg (fun q => q.2 e2)]
    · rw [if_neg e2, if_pos ⟨e, e2⟩]
  · unfold f_Sh_hasNumber f_Sh_hasPlace
    rw [sv_if_f (nI_pos (by omega)), h1, sv_if_t (nI_le (by omega) (by omega)), pz_01, pz_b, sv_if_t rfl, pz_01, if_neg (fun q => e q.1)]
section POU
variable {n nt : Nat} {m b z : Int32} {d : be_D} {T : Nat → tx_T}
theorem cl_pour {s S : Nat} {P : Nat → Int32} (hS : S ≤ 24) (hn : n ≤ 10) : ∀ (r k fuel : Nat) (σ : sv_S), k + r = n → r < fuel → li_C σ 0 n nt b m z (po_d P S d k) T → σ 12 s 1 = nI S → (∀ i, i < 24 → σ 13 s i = P i) → ∃ σ', f_On_pour_32 fuel s (nI (po_c P S d k)) (nI k) σ = some (nI (po_c P S d n), σ') ∧ li_C σ' 0 n nt b m z (po_d P S d n) T ∧ R_0C σ σ' := by
  intro r
  induction r with
  | zero =>
    intro k fuel σ hk hf hC h12 h13
    obtain ⟨f, rfl⟩ : ∃ f, fuel = f + 1 := ⟨fuel - 1, by omega⟩
    have hk : k = n := by omega
    subst hk
    exact ⟨σ, by rw [f_On_pour_32, hC.1.1, sv_if_t (nI_le (Nat.le_refl k) (by omega))], hC, R_0C.rfl' σ⟩
  | succ r ih =>
    intro k fuel σ hk hf hC h12 h13
    obtain ⟨f, rfl⟩ : ∃ f, fuel = f + 1 := ⟨fuel - 1, by omega⟩
    have c1 : σ 2 (10 * 0 + k) 1 = d k 1 := by
      rw [show σ 2 (10 * 0 + k) 1 = po_d P S d k k 1 from hC.1.at (by omega) 1 (by omega), po_k]
    rw [f_On_pour_32, hC.1.1, sv_if_f (nI_ge (by omega) (by omega)), sh_hasG hS h12 (by omega), pz_b, h13 k (by omega), nI_1, nI_1]
    have same : ¬ (k < S ∧ P k ≠ -1000000005 ∧ d k 1 ≠ be_cl (P k)) → ∃ σ', f_On_pour_32 f s (nI (po_c P S d k)) (nI (k + 1)) σ = some (nI (po_c P S d n), σ') ∧ li_C σ' 0 n nt b m z (po_d P S d n) T ∧ R_0C σ σ' := by
      intro hh
      have e : po_c P S d (k + 1) = po_c P S d k := by simp only [po_c]; rw [if_neg hh]
      obtain ⟨σ', y1, y2, y3⟩ := ih (k + 1) f σ (by omega) (by omega) (hC.d (fun i _ j _ => po_same hh i j)) h12 h13
      rw [e] at y1
      exact ⟨σ', y1, y2, y3⟩
    by_cases c : k < S ∧ P k ≠ -1000000005
    · rw [if_pos c, sv_if_f (by decide), pz_in (by omega) (by omega), pz_cl (by omega), h13 k (by omega), be_wsC, pz_b, pz_in (by omega) (by omega), c1]
      by_cases e : d k 1 = be_cl (P k)
      · rw [sv_if_t e]
        exact same (fun q => q.2.2 e)
      · rw [sv_if_f e, pz_in (by omega) (by omega)]
        have ec : po_c P S d (k + 1) = po_c P S d k + 1 := by simp only [po_c]; rw [if_pos ⟨c.1, c.2, e⟩]
        have hC1 := (hC.up (k := k) (j := 1) (v := be_cl (P k)) (by omega)).d (e := po_d P S d (k + 1)) (fun i _ j _ => po_put c.1 c.2 i j)
        obtain ⟨σ', y1, y2, y3⟩ := ih (k + 1) f (sv_up σ 2 (10 * 0 + k) 1 (be_cl (P k))) (by omega) (by omega) hC1 (by rw [pz_ur (by decide)]; exact h12) (fun i hi => by rw [pz_ur (by decide)]; exact h13 i hi)
        rw [ec] at y1
        exact ⟨σ', y1, y2, fun r i a1 a2 => by rw [y3 r i a1 a2, pz_up (fun q => a1 ⟨q.1, by omega⟩)]⟩
    · rw [if_neg c, sv_if_t rfl]
      exact same (fun q => c ⟨q.1, q.2.1⟩)
theorem mo_pour {s S : Nat} {P : Nat → Int32} (hs : s < 4) (hS : S ≤ 24) (hn : n ≤ 10) : ∀ (r k fuel : Nat) (σ : sv_S), k + r = n → r < fuel → li_V (σ 31 0) n nt b m z (po_d P S d k) T → σ 31 5 s = nI S → (∀ i, i < 24 → σ 31 6 (24 * s + i) = P i) → ∃ σ', f_Mo_pour_27 fuel (nI s) (nI (po_c P S d k)) (nI k) σ = some (nI (po_c P S d n), σ') ∧ li_V (σ' 31 0) n nt b m z (po_d P S d n) T ∧ R_0M σ σ' := by
  intro r
  induction r with
  | zero =>
    intro k fuel σ hk hf hV h5 h6
    obtain ⟨f, rfl⟩ : ∃ f, fuel = f + 1 := ⟨fuel - 1, by omega⟩
    have hk : k = n := by omega
    subst hk
    refine ⟨σ, ?_, hV, R_0M.rfl' σ⟩
    rw [f_Mo_pour_27, pz_in hs (by omega), pz_cl (by omega), h5, pz_i0 _ (by omega), show σ 31 0 ((0 : Int32).toNatClampNeg) = nI k from hV.1.1, sv_if_t (c := nI k ≤ nI k) (nI_le (Nat.le_refl k) (by omega))]
    by_cases e : nI S ≤ nI k
    · rw [sv_if_t e]
    · rw [sv_if_f e]
  | succ r ih =>
    intro k fuel σ hk hf hV h5 h6
    obtain ⟨f, rfl⟩ : ∃ f, fuel = f + 1 := ⟨fuel - 1, by omega⟩
    rw [f_Mo_pour_27, pz_in hs (by omega), pz_cl (by omega), h5, pz_i0 _ (by omega), show σ 31 0 ((0 : Int32).toNatClampNeg) = nI n from hV.1.1]
    by_cases e : S ≤ k
    · rw [sv_if_t (nI_le e (by omega))]
      refine ⟨σ, ?_, hV.d (fun i _ j _ => po_big e (by omega) i j), R_0M.rfl' σ⟩
      rw [← po_cbig e (n - k), show k + (n - k) = n by omega]
    · have m1 : σ 31 0 (6 + 8 * k + 1) = d k 1 := by rw [hV.1.2.2.2.2 k (by omega) 1 (by omega), po_k]
      rw [sv_if_f (nI_ge (by omega) (by omega)), sv_if_f (nI_ge (by omega) (by omega)), mo_ix24, pz_in (by omega) (by omega), pz_cl (by omega), h6 k (by omega)]
      have G : ∀ y, (∀ i j, be_u (po_d P S d k) k 1 y i j = po_d P S d (k + 1) i j) → (po_c P S d (k + 1) = if y = d k 1 then po_c P S d k else po_c P S d k + 1) → ∃ σ', f_Mo_pour_84 (f_Mo_pour_27 f) (nI s) (nI (po_c P S d k)) (nI k) y σ = some (nI (po_c P S d n), σ') ∧ li_V (σ' 31 0) n nt b m z (po_d P S d n) T ∧ R_0M σ σ' := by
        intro y hy hc
        have hV1 := (hV.up (k := k) (j := 1) (v := y) (by omega) (by omega) hn).d (e := po_d P S d (k + 1)) (fun i _ j _ => hy i j)
        obtain ⟨σ', y1, y2, y3⟩ := ih (k + 1) f (sv_up σ 31 0 (6 + 8 * k + 1) y) (by omega) (by omega) hV1 (by rw [pz_ui (by decide)]; exact h5) (fun i hi => by rw [pz_ui (by decide)]; exact h6 i hi)
        refine ⟨σ', ?_, y2, fun r i a1 => by rw [y3 r i a1, pz_up a1]⟩
        unfold f_Mo_pour_84
        rw [mo_bec (k := k) (j := 1) (by omega) (by omega) (show (6 : Int32) + 8 * nI k + 1 = nI (6 + 8 * k + 1) from mo_ix k 1), pz_b, m1, nI_1, Int32.add_zero, nI_1, ← y1, hc]
        by_cases e2 : y = d k 1
        · rw [sv_if_t e2, if_pos e2]
        · rw [sv_if_f e2, if_neg e2]
      by_cases en : P k = -1000000005
      · rw [sv_if_t en, mo_of1 (by omega), pz_b, m1]
        refine G (d k 1) (fun i j => ?_) (by simp only [po_c]; rw [if_neg (fun q => q.2.1 en)]; simp)
        rw [← po_same (fun q => q.2.1 en)]
        unfold be_u
        split
        · rename_i q; rw [q.1, q.2, po_k]
        · rfl
      · rw [sv_if_f en, mo_held, pz_b]
        refine G (be_cl (P k)) (po_put (by omega) en) ?_
        simp only [po_c]
        by_cases e2 : d k 1 = be_cl (P k)
        · rw [if_neg (fun q => q.2.2 e2), if_pos e2.symm]
        · rw [if_pos ⟨by omega, en, e2⟩, if_neg (fun q => e2 q.symm)]
end POU
theorem R_pour (x : Int32) : R_m (f_On_pour x) (f_Mo_pour x) := by
  intro σ h
  obtain ⟨⟨n, nt, b, m, z, d, T, hC, hV, ok⟩, hX⟩ := id h
  have hn := ok.1
  by_cases hg : 0 ≤ x.toInt ∧ x.toInt ≤ 3
  · obtain ⟨s, rfl, hs, hs2⟩ := pz_nat hg.1
    have hs4 : s < 4 := by omega
    have e4 : 4 * 0 + s = s := by omega
    obtain ⟨H1, H2, ⟨S, hS, H3, H4⟩, H5, H6⟩ := hX.2.2.1 s hs4
    by_cases hm : σ 12 s 0 = -1
    · exact R_o (σ1 := σ) (σ2 := σ) (by unfold f_On_pour f_Sh_isMissing; rw [on_sheet, pz_b, pz_if1, if_pos hg, pz_in (by omega) (by omega), pz_cl (by omega), e4, sv_if_t hm, pz_11, pz_b, sv_if_f (by decide)]) (by unfold f_Mo_pour; rw [mo_sheet', pz_b, pz_if1, if_pos hg, pz_in (by omega) (by omega), pz_cl (by omega), H1, hm, sv_if_f (by decide)]) h
    · have hm2 : 0 ≤ σ 12 s 0 := by
        rcases H2 with e | e | e
        · exact absurd e hm
        · rw [e]; decide
        · rw [e]; decide
      obtain ⟨τ, g1, g2, g3⟩ := cl_pour (s := s) (S := S) (P := σ 13 s) (d := d) hS hn n 0 sv_fu σ (by omega) (by unfold sv_fu; omega) (hC.d (fun k _ j _ => (po_0 _ _ d k j).symm)) H3 (fun _ _ => rfl)
      have e31 : τ 31 = σ 31 := funext fun i => g3 31 i (by omega) (by omega)
      obtain ⟨υ, y1, y2, y3⟩ := mo_pour (s := s) (S := S) (P := σ 13 s) (d := d) hs4 hS hn n 0 sv_fu τ (by omega) (by unfold sv_fu; omega) (by rw [e31]; exact hV.d (fun k _ j _ => (po_0 _ _ d k j).symm)) (by rw [e31]; exact H4) (fun i hi => by rw [e31]; exact H5 i hi)
      exact R_o (σ1 := τ) (σ2 := υ) (by unfold f_On_pour f_Sh_isMissing; rw [on_sheet, pz_b, pz_if1, if_pos hg, pz_in (by omega) (by omega), pz_cl (by omega), e4, sv_if_f hm, pz_01, pz_b, sv_if_t rfl]; exact g1) (by unfold f_Mo_pour; rw [mo_sheet', pz_b, pz_if1, if_pos hg, pz_in (by omega) (by omega), pz_cl (by omega), e31, H1, sv_if_t hm2]; exact y1) (R_two hX g3.k y3.k g2 y2 ⟨hn, ok.2.1, po_ok ok.2.2.1, ok.2.2.2⟩)
  · exact R_o (σ1 := σ) (by unfold f_On_pour; rw [on_sheet, pz_b, pz_if1, if_neg hg]) (by unfold f_Mo_pour; rw [mo_sheet', pz_b, pz_if1, if_neg hg]) h
/-! copy -/
theorem sh_places {σ : sv_S} {s S : Nat} (hS : S ≤ 24) (h1 : σ 12 s 1 = nI S) (p q : Int32) : f_Sh_hasPlaces s p q σ = some (if 0 ≤ p.toInt ∧ 0 ≤ q.toInt ∧ p.toInt + q.toInt ≤ S then 1 else 0, σ) := by
  unfold f_Sh_hasPlaces
  have e : (0 : Int32).toInt = 0 := rfl
  have en : (nI S).toInt = S := pz_ti (by omega)
  rw [h1]
  by_cases g : p < 0
  · rw [sv_if_t g, pz_01, if_neg (fun q => by rw [pz_lt] at g; omega)]
  · rw [sv_if_f g]
    rw [pz_lt] at g
    by_cases g2 : q < 0
    · rw [sv_if_t g2, pz_01, if_neg (fun q => by rw [pz_lt] at g2; omega)]
    · rw [sv_if_f g2]
      rw [pz_lt] at g2
      by_cases g3 : nI S < q
      · rw [sv_if_t g3, pz_01, if_neg (fun q => by rw [pz_lt] at g3; omega)]
      · rw [sv_if_f g3]
        rw [pz_lt] at g3
        obtain ⟨j, rfl, hj, hj2⟩ := pz_nat (a := q) (by omega)
        have es : nI S - nI j = nI (S - j) := pk_sub (by omega)
        have et : (nI (S - j)).toInt = ((S - j : Nat) : Int) := pz_ti (by omega)
        rw [es]
        by_cases g4 : nI (S - j) < p
        · rw [sv_if_t g4, pz_01, if_neg (fun q => by rw [pz_lt] at g4; omega)]
        · rw [sv_if_f g4, pz_11, if_pos (by rw [pz_lt] at g4; omega)]
theorem lg_le (x y : Int64) : (lg_cmp x y ≤ 0 ↔ x.toInt ≤ y.toInt) ∧ (0 < lg_cmp x y ↔ y.toInt < x.toInt) := by
  unfold lg_cmp
  by_cases g1 : x > y
  · rw [if_pos g1]
    have : y.toInt < x.toInt := Int64.lt_iff_toInt_lt.mp g1
    exact ⟨⟨fun q => absurd q (by decide), fun q => by omega⟩, ⟨fun _ => this, fun _ => by decide⟩⟩
  · rw [if_neg g1]
    have g1 : ¬ y.toInt < x.toInt := fun q => g1 (Int64.lt_iff_toInt_lt.mpr q)
    by_cases g2 : x = y
    · rw [if_pos g2]
      exact ⟨⟨fun _ => by omega, fun _ => by decide⟩, ⟨fun q => absurd q (by decide), fun q => by omega⟩⟩
    · rw [if_neg g2]
      exact ⟨⟨fun _ => by omega, fun _ => by decide⟩, ⟨fun q => absurd q (by decide), fun q => by omega⟩⟩
theorem lg_add (a b : Int32) : (a.toInt64 + b.toInt64).toInt = a.toInt + b.toInt := by
  rw [Int64.toInt_add, Int32.toInt_toInt64, Int32.toInt_toInt64]
  have h1 := Int32.toInt_lt a
  have h2 := Int32.le_toInt a
  have h3 := Int32.toInt_lt b
  have h4 := Int32.le_toInt b
  exact Int.bmod_eq_of_le (by omega) (by omega)
theorem mo_copy113 {s t p q c : Nat} (hs : s < 4) (hp : p + c ≤ 24) {σ0 : sv_S} : ∀ (r k fuel : Nat) (σ : sv_S), k + r = c → r < fuel → σ 31 6 = σ0 31 6 → (∀ j, j < k → σ 31 30 j = σ0 31 6 (24 * s + p + j)) → ∃ σ', f_Mo_copy_113 fuel (nI s) (nI p) (nI t) (nI q) (nI c) (nI k) σ = f_Mo_copy_150 sv_fu (nI t) (nI q) (nI c) 0 σ' ∧ (∀ j, j < c → σ' 31 30 j = σ0 31 6 (24 * s + p + j)) ∧ ∀ r i, ¬ (r = 31 ∧ i = 30) → σ' r i = σ r i := by
  intro r
  induction r with
  | zero =>
    intro k fuel σ hk hf h6 hI
    obtain ⟨f, rfl⟩ : ∃ f, fuel = f + 1 := ⟨fuel - 1, by omega⟩
    have hk : k = c := by omega
    subst hk
    exact ⟨σ, by rw [f_Mo_copy_113, sv_if_t (nI_le (Nat.le_refl k) (by omega))], hI, fun _ _ _ => rfl⟩
  | succ r ih =>
    intro k fuel σ hk hf h6 hI
    obtain ⟨f, rfl⟩ : ∃ f, fuel = f + 1 := ⟨fuel - 1, by omega⟩
    rw [f_Mo_copy_113, sv_if_f (nI_ge (by omega) (by omega)), mo_ix24, nI_add, pz_in (by omega) (by omega), pz_in (by omega) (by omega), pz_cl (by omega), pz_cl (by omega), nI_1]
    obtain ⟨σ', y1, y2, y3⟩ := ih (k + 1) f (sv_up σ 31 30 k (σ 31 6 (24 * s + p + k))) (by omega) (by omega) (by rw [pz_up (by omega)]; exact h6) (fun j hj => by
      by_cases e : j = k
      · subst e; rw [pz_us, h6]
      · rw [pz_uk e]; exact hI j (by omega))
    exact ⟨σ', y1, y2, fun r i h => by rw [y3 r i h, pz_up h]⟩
theorem mo_copy150 {t q c : Nat} (ht : t < 4) (hq : q + c ≤ 24) {W : Nat → Int32} {σ0 : sv_S} : ∀ (r k fuel : Nat) (σ : sv_S), k + r = c → r < fuel → (∀ j, j < c → σ 31 30 j = W j) → (∀ j, j < k → σ 31 6 (24 * t + q + j) = W j) → (∀ j, (j < 24 * t + q ∨ 24 * t + q + k ≤ j) → σ 31 6 j = σ0 31 6 j) → ∃ σ', f_Mo_copy_150 fuel (nI t) (nI q) (nI c) (nI k) σ = some (nI c, σ') ∧ (∀ j, j < c → σ' 31 6 (24 * t + q + j) = W j) ∧ (∀ j, (j < 24 * t + q ∨ 24 * t + q + c ≤ j) → σ' 31 6 j = σ0 31 6 j) ∧ ∀ r i, ¬ (r = 31 ∧ i = 6) → σ' r i = σ r i := by
  intro r
  induction r with
  | zero =>
    intro k fuel σ hk hf h30 hI ho
    obtain ⟨f, rfl⟩ : ∃ f, fuel = f + 1 := ⟨fuel - 1, by omega⟩
    have hk : k = c := by omega
    subst hk
    exact ⟨σ, by rw [f_Mo_copy_150, sv_if_t (nI_le (Nat.le_refl k) (by omega))], hI, ho, fun _ _ _ => rfl⟩
  | succ r ih =>
    intro k fuel σ hk hf h30 hI ho
    obtain ⟨f, rfl⟩ : ∃ f, fuel = f + 1 := ⟨fuel - 1, by omega⟩
    rw [f_Mo_copy_150, sv_if_f (nI_ge (by omega) (by omega)), pz_in (by omega) (by omega), mo_ix24, nI_add, pz_in (by omega) (by omega), pz_cl (by omega), pz_cl (by omega), nI_1, h30 k (by omega)]
    obtain ⟨σ', y1, y2, y3, y4⟩ := ih (k + 1) f (sv_up σ 31 6 (24 * t + q + k) (W k)) (by omega) (by omega) (fun j hj => by rw [pz_ui (by decide)]; exact h30 j hj) (fun j hj => by
      by_cases e : j = k
      · subst e; rw [pz_us]
      · rw [pz_uk (by omega)]; exact hI j (by omega)) (fun j hj => by rw [pz_uk (by omega)]; exact ho j (by omega))
    exact ⟨σ', y1, y2, y3, fun r i h => by rw [y4 r i h, pz_up h]⟩
theorem R_copy (x y w u v : Int32) : R_m (f_On_copy x y w u v) (f_Mo_copy x y w u v) := by
  intro σ h
  have hX := h.2
  by_cases hg : 0 ≤ x.toInt ∧ x.toInt ≤ 3
  · by_cases hw : 0 ≤ w.toInt ∧ w.toInt ≤ 3
    · obtain ⟨s, rfl, hs, hs2⟩ := pz_nat hg.1
      obtain ⟨t, rfl, ht, ht2⟩ := pz_nat hw.1
      have hs4 : s < 4 := by omega
      have ht4 : t < 4 := by omega
      have e4s : 4 * 0 + s = s := by omega
      have e4t : 4 * 0 + t = t := by omega
      obtain ⟨H1, H2, ⟨S, hS, H3, H4⟩, H5, H6⟩ := hX.2.2.1 s hs4
      obtain ⟨K1, K2, ⟨S', hS', K3, K4⟩, K5, K6⟩ := hX.2.2.1 t ht4
      have neg : ∀ z : Int32, (z = -1 ∨ z = 0 ∨ z = 1) → z ≠ -1 → 0 ≤ z ∧ ¬ z < 0 := by
        intro z hz hne
        rcases hz with e | e | e
        · exact absurd e hne
        · subst e; exact ⟨by decide, by decide⟩
        · subst e; exact ⟨by decide, by decide⟩
      have C0 : ∀ A, f_On_copy (nI s) y (nI t) u v σ = A ↔ (sv_if (σ 12 s 0 = -1) (some ((-1000000011 : Int32), σ)) (sv_if (σ 12 t 0 = -1) (some ((-1000000011 : Int32), σ)) (sv_if (σ 12 s 0 = σ 12 t 0) (if 0 ≤ y.toInt ∧ 0 ≤ v.toInt ∧ y.toInt + v.toInt ≤ S then (if 0 ≤ u.toInt ∧ 0 ≤ v.toInt ∧ u.toInt + v.toInt ≤ S' then sv_b0 (f_ac13 s y t u v σ) (fun σ13 => some (v, σ13)) else some ((-1000000013 : Int32), σ)) else some ((-1000000013 : Int32), σ)) (some ((-1000000012 : Int32), σ))))) = A := by
        intro A
        unfold f_On_copy f_Sh_isMissing
        rw [on_sheet, pz_b, pz_if1, if_pos hg, on_sheet, pz_b, pz_if1, if_pos hw, pz_in (by omega) (by omega), pz_in (by omega) (by omega), pz_cl (k := s) (by omega), pz_cl (k := t) (by omega), e4s, e4t, pz_11, pz_01]
        by_cases m1 : σ 12 s 0 = -1
        · rw [sv_if_t m1, sv_if_t m1, pz_b, sv_if_f (by decide)]
        · rw [sv_if_f m1, sv_if_f m1, pz_b, sv_if_t rfl]
          by_cases m2 : σ 12 t 0 = -1
          · rw [sv_if_t m2, sv_if_t m2, pz_11, pz_b, sv_if_f (by decide)]
          · rw [sv_if_f m2, sv_if_f m2, pz_01, pz_b, sv_if_t rfl, sh_places hS H3, pz_b, pz_if1, sh_places hS' K3, pz_b, pz_if1]
      have M0 : ∀ τ, τ 31 = σ 31 → f_Mo_copy (nI s) y (nI t) u v τ = (sv_if (σ 12 s 0 = -1) (some ((-1000000011 : Int32), τ)) (sv_if (σ 12 t 0 = -1) (some ((-1000000011 : Int32), τ)) (sv_if (σ 12 s 0 = σ 12 t 0) (if 0 ≤ y.toInt ∧ 0 ≤ v.toInt ∧ y.toInt + v.toInt ≤ S then (if 0 ≤ u.toInt ∧ 0 ≤ v.toInt ∧ u.toInt + v.toInt ≤ S' then f_Mo_copy_113 sv_fu (nI s) y (nI t) u v 0 τ else some ((-1000000013 : Int32), τ)) else some ((-1000000013 : Int32), τ)) (some ((-1000000012 : Int32), τ))))) := by
        intro τ e31
        have e0 : (0 : Int32).toInt = 0 := rfl
        have eS : (nI S).toInt64.toInt = S := by rw [Int32.toInt_toInt64, pz_ti (by omega)]
        have eS' : (nI S').toInt64.toInt = S' := by rw [Int32.toInt_toInt64, pz_ti (by omega)]
        unfold f_Mo_copy
        rw [mo_sheet', pz_b, pz_if1, if_pos hg, mo_sheet', pz_b, pz_if1, if_pos hw, pz_in (by omega) (by omega), pz_cl (k := s) (by omega), pz_in (by omega) (by omega), pz_cl (k := t) (by omega), e31, H1, K1, H4, K4]
        by_cases m1 : σ 12 s 0 = -1
        · rw [sv_if_t m1, m1, sv_if_t (by decide)]
        · rw [sv_if_f m1, sv_if_f (neg _ H2 m1).2]
          by_cases m2 : σ 12 t 0 = -1
          · rw [sv_if_t m2, m2, sv_if_f (by decide)]
          · rw [sv_if_f m2, sv_if_t (neg _ K2 m2).1, pz_in (by omega) (by omega), pz_in (by omega) (by omega)]
            by_cases m3 : σ 12 s 0 = σ 12 t 0
            · rw [sv_if_t m3, sv_if_t m3, pz_in (by omega) (by omega), pz_in (by omega) (by omega)]
              by_cases c1 : y < 0
              · rw [sv_if_t c1, if_neg (fun q => by rw [pz_lt] at c1; omega)]
              · rw [sv_if_f c1]
                rw [pz_lt] at c1
                by_cases c2 : u < 0
                · rw [sv_if_t c2]
                  rw [pz_lt] at c2
                  by_cases d1 : 0 ≤ y.toInt ∧ 0 ≤ v.toInt ∧ y.toInt + v.toInt ≤ S
                  · rw [if_pos d1, if_neg (fun q => by omega)]
                  · rw [if_neg d1]
                · rw [sv_if_f c2]
                  rw [pz_lt] at c2
                  by_cases c3 : v < 0
                  · rw [sv_if_t c3, if_neg (fun q => by rw [pz_lt] at c3; omega)]
                  · rw [sv_if_f c3]
                    rw [pz_lt] at c3
                    have l1 := lg_le (y.toInt64 + v.toInt64) (nI S).toInt64
                    have l2 := lg_le (u.toInt64 + v.toInt64) (nI S').toInt64
                    rw [lg_add, eS] at l1
                    rw [lg_add, eS'] at l2
                    by_cases d1 : y.toInt + v.toInt ≤ S
                    · rw [sv_if_f (fun q => by have := l1.2.mp q; omega), if_pos (by omega)]
                      by_cases d2 : u.toInt + v.toInt ≤ S'
                      · rw [sv_if_t (l2.1.mpr d2), if_pos (by omega)]
                      · rw [sv_if_f (fun q => d2 (l2.1.mp q)), if_neg (by omega)]
                    · rw [sv_if_t (l1.2.mpr (by omega)), if_neg (by omega)]
            · rw [sv_if_f m3, sv_if_f m3]
      by_cases m1 : σ 12 s 0 = -1
      · exact R_o (σ1 := σ) (σ2 := σ) ((C0 _).mpr (by rw [sv_if_t m1])) (by rw [M0 σ rfl, sv_if_t m1]) h
      · by_cases m2 : σ 12 t 0 = -1
        · exact R_o (σ1 := σ) (σ2 := σ) ((C0 _).mpr (by rw [sv_if_f m1, sv_if_t m2])) (by rw [M0 σ rfl, sv_if_f m1, sv_if_t m2]) h
        · by_cases m3 : σ 12 s 0 = σ 12 t 0
          · by_cases d1 : 0 ≤ y.toInt ∧ 0 ≤ v.toInt ∧ y.toInt + v.toInt ≤ S
            · by_cases d2 : 0 ≤ u.toInt ∧ 0 ≤ v.toInt ∧ u.toInt + v.toInt ≤ S'
              · obtain ⟨p, rfl, hp, hp2⟩ := pz_nat d1.1
                obtain ⟨c, rfl, hc, hc2⟩ := pz_nat d1.2.1
                obtain ⟨q, rfl, hq, hq2⟩ := pz_nat d2.1
                have hpc : p + c ≤ 24 := by omega
                have hqc : q + c ≤ 24 := by omega
                generalize hτ : sv_cp σ 13 s t p q c = τ
                have t31 : τ 31 = σ 31 := by rw [← hτ]; funext i j; show (if (31 : Nat) = 13 ∧ i = t then _ else σ 31 i j) = _; rw [if_neg (by omega)]
                have tin : ∀ j, j < c → τ 13 t (q + j) = σ 13 s (p + j) := fun j hj => by
                  rw [← hτ]; show (if (13 : Nat) = 13 ∧ t = t then va_cpy (σ 13 s) (σ 13 t) p q c (q + j) else _) = _
                  rw [if_pos ⟨rfl, rfl⟩, pk_cpy_in (by omega) (by omega)]; congr 1; omega
                have tout : ∀ j, (j < q ∨ q + c ≤ j) → τ 13 t j = σ 13 t j := fun j hj => by
                  rw [← hτ]; show (if (13 : Nat) = 13 ∧ t = t then va_cpy (σ 13 s) (σ 13 t) p q c j else _) = _
                  rw [if_pos ⟨rfl, rfl⟩, pk_cpy_out hj]
                have toth : ∀ r i, ¬ (r = 13 ∧ i = t) → τ r i = σ r i := fun r i hri => by
                  rw [← hτ]; funext j; show (if r = 13 ∧ i = t then _ else σ r i j) = _; rw [if_neg hri]
                obtain ⟨υ, y1, y2, y3⟩ := mo_copy113 (s := s) (t := t) (p := p) (q := q) (c := c) hs4 hpc (σ0 := σ) c 0 sv_fu τ (by omega) (by unfold sv_fu; omega) (by rw [t31]) (fun j hj => absurd hj (Nat.not_lt_zero j))
                obtain ⟨ω, z1, z2, z3, z4⟩ := mo_copy150 (t := t) (q := q) (c := c) ht4 hqc (W := fun j => σ 31 6 (24 * s + p + j)) (σ0 := σ) c 0 sv_fu υ (by omega) (by unfold sv_fu; omega) y2 (fun j hj => absurd hj (Nat.not_lt_zero j)) (fun j _ => by rw [y3 31 6 (by omega), t31])
                have wo : ∀ r i, ¬ (r = 31 ∧ (i = 6 ∨ i = 30)) → ω r i = τ r i := fun r i hri => by rw [z4 r i (by omega), y3 r i (by omega)]
                refine R_o (v := nI c) (σ1 := τ) (σ2 := ω) ((C0 _).mpr ?_) (by rw [M0 τ t31, sv_if_f m1, sv_if_f m2, sv_if_t m3, if_pos d1, if_pos d2]; exact y1.trans z1) (R_H.A (σ := σ) ?_ h (fun r i a1 a2 => by rw [wo r i (by omega), toth r i (by omega)]))
                · rw [sv_if_f m1, sv_if_f m2, sv_if_t m3, if_pos d1, if_pos d2]
                  unfold f_ac13 f_ac
                  rw [pz_cl (by omega), pz_cl (by omega), pz_cl (by omega), sv_g_t ⟨nI_pos (by omega), nI_pos (by omega), nI_pos (by omega), hpc, hqc⟩, hτ, pz_b0]
                · refine R_H.one hX.2.2.1 ht4 (fun i _ _ => by rw [wo 12 i (by omega), toth 12 i (by omega)]) (fun i _ hi => by rw [wo 13 i (by omega), toth 13 i (by omega)]) (fun i _ => by rw [wo 31 4 (by omega), t31]) (fun i _ => by rw [wo 31 5 (by omega), t31]) (fun j hj => z3 j (by omega)) ⟨?_, ?_, ⟨S', hS', ?_, ?_⟩, fun i hi => ?_, fun i hi => ?_⟩
                  · rw [wo 31 4 (by omega), t31, wo 12 t (by omega), toth 12 t (by omega)]; exact K1
                  · rw [wo 12 t (by omega), toth 12 t (by omega)]; exact K2
                  · rw [wo 12 t (by omega), toth 12 t (by omega)]; exact K3
                  · rw [wo 31 5 (by omega), t31]; exact K4
                  · rw [wo 13 t (by omega)]
                    by_cases e : q ≤ i ∧ i < q + c
                    · obtain ⟨j, rfl⟩ : ∃ j, i = q + j := ⟨i - q, by omega⟩
                      rw [show 24 * t + (q + j) = 24 * t + q + j by omega, z2 j (by omega), tin j (by omega), show 24 * s + p + j = 24 * s + (p + j) by omega, H5 (p + j) (by omega)]
                    · rw [z3 _ (by omega), tout i (by omega)]; exact K5 i hi
                  · rw [wo 13 t (by omega)]
                    by_cases e : q ≤ i ∧ i < q + c
                    · obtain ⟨j, rfl⟩ : ∃ j, i = q + j := ⟨i - q, by omega⟩
                      rw [tin j (by omega)]; exact H6 (p + j) (by omega)
                    · rw [tout i (by omega)]; exact K6 i hi
              · exact R_o (σ1 := σ) (σ2 := σ) ((C0 _).mpr (by rw [sv_if_f m1, sv_if_f m2, sv_if_t m3, if_pos d1, if_neg d2])) (by rw [M0 σ rfl, sv_if_f m1, sv_if_f m2, sv_if_t m3, if_pos d1, if_neg d2]) h
            · exact R_o (σ1 := σ) (σ2 := σ) ((C0 _).mpr (by rw [sv_if_f m1, sv_if_f m2, sv_if_t m3, if_neg d1])) (by rw [M0 σ rfl, sv_if_f m1, sv_if_f m2, sv_if_t m3, if_neg d1]) h
          · exact R_o (σ1 := σ) (σ2 := σ) ((C0 _).mpr (by rw [sv_if_f m1, sv_if_f m2, sv_if_f m3])) (by rw [M0 σ rfl, sv_if_f m1, sv_if_f m2, sv_if_f m3]) h
    · exact R_o (σ1 := σ) (by unfold f_On_copy; rw [on_sheet, pz_b, pz_if1, if_pos hg, on_sheet, pz_b, pz_if1, if_neg hw]) (by unfold f_Mo_copy; rw [mo_sheet', pz_b, pz_if1, if_pos hg, mo_sheet', pz_b, pz_if1, if_neg hw]) h
  · exact R_o (σ1 := σ) (by unfold f_On_copy; rw [on_sheet, pz_b, pz_if1, if_neg hg]) (by unfold f_Mo_copy; rw [mo_sheet', pz_b, pz_if1, if_neg hg]) h
