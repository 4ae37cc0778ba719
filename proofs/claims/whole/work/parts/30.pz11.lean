/-! ===== pure: methods of the line ===== -/
def R_m (F G : sv_S → Option (Int32 × sv_S)) : Prop := ∀ σ, R_A σ → ∃ (v : Int32) (σ1 σ2 : sv_S), F σ = some (v, σ1) ∧ G σ1 = some (v, σ2) ∧ R_A σ2
theorem R_o {F G : sv_S → Option (Int32 × sv_S)} {σ σ1 σ2 : sv_S} {v : Int32} (h1 : F σ = some (v, σ1)) (h2 : G σ1 = some (v, σ2)) (h3 : R_A σ2) : ∃ (v : Int32) (σ1 σ2 : sv_S), F σ = some (v, σ1) ∧ G σ1 = some (v, σ2) ∧ R_A σ2 := ⟨v, σ1, σ2, h1, h2, h3⟩
theorem R_A.e20 {σ τ : sv_S} (h : R_A σ) (e : be_e20 σ τ) : R_A τ := by
  obtain ⟨⟨n, nt, b, m, z, d, T, hC, hV, ok⟩, hX⟩ := h
  refine ⟨⟨n, nt, b, m, z, d, T, hC.to ok.1 (by rw [e 1 (by decide)]) (fun i _ _ => by rw [e 2 (by decide)]) (by rw [e 4 (by decide)]) (by rw [e 5 (by decide)]) (e 18 (by decide)) (e 19 (by decide)) (e 22 (by decide)), by rw [e 31 (by decide)]; exact hV, ok⟩, hX.C (fun r i h _ _ _ _ => by rw [e r h])⟩
theorem R_A.eM {σ τ : sv_S} (h : R_A σ) (e : be_eM σ τ) : R_A τ := by
  obtain ⟨⟨n, nt, b, m, z, d, T, hC, hV, ok⟩, hX⟩ := h
  have e' : ∀ r, r ≠ 31 → τ r = σ r := fun r hr => funext fun i => e r i (fun q => hr q.1)
  refine ⟨⟨n, nt, b, m, z, d, T, hC.to ok.1 (by rw [e' 1 (by decide)]) (fun i _ _ => by rw [e' 2 (by decide)]) (by rw [e' 4 (by decide)]) (by rw [e' 5 (by decide)]) (e' 18 (by decide)) (e' 19 (by decide)) (e' 22 (by decide)), by rw [e.s]; exact hV, ok⟩, hX.M ⟨fun r i h _ => e r i (fun q => h ⟨q.1, by omega⟩), fun j _ => by rw [e' 30 (by decide)]⟩⟩
/-- a place of the line, in both -/
theorem R_put {σ : sv_S} {n nt : Nat} {b m z : Int32} {d : be_D} {T : Nat → tx_T} (hX : R_X σ) (hC : li_C σ 0 n nt b m z d T) (hV : li_V (σ 31 0) n nt b m z d T) (ok : li_ok n nt b d T) {k j : Nat} {v : Int32} (hk : k < n) (hj : j < 8) (hok : be_ok n (be_u d k j v)) {p : Nat} (hp : p = be_p j) : R_A (sv_up (sv_up σ 2 (10 * 0 + k) p v) 31 0 (6 + 8 * k + j) v) := by
  subst hp
  have hn := ok.1
  refine ⟨⟨n, nt, b, m, z, be_u d k j v, T, ?_, ?_, ⟨ok.1, ok.2.1, hok, ok.2.2.2⟩⟩, (hX.C (τ := sv_up σ 2 (10 * 0 + k) (be_p j) v) (fun r i _ _ h _ _ => pz_up (fun e => h ⟨e.1, by omega⟩))).M ⟨fun r i h _ => pz_up (fun e => h ⟨e.1, Or.inl e.2⟩), fun i _ => pz_ur (by decide)⟩⟩
  · exact (hC.up (k := k) (v := v) hj).to ok.1 (pz_up (by omega)) (fun i _ _ => pz_up (by omega)) (pz_up (by omega)) (pz_up (by omega)) (funext fun i => pz_up (by omega)) (funext fun i => pz_up (by omega)) (funext fun i => pz_up (by omega))
  · refine li_V.up (σ := sv_up σ 2 (10 * 0 + k) (be_p j) v) ?_ (by omega) hj hn
    rw [pz_up (by omega)]
    exact hV
theorem be_ok.u {n : Nat} {d : be_D} (h : be_ok n d) {k j : Nat} {v : Int32} (h0 : j = 0 → ∃ q : Nat, q < 6 ∧ v = nI q) (h1 : j = 1 → ∃ q : Nat, 1 ≤ q ∧ q ≤ 9 ∧ v = nI q) (h2 : j = 2 → ∃ q : Nat, q ≤ 9 ∧ v = nI q) (h7 : j = 7 → ∃ q : Nat, 1 ≤ q ∧ q ≤ 3 ∧ v = nI q) : be_ok n (be_u d k j v) := by
  intro k' hk'
  obtain ⟨g0, g1, g2, g7⟩ := h k' hk'
  have e : ∀ j', be_u d k j v k' j' = if k' = k ∧ j' = j then v else d k' j' := fun _ => rfl
  rw [e, e, e, e]
  refine ⟨?_, ?_, ?_, ?_⟩
  · split
    · rename_i q; exact h0 q.2.symm
    · exact g0
  · split
    · rename_i q; exact h1 q.2.symm
    · exact g1
  · split
    · rename_i q; exact h2 q.2.symm
    · exact g2
  · split
    · rename_i q; exact h7 q.2.symm
    · exact g7

theorem pz_ret {c : Prop} [Decidable c] {x y : Int32} {τ : sv_S} : (if c then some (x, τ) else some (y, τ)) = some (if c then x else y, τ) := by split <;> rfl
theorem wo_4 (v : Int32) : (20 : Int32) - v - 5 = 15 - v := by
  apply Int32.toBitVec_inj.mp
  show (20#32 - v.toBitVec) - 5#32 = 15#32 - v.toBitVec
  bv_omega
theorem wo_C {q : Nat} (hq : q < 6) {v : Int32} {τ : sv_S} : f_k_worth q v τ = some (wo_q q v, τ) := by
  match q, hq with
  | 0, _ => rfl
  | 1, _ => rfl
  | 2, _ => rfl
  | 3, _ => rfl
  | 4, _ =>
    show f_Tr_worth 4 v τ = _
    unfold f_Tr_worth f_Ea_worth
    rw [pz_b, wo_4]; rfl
  | 5, _ => rfl
theorem wo_M {k q : Nat} (hk : k < 10) (hq : q < 6) {v : Int32} {τ : sv_S} (h0 : τ 31 0 (6 + 8 * k + 0) = nI q) (h1 : τ 31 0 (6 + 8 * k + 1) = v) : f_Mo_worth (nI k) τ = some (wo_q q v, τ) := by
  unfold f_Mo_worth
  rw [mo_of1 hk, pz_b, mo_of0 hk, pz_b, h0, h1]
  match q, hq with
  | 0, _ => rw [sv_if_f (by decide), sv_if_f (by decide), sv_if_f (by decide), sv_if_f (by decide), sv_if_f (by decide)]; rfl
  | 1, _ => rw [sv_if_t (by decide)]; rfl
  | 2, _ => rw [sv_if_f (by decide), sv_if_t (by decide)]; rfl
  | 3, _ => rw [sv_if_f (by decide), sv_if_f (by decide), sv_if_t (by decide)]; rfl
  | 4, _ => rw [sv_if_f (by decide), sv_if_f (by decide), sv_if_f (by decide), sv_if_t (by decide)]; rfl
  | 5, _ => rw [sv_if_f (by decide), sv_if_f (by decide), sv_if_f (by decide), sv_if_f (by decide), sv_if_t (by decide)]; rfl
/-- the tree of kinds -/
def of_q (o k : Nat) : Bool := decide (o = k) || decide (k = 0) || (decide (k = 1) && decide (o = 3)) || (decide (k = 2) && decide (o = 4))
theorem of_M {o k : Nat} (ho : o < 6) (hk : k < 6) (τ : sv_S) : f_Mo_isOf (nI o) (nI k) τ = some (if of_q o k then 1 else 0, τ) := by
  have e : ∀ i j, i < 6 → j < 6 → ((nI i = nI j) ↔ i = j) := fun i j hi hj => nI_eq (by omega) (by omega)
  have e0 : (nI k = 0) ↔ k = 0 := e k 0 hk (by omega)
  have e1 : (nI k = 1) ↔ k = 1 := e k 1 hk (by omega)
  have e2 : (nI k = 2) ↔ k = 2 := e k 2 hk (by omega)
  have e3 : (nI o = 3) ↔ o = 3 := e o 3 ho (by omega)
  have e4 : (nI o = 4) ↔ o = 4 := e o 4 ho (by omega)
  unfold f_Mo_isOf f_Mo_isOf_19 of_q
  simp only [pz_11, pz_01, sv_if, e o k ho hk, e0, e1, e2, e3, e4]
  by_cases h1 : o = k
  · simp [sv_g, sv_if, h1]
  · by_cases h2 : k = 0
    · simp [sv_g, sv_if, h2]
    · by_cases h3 : k = 1
      · subst h3
        by_cases h4 : o = 3
        · simp [sv_g, sv_if, h4]
        · simp [sv_g, sv_if, h1, h4]
      · by_cases h5 : k = 2
        · subst h5
          by_cases h4 : o = 4
          · simp [sv_g, sv_if, h4]
          · simp [sv_g, sv_if, h1, h4]
        · simp [sv_g, sv_if, h1, h2, h3, h5]
theorem of_C {o k : Nat} (ho : o < 6) (hk : k < 6) (τ : sv_S) : f_On_isOf (nI o) (nI k) τ = some (if of_q o k then 1 else 0, τ) := by
  have e : ∀ i j, i < 6 → j < 6 → ((nI i = nI j) ↔ i = j) := fun i j hi hj => nI_eq (by omega) (by omega)
  have S : ∀ (f o x : Nat), o < 6 → x < 6 → f_On_isOf_4 (f + 1) (nI k) (nI o) (nI x) τ = if o = k then some (1, τ) else f_On_isOf_4 f (nI k) (sv_ab o) (nI (x + 1)) τ := by
    intro f o x ho hx
    have h1 : (nI o).toInt = o := pz_ti (by omega)
    rw [f_On_isOf_4, sv_if_f (nI_ge hx (by omega)), on_kind, pz_b, pz_if1, if_pos (by omega), nI_1]
    by_cases h : o = k
    · rw [sv_if_t (by rw [h]), pz_11, if_pos h]
    · rw [sv_if_f (fun q => h ((e o k ho hk).mp q)), pz_in ho (by omega), pz_cl (by omega), if_neg h]
  have Z : ∀ (f x : Nat), x < 6 → f_On_isOf_4 (f + 1) (nI k) (-1) (nI x) τ = some (0, τ) := by
    intro f x hx
    rw [f_On_isOf_4, sv_if_f (nI_ge hx (by omega)), on_kind, pz_b, pz_if1, if_neg (by decide), pz_01]
  have F : sv_fu = 3990 + 1 + 1 + 1 + 1 + 1 + 1 + 1 + 1 + 1 + 1 := rfl
  unfold f_On_isOf
  rw [F, show (0 : Int32) = nI 0 from rfl]
  have k0 : k ≠ 0 → ∀ f x, x < 5 → f_On_isOf_4 (f + 1 + 1) (nI k) (nI 0) (nI x) τ = some (0, τ) := by
    intro h f x hx
    rw [S _ _ _ (by omega) (by omega), if_neg (Ne.symm h)]
    exact Z _ _ (by omega)
  match o, ho with
  | 0, _ =>
    by_cases h : k = 0
    · subst h; rw [S _ _ _ (by omega) (by omega), if_pos rfl]; rfl
    · rw [k0 h _ _ (by omega)]; simp [nI_0, of_q, h, Ne.symm h]
  | 1, _ =>
    rw [S _ _ _ (by omega) (by omega)]
    by_cases h : k = 1
    · subst h; rfl
    · rw [if_neg (Ne.symm h)]
      show f_On_isOf_4 _ (nI k) (nI 0) _ τ = _
      by_cases h0 : k = 0
      · subst h0; rw [S _ _ _ (by omega) (by omega), if_pos rfl]; rfl
      · rw [k0 h0 _ _ (by omega)]; simp [nI_0, of_q, h, h0, Ne.symm h]
  | 2, _ =>
    rw [S _ _ _ (by omega) (by omega)]
    by_cases h : k = 2
    · subst h; rfl
    · rw [if_neg (Ne.symm h)]
      show f_On_isOf_4 _ (nI k) (nI 0) _ τ = _
      by_cases h0 : k = 0
      · subst h0; rw [S _ _ _ (by omega) (by omega), if_pos rfl]; rfl
      · rw [k0 h0 _ _ (by omega)]; simp [nI_0, of_q, h, h0, Ne.symm h]
  | 3, _ =>
    rw [S _ _ _ (by omega) (by omega)]
    by_cases h : k = 3
    · subst h; rfl
    · rw [if_neg (Ne.symm h)]
      show f_On_isOf_4 _ (nI k) (nI 1) _ τ = _
      rw [S _ _ _ (by omega) (by omega)]
      by_cases h1 : k = 1
      · subst h1; rfl
      · rw [if_neg (Ne.symm h1)]
        show f_On_isOf_4 _ (nI k) (nI 0) _ τ = _
        by_cases h0 : k = 0
        · subst h0; rw [S _ _ _ (by omega) (by omega), if_pos rfl]; rfl
        · rw [k0 h0 _ _ (by omega)]; simp [nI_0, of_q, h, h0, h1, Ne.symm h]
  | 4, _ =>
    rw [S _ _ _ (by omega) (by omega)]
    by_cases h : k = 4
    · subst h; rfl
    · rw [if_neg (Ne.symm h)]
      show f_On_isOf_4 _ (nI k) (nI 2) _ τ = _
      rw [S _ _ _ (by omega) (by omega)]
      by_cases h1 : k = 2
      · subst h1; rfl
      · rw [if_neg (Ne.symm h1)]
        show f_On_isOf_4 _ (nI k) (nI 0) _ τ = _
        by_cases h0 : k = 0
        · subst h0; rw [S _ _ _ (by omega) (by omega), if_pos rfl]; rfl
        · rw [k0 h0 _ _ (by omega)]; simp [nI_0, of_q, h, h0, h1, Ne.symm h]
  | 5, _ =>
    rw [S _ _ _ (by omega) (by omega)]
    by_cases h : k = 5
    · subst h; rfl
    · rw [if_neg (Ne.symm h)]
      show f_On_isOf_4 _ (nI k) (nI 0) _ τ = _
      by_cases h0 : k = 0
      · subst h0; rw [S _ _ _ (by omega) (by omega), if_pos rfl]; rfl
      · rw [k0 h0 _ _ (by omega)]; simp [nI_0, of_q, h, h0, Ne.symm h]

theorem R_told (x y : Int32) : R_m (f_On_told x y) (f_Mo_told x y) := by
  intro σ h
  obtain ⟨⟨n, nt, b, m, z, d, T, hC, hV, ok⟩, hX⟩ := id h
  have hn := ok.1
  by_cases hg : 0 ≤ x.toInt ∧ x.toInt ≤ (n : Int) - 1
  · obtain ⟨k, rfl, hk, hk2⟩ := pz_nat hg.1
    have hkn : k < n := by omega
    obtain ⟨q, hq, eq⟩ := (ok.2.2.1 k hkn).1
    by_cases e0 : y.toInt = 0
    · have ey : y = nI 0 := (pz_eq _ _).mpr e0
      exact R_o (v := d k 0) (σ1 := σ) (by unfold f_On_told; rw [on_dr hC.1.1 ok.1, pz_b, pz_if1, if_pos hg, pz_in (by omega) (by omega), sv_if_t e0, pz_cl (by omega), show σ 2 (10 * 0 + k) 0 = d k 0 from hC.1.at hkn 0 (by omega)]) (by unfold f_Mo_told; rw [mo_dr (n := n) hV.1.1 ok.1, pz_b, pz_if1, if_pos hg, sv_if_t e0, mo_of ey (by omega) (by omega), pz_b, show σ 31 0 (6 + 8 * k + 0) = d k 0 from hV.1.2.2.2.2 k hkn 0 (by omega)]) h
    by_cases e1 : y.toInt = 1
    · have ey : y = nI 1 := (pz_eq _ _).mpr e1
      exact R_o (v := d k 1) (σ1 := σ) (by unfold f_On_told; rw [on_dr hC.1.1 ok.1, pz_b, pz_if1, if_pos hg, pz_in (by omega) (by omega), sv_if_f (show ¬ y.toInt = 0 by omega), sv_if_t e1, pz_cl (by omega), show σ 2 (10 * 0 + k) 1 = d k 1 from hC.1.at hkn 1 (by omega)]) (by unfold f_Mo_told; rw [mo_dr (n := n) hV.1.1 ok.1, pz_b, pz_if1, if_pos hg, sv_if_f (show ¬ y.toInt = 0 by omega), sv_if_t e1, mo_of ey (by omega) (by omega), pz_b, show σ 31 0 (6 + 8 * k + 1) = d k 1 from hV.1.2.2.2.2 k hkn 1 (by omega)]) h
    by_cases e2 : y.toInt = 2
    · have ey : y = nI 2 := (pz_eq _ _).mpr e2
      exact R_o (v := d k 2) (σ1 := σ) (by unfold f_On_told; rw [on_dr hC.1.1 ok.1, pz_b, pz_if1, if_pos hg, pz_in (by omega) (by omega), sv_if_f (show ¬ y.toInt = 0 by omega), sv_if_f (show ¬ y.toInt = 1 by omega), sv_if_t e2, pz_cl (by omega), show σ 2 (10 * 0 + k) 2 = d k 2 from hC.1.at hkn 2 (by omega)]) (by unfold f_Mo_told; rw [mo_dr (n := n) hV.1.1 ok.1, pz_b, pz_if1, if_pos hg, sv_if_f (show ¬ y.toInt = 0 by omega), sv_if_f (show ¬ y.toInt = 1 by omega), sv_if_t e2, mo_of ey (by omega) (by omega), pz_b, show σ 31 0 (6 + 8 * k + 2) = d k 2 from hV.1.2.2.2.2 k hkn 2 (by omega)]) h
    by_cases e3 : y.toInt = 3
    · have ey : y = nI 3 := (pz_eq _ _).mpr e3
      exact R_o (v := d k 3) (σ1 := σ) (by unfold f_On_told; rw [on_dr hC.1.1 ok.1, pz_b, pz_if1, if_pos hg, pz_in (by omega) (by omega), sv_if_f (show ¬ y.toInt = 0 by omega), sv_if_f (show ¬ y.toInt = 1 by omega), sv_if_f (show ¬ y.toInt = 2 by omega), sv_if_t e3, pz_cl (by omega), show σ 2 (10 * 0 + k) 3 = d k 3 from hC.1.at hkn 3 (by omega)]) (by unfold f_Mo_told; rw [mo_dr (n := n) hV.1.1 ok.1, pz_b, pz_if1, if_pos hg, sv_if_f (show ¬ y.toInt = 0 by omega), sv_if_f (show ¬ y.toInt = 1 by omega), sv_if_f (show ¬ y.toInt = 2 by omega), sv_if_t e3, mo_of ey (by omega) (by omega), pz_b, show σ 31 0 (6 + 8 * k + 3) = d k 3 from hV.1.2.2.2.2 k hkn 3 (by omega)]) h
    by_cases e4 : y.toInt = 4
    · have ey : y = nI 4 := (pz_eq _ _).mpr e4
      exact R_o (v := d k 4) (σ1 := σ) (by unfold f_On_told; rw [on_dr hC.1.1 ok.1, pz_b, pz_if1, if_pos hg, pz_in (by omega) (by omega), sv_if_f (show ¬ y.toInt = 0 by omega), sv_if_f (show ¬ y.toInt = 1 by omega), sv_if_f (show ¬ y.toInt = 2 by omega), sv_if_f (show ¬ y.toInt = 3 by omega), sv_if_t e4, pz_cl (by omega), show σ 2 (10 * 0 + k) 4 = d k 4 from hC.1.at hkn 4 (by omega)]) (by unfold f_Mo_told; rw [mo_dr (n := n) hV.1.1 ok.1, pz_b, pz_if1, if_pos hg, sv_if_f (show ¬ y.toInt = 0 by omega), sv_if_f (show ¬ y.toInt = 1 by omega), sv_if_f (show ¬ y.toInt = 2 by omega), sv_if_f (show ¬ y.toInt = 3 by omega), sv_if_t e4, mo_of ey (by omega) (by omega), pz_b, show σ 31 0 (6 + 8 * k + 4) = d k 4 from hV.1.2.2.2.2 k hkn 4 (by omega)]) h
    by_cases e5 : y.toInt = 5
    · have ey : y = nI 5 := (pz_eq _ _).mpr e5
      exact R_o (v := d k 5) (σ1 := σ) (by unfold f_On_told; rw [on_dr hC.1.1 ok.1, pz_b, pz_if1, if_pos hg, pz_in (by omega) (by omega), sv_if_f (show ¬ y.toInt = 0 by omega), sv_if_f (show ¬ y.toInt = 1 by omega), sv_if_f (show ¬ y.toInt = 2 by omega), sv_if_f (show ¬ y.toInt = 3 by omega), sv_if_f (show ¬ y.toInt = 4 by omega), sv_if_t e5, pz_cl (by omega), show σ 2 (10 * 0 + k) 5 = d k 5 from hC.1.at hkn 5 (by omega)]) (by unfold f_Mo_told; rw [mo_dr (n := n) hV.1.1 ok.1, pz_b, pz_if1, if_pos hg, sv_if_f (show ¬ y.toInt = 0 by omega), sv_if_f (show ¬ y.toInt = 1 by omega), sv_if_f (show ¬ y.toInt = 2 by omega), sv_if_f (show ¬ y.toInt = 3 by omega), sv_if_f (show ¬ y.toInt = 4 by omega), sv_if_t e5, mo_of ey (by omega) (by omega), pz_b, show σ 31 0 (6 + 8 * k + 5) = d k 5 from hV.1.2.2.2.2 k hkn 5 (by omega)]) h
    by_cases e6 : y.toInt = 6
    · have ec := show σ 2 (10 * 0 + k) 7 = d k 6 from hC.1.at hkn 6 (by omega)
      have em := show σ 31 0 (6 + 8 * k + 6) = d k 6 from hV.1.2.2.2.2 k hkn 6 (by omega)
      by_cases e0' : d k 6 = 0
      · exact R_o (σ1 := σ) (by unfold f_On_told; rw [on_dr hC.1.1 ok.1, pz_b, pz_if1, if_pos hg, pz_in (by omega) (by omega), sv_if_f (show ¬ y.toInt = 0 by omega), sv_if_f (show ¬ y.toInt = 1 by omega), sv_if_f (show ¬ y.toInt = 2 by omega), sv_if_f (show ¬ y.toInt = 3 by omega), sv_if_f (show ¬ y.toInt = 4 by omega), sv_if_f (show ¬ y.toInt = 5 by omega), sv_if_t e6, pz_cl (by omega), ec, sv_if_t e0']) (by unfold f_Mo_told; rw [mo_dr (n := n) hV.1.1 ok.1, pz_b, pz_if1, if_pos hg, sv_if_f (show ¬ y.toInt = 0 by omega), sv_if_f (show ¬ y.toInt = 1 by omega), sv_if_f (show ¬ y.toInt = 2 by omega), sv_if_f (show ¬ y.toInt = 3 by omega), sv_if_f (show ¬ y.toInt = 4 by omega), sv_if_f (show ¬ y.toInt = 5 by omega), sv_if_t e6, mo_of6 (by omega), pz_b, em, sv_if_t e0']) h
      · exact R_o (v := d k 6) (σ1 := σ) (by unfold f_On_told; rw [on_dr hC.1.1 ok.1, pz_b, pz_if1, if_pos hg, pz_in (by omega) (by omega), sv_if_f (show ¬ y.toInt = 0 by omega), sv_if_f (show ¬ y.toInt = 1 by omega), sv_if_f (show ¬ y.toInt = 2 by omega), sv_if_f (show ¬ y.toInt = 3 by omega), sv_if_f (show ¬ y.toInt = 4 by omega), sv_if_f (show ¬ y.toInt = 5 by omega), sv_if_t e6, pz_cl (by omega), ec, sv_if_f e0']) (by unfold f_Mo_told; rw [mo_dr (n := n) hV.1.1 ok.1, pz_b, pz_if1, if_pos hg, sv_if_f (show ¬ y.toInt = 0 by omega), sv_if_f (show ¬ y.toInt = 1 by omega), sv_if_f (show ¬ y.toInt = 2 by omega), sv_if_f (show ¬ y.toInt = 3 by omega), sv_if_f (show ¬ y.toInt = 4 by omega), sv_if_f (show ¬ y.toInt = 5 by omega), sv_if_t e6, mo_of6 (by omega), pz_b, em, sv_if_f e0', mo_of6 (by omega), pz_b, em]) h
    by_cases e7 : y.toInt = 7
    · have ey : y = nI 7 := (pz_eq _ _).mpr e7
      exact R_o (v := d k 7) (σ1 := σ) (by unfold f_On_told; rw [on_dr hC.1.1 ok.1, pz_b, pz_if1, if_pos hg, pz_in (by omega) (by omega), sv_if_f (show ¬ y.toInt = 0 by omega), sv_if_f (show ¬ y.toInt = 1 by omega), sv_if_f (show ¬ y.toInt = 2 by omega), sv_if_f (show ¬ y.toInt = 3 by omega), sv_if_f (show ¬ y.toInt = 4 by omega), sv_if_f (show ¬ y.toInt = 5 by omega), sv_if_f (show ¬ y.toInt = 6 by omega), sv_if_t e7, pz_cl (by omega), show σ 2 (10 * 0 + k) 6 = d k 7 from hC.1.at hkn 7 (by omega)]) (by unfold f_Mo_told; rw [mo_dr (n := n) hV.1.1 ok.1, pz_b, pz_if1, if_pos hg, sv_if_f (show ¬ y.toInt = 0 by omega), sv_if_f (show ¬ y.toInt = 1 by omega), sv_if_f (show ¬ y.toInt = 2 by omega), sv_if_f (show ¬ y.toInt = 3 by omega), sv_if_f (show ¬ y.toInt = 4 by omega), sv_if_f (show ¬ y.toInt = 5 by omega), sv_if_f (show ¬ y.toInt = 6 by omega), sv_if_t e7, mo_of ey (by omega) (by omega), pz_b, show σ 31 0 (6 + 8 * k + 7) = d k 7 from hV.1.2.2.2.2 k hkn 7 (by omega)]) h
    by_cases e8 : y.toInt = 8
    · obtain ⟨τ, g1, g2⟩ := be_hearC hC.1 ok.2.2.1 (li_LC hC ok (q := 0) (by omega)) (by omega) ok.1 hkn hq eq
      have hτ := h.e20 g2
      have hV' : li_V (τ 31 0) n nt b m z d T := by rw [g2 31 (by decide)]; exact hV
      obtain ⟨υ, y1, y2⟩ := mo_hears (li_VM hV') ok.2.2.1 (li_LM hV' ok (q := 0) (by omega)) ok.1 hkn
      have ek : f_Li_kindOf 0 (10 * 0 + k) σ = some (q, σ) := be_kindC hq (by rw [← eq]; exact hC.1.at hkn 0 (by omega))
      exact R_o (σ1 := τ) (σ2 := υ) (by unfold f_On_told; rw [on_dr hC.1.1 ok.1, pz_b, pz_if1, if_pos hg, pz_in (by omega) (by omega), sv_if_f (show ¬ y.toInt = 0 by omega), sv_if_f (show ¬ y.toInt = 1 by omega), sv_if_f (show ¬ y.toInt = 2 by omega), sv_if_f (show ¬ y.toInt = 3 by omega), sv_if_f (show ¬ y.toInt = 4 by omega), sv_if_f (show ¬ y.toInt = 5 by omega), sv_if_f (show ¬ y.toInt = 6 by omega), sv_if_f (show ¬ y.toInt = 7 by omega), sv_if_t e8, pz_cl (by omega), ek, pz_b, g1, pz_b, pz_if1]; exact pz_ret) (by unfold f_Mo_told; rw [mo_dr (n := n) (by rw [g2 31 (by decide)]; exact hV.1.1) ok.1, pz_b, pz_if1, if_pos hg, sv_if_f (show ¬ y.toInt = 0 by omega), sv_if_f (show ¬ y.toInt = 1 by omega), sv_if_f (show ¬ y.toInt = 2 by omega), sv_if_f (show ¬ y.toInt = 3 by omega), sv_if_f (show ¬ y.toInt = 4 by omega), sv_if_f (show ¬ y.toInt = 5 by omega), sv_if_f (show ¬ y.toInt = 6 by omega), sv_if_f (show ¬ y.toInt = 7 by omega), sv_if_t e8, y1, pz_b, pz_if1]; exact pz_ret) (hτ.eM y2)
    by_cases e9 : y.toInt = 9
    · obtain ⟨τ, g1, g2⟩ := be_wakeC (a := 0) (k := k) hC.1.2.1 (hC.1.at hkn 0 (by omega)) (hC.1.at hkn 1 (by omega)) ok.2.2.1 (li_LC hC ok (q := 1) (by omega)) (by omega) ok.1 hkn
      have hτ := h.e20 g2
      have hV' : li_V (τ 31 0) n nt b m z d T := by rw [g2 31 (by decide)]; exact hV
      obtain ⟨υ, y1, y2⟩ := mo_wakes (σ := τ) (k := k) hV'.1.2.1 (hV'.1.2.2.2.2 k hkn 0 (by omega)) (hV'.1.2.2.2.2 k hkn 1 (by omega)) ok.2.2.1 (li_LM hV' ok (q := 1) (by omega)) ok.1 hkn
      exact R_o (σ1 := τ) (σ2 := υ) (by unfold f_On_told; rw [on_dr hC.1.1 ok.1, pz_b, pz_if1, if_pos hg, pz_in (by omega) (by omega), sv_if_f (show ¬ y.toInt = 0 by omega), sv_if_f (show ¬ y.toInt = 1 by omega), sv_if_f (show ¬ y.toInt = 2 by omega), sv_if_f (show ¬ y.toInt = 3 by omega), sv_if_f (show ¬ y.toInt = 4 by omega), sv_if_f (show ¬ y.toInt = 5 by omega), sv_if_f (show ¬ y.toInt = 6 by omega), sv_if_f (show ¬ y.toInt = 7 by omega), sv_if_f (show ¬ y.toInt = 8 by omega), sv_if_t e9, g1, pz_b]) (by unfold f_Mo_told; rw [mo_dr (n := n) (by rw [g2 31 (by decide)]; exact hV.1.1) ok.1, pz_b, pz_if1, if_pos hg, sv_if_f (show ¬ y.toInt = 0 by omega), sv_if_f (show ¬ y.toInt = 1 by omega), sv_if_f (show ¬ y.toInt = 2 by omega), sv_if_f (show ¬ y.toInt = 3 by omega), sv_if_f (show ¬ y.toInt = 4 by omega), sv_if_f (show ¬ y.toInt = 5 by omega), sv_if_f (show ¬ y.toInt = 6 by omega), sv_if_f (show ¬ y.toInt = 7 by omega), sv_if_f (show ¬ y.toInt = 8 by omega), sv_if_t e9, y1, pz_b]) (hτ.eM y2)
    by_cases e10 : y.toInt = 10
    · have ec := show σ 2 (10 * 0 + k) 2 = d k 2 from hC.1.at hkn 2 (by omega)
      have em := show σ 31 0 (6 + 8 * k + 2) = d k 2 from hV.1.2.2.2.2 k hkn 2 (by omega)
      have ek : f_Li_kindOf 0 (10 * 0 + k) σ = some (q, σ) := be_kindC hq (by rw [← eq]; exact hC.1.at hkn 0 (by omega))
      obtain ⟨u, hu, eu⟩ := (ok.2.2.1 k hkn).2.2.1
      by_cases e0' : d k 2 = 0
      · refine R_o (σ1 := σ) (by unfold f_On_told; rw [on_dr hC.1.1 ok.1, pz_b, pz_if1, if_pos hg, pz_in (by omega) (by omega), sv_if_f (show ¬ y.toInt = 0 by omega), sv_if_f (show ¬ y.toInt = 1 by omega), sv_if_f (show ¬ y.toInt = 2 by omega), sv_if_f (show ¬ y.toInt = 3 by omega), sv_if_f (show ¬ y.toInt = 4 by omega), sv_if_f (show ¬ y.toInt = 5 by omega), sv_if_f (show ¬ y.toInt = 6 by omega), sv_if_f (show ¬ y.toInt = 7 by omega), sv_if_f (show ¬ y.toInt = 8 by omega), sv_if_f (show ¬ y.toInt = 9 by omega), sv_if_t e10, pz_cl (by omega), ec, sv_if_t e0']) (by unfold f_Mo_told; rw [mo_dr (n := n) hV.1.1 ok.1, pz_b, pz_if1, if_pos hg, sv_if_f (show ¬ y.toInt = 0 by omega), sv_if_f (show ¬ y.toInt = 1 by omega), sv_if_f (show ¬ y.toInt = 2 by omega), sv_if_f (show ¬ y.toInt = 3 by omega), sv_if_f (show ¬ y.toInt = 4 by omega), sv_if_f (show ¬ y.toInt = 5 by omega), sv_if_f (show ¬ y.toInt = 6 by omega), sv_if_f (show ¬ y.toInt = 7 by omega), sv_if_f (show ¬ y.toInt = 8 by omega), sv_if_f (show ¬ y.toInt = 9 by omega), sv_if_t e10, mo_of2 (by omega), pz_b, em]; unfold f_Mo_stepFrom; rw [mo_of0 (by omega), pz_b, sv_if_t e0', pz_b, e0']) h
      · have hu1 : 1 ≤ u := by
          by_cases hu0 : u = 0
          · subst hu0; exact absurd eu e0'
          · omega
        exact R_o (v := be_sp b (nI u) (nI q)) (σ1 := σ) (by unfold f_On_told; rw [on_dr hC.1.1 ok.1, pz_b, pz_if1, if_pos hg, pz_in (by omega) (by omega), sv_if_f (show ¬ y.toInt = 0 by omega), sv_if_f (show ¬ y.toInt = 1 by omega), sv_if_f (show ¬ y.toInt = 2 by omega), sv_if_f (show ¬ y.toInt = 3 by omega), sv_if_f (show ¬ y.toInt = 4 by omega), sv_if_f (show ¬ y.toInt = 5 by omega), sv_if_f (show ¬ y.toInt = 6 by omega), sv_if_f (show ¬ y.toInt = 7 by omega), sv_if_f (show ¬ y.toInt = 8 by omega), sv_if_f (show ¬ y.toInt = 9 by omega), sv_if_t e10, pz_cl (by omega), ec, sv_if_f e0', ek, pz_b, ec, eu, show σ 1 0 5 = b from hC.1.2.1, be_stepC hq hu1 hu, pz_b]) (by unfold f_Mo_told; rw [mo_dr (n := n) hV.1.1 ok.1, pz_b, pz_if1, if_pos hg, sv_if_f (show ¬ y.toInt = 0 by omega), sv_if_f (show ¬ y.toInt = 1 by omega), sv_if_f (show ¬ y.toInt = 2 by omega), sv_if_f (show ¬ y.toInt = 3 by omega), sv_if_f (show ¬ y.toInt = 4 by omega), sv_if_f (show ¬ y.toInt = 5 by omega), sv_if_f (show ¬ y.toInt = 6 by omega), sv_if_f (show ¬ y.toInt = 7 by omega), sv_if_f (show ¬ y.toInt = 8 by omega), sv_if_f (show ¬ y.toInt = 9 by omega), sv_if_t e10, mo_of2 (by omega), pz_b, em, eu, mo_step (b := b) (q := q) (by omega) hq hu1 hu (by rw [← eq]; exact hV.1.2.2.2.2 k hkn 0 (by omega)) hV.1.2.1, pz_b]) h
    by_cases e11 : y.toInt = 11
    · have ek : f_Li_kindOf 0 (10 * 0 + k) σ = some (q, σ) := be_kindC hq (by rw [← eq]; exact hC.1.at hkn 0 (by omega))
      exact R_o (v := wo_q q (d k 1)) (σ1 := σ) (by unfold f_On_told; rw [on_dr hC.1.1 ok.1, pz_b, pz_if1, if_pos hg, pz_in (by omega) (by omega), sv_if_f (show ¬ y.toInt = 0 by omega), sv_if_f (show ¬ y.toInt = 1 by omega), sv_if_f (show ¬ y.toInt = 2 by omega), sv_if_f (show ¬ y.toInt = 3 by omega), sv_if_f (show ¬ y.toInt = 4 by omega), sv_if_f (show ¬ y.toInt = 5 by omega), sv_if_f (show ¬ y.toInt = 6 by omega), sv_if_f (show ¬ y.toInt = 7 by omega), sv_if_f (show ¬ y.toInt = 8 by omega), sv_if_f (show ¬ y.toInt = 9 by omega), sv_if_f (show ¬ y.toInt = 10 by omega), sv_if_t e11, pz_cl (by omega), ek, pz_b, show σ 2 (10 * 0 + k) 1 = d k 1 from hC.1.at hkn 1 (by omega), wo_C hq, pz_b]) (by unfold f_Mo_told; rw [mo_dr (n := n) hV.1.1 ok.1, pz_b, pz_if1, if_pos hg, sv_if_f (show ¬ y.toInt = 0 by omega), sv_if_f (show ¬ y.toInt = 1 by omega), sv_if_f (show ¬ y.toInt = 2 by omega), sv_if_f (show ¬ y.toInt = 3 by omega), sv_if_f (show ¬ y.toInt = 4 by omega), sv_if_f (show ¬ y.toInt = 5 by omega), sv_if_f (show ¬ y.toInt = 6 by omega), sv_if_f (show ¬ y.toInt = 7 by omega), sv_if_f (show ¬ y.toInt = 8 by omega), sv_if_f (show ¬ y.toInt = 9 by omega), sv_if_f (show ¬ y.toInt = 10 by omega), sv_if_t e11, wo_M (by omega) hq (by rw [← eq]; exact hV.1.2.2.2.2 k hkn 0 (by omega)) (hV.1.2.2.2.2 k hkn 1 (by omega)), pz_b]) h
    exact R_o (σ1 := σ) (by unfold f_On_told; rw [on_dr hC.1.1 ok.1, pz_b, pz_if1, if_pos hg, pz_in (by omega) (by omega), sv_if_f (show ¬ y.toInt = 0 by omega), sv_if_f (show ¬ y.toInt = 1 by omega), sv_if_f (show ¬ y.toInt = 2 by omega), sv_if_f (show ¬ y.toInt = 3 by omega), sv_if_f (show ¬ y.toInt = 4 by omega), sv_if_f (show ¬ y.toInt = 5 by omega), sv_if_f (show ¬ y.toInt = 6 by omega), sv_if_f (show ¬ y.toInt = 7 by omega), sv_if_f (show ¬ y.toInt = 8 by omega), sv_if_f (show ¬ y.toInt = 9 by omega), sv_if_f (show ¬ y.toInt = 10 by omega), sv_if_f (show ¬ y.toInt = 11 by omega)]) (by unfold f_Mo_told; rw [mo_dr (n := n) hV.1.1 ok.1, pz_b, pz_if1, if_pos hg, sv_if_f (show ¬ y.toInt = 0 by omega), sv_if_f (show ¬ y.toInt = 1 by omega), sv_if_f (show ¬ y.toInt = 2 by omega), sv_if_f (show ¬ y.toInt = 3 by omega), sv_if_f (show ¬ y.toInt = 4 by omega), sv_if_f (show ¬ y.toInt = 5 by omega), sv_if_f (show ¬ y.toInt = 6 by omega), sv_if_f (show ¬ y.toInt = 7 by omega), sv_if_f (show ¬ y.toInt = 8 by omega), sv_if_f (show ¬ y.toInt = 9 by omega), sv_if_f (show ¬ y.toInt = 10 by omega), sv_if_f (show ¬ y.toInt = 11 by omega)]) h
  · exact R_o (σ1 := σ) (by unfold f_On_told; rw [on_dr hC.1.1 ok.1, pz_b, pz_if1, if_neg hg]) (by unfold f_Mo_told; rw [mo_dr (n := n) hV.1.1 ok.1, pz_b, pz_if1, if_neg hg]) h

theorem R_as (x y : Int32) : R_m (f_On_as x y) (f_Mo_as x y) := by
  intro σ h
  obtain ⟨⟨n, nt, b, m, z, d, T, hC, hV, ok⟩, hX⟩ := id h
  have hn := ok.1
  by_cases hg : 0 ≤ x.toInt ∧ x.toInt ≤ (n : Int) - 1
  · by_cases hy : 0 ≤ y.toInt ∧ y.toInt ≤ 5
    · obtain ⟨k, rfl, hk, hk2⟩ := pz_nat hg.1
      obtain ⟨p, rfl, hp, hp2⟩ := pz_nat hy.1
      have hkn : k < n := by omega
      obtain ⟨q, hq, eq⟩ := (ok.2.2.1 k hkn).1
      have c0 := show σ 2 (10 * 0 + k) 0 = nI q by rw [← eq]; exact hC.1.at hkn 0 (by omega)
      have c1 := show σ 2 (10 * 0 + k) 1 = d k 1 from hC.1.at hkn 1 (by omega)
      have m0 := show σ 31 0 (6 + 8 * k + 0) = nI q by rw [← eq]; exact hV.1.2.2.2.2 k hkn 0 (by omega)
      have m1 := hV.1.2.2.2.2 k hkn 1 (by omega)
      exact R_o (σ1 := σ) (by unfold f_On_as; rw [on_dr hC.1.1 ok.1, pz_b, pz_if1, if_pos hg, on_kind, pz_b, pz_if1, if_pos hy, pz_in (by omega) (by omega), pz_cl (by omega), c0, of_C hq (by omega), pz_b, pz_if1, c1]; exact pz_ret) (by unfold f_Mo_as; rw [mo_dr (n := n) hV.1.1 ok.1, pz_b, pz_if1, if_pos hg, mo_w0_5, pz_b, pz_if1, if_pos hy, mo_of0 (by omega), pz_b, m0, of_M hq (by omega), pz_b, pz_if1, mo_of1 (by omega), pz_b, m1]; exact pz_ret) h
    · exact R_o (σ1 := σ) (by unfold f_On_as; rw [on_dr hC.1.1 ok.1, pz_b, pz_if1, if_pos hg, on_kind, pz_b, pz_if1, if_neg hy]) (by unfold f_Mo_as; rw [mo_dr (n := n) hV.1.1 ok.1, pz_b, pz_if1, if_pos hg, mo_w0_5, pz_b, pz_if1, if_neg hy]) h
  · exact R_o (σ1 := σ) (by unfold f_On_as; rw [on_dr hC.1.1 ok.1, pz_b, pz_if1, if_neg hg]) (by unfold f_Mo_as; rw [mo_dr (n := n) hV.1.1 ok.1, pz_b, pz_if1, if_neg hg]) h
theorem mo_bec {k j : Nat} (hk : k < 10) (hj : j < 8) {x v : Int32} (hx : x = nI (6 + 8 * k + j)) (σ : sv_S) : f_Mo_becomes x v σ = some (σ 31 0 (6 + 8 * k + j), sv_up σ 31 0 (6 + 8 * k + j) v) := by
  subst hx
  unfold f_Mo_becomes
  rw [pz_in (by omega) (by omega), pz_in (by omega) (by omega), pz_cl (by omega)]
theorem mo_ix0 (k : Nat) : (6 : Int32) + 8 * nI k = nI (6 + 8 * k + 0) := by
  rw [show (6 : Int32) + 8 * nI k = nI 6 + nI 8 * nI k from rfl, pk_mul, nI_add]; rfl
theorem R_turns (x y : Int32) : R_m (f_On_turns x y) (f_Mo_turns x y) := by
  intro σ h
  obtain ⟨⟨n, nt, b, m, z, d, T, hC, hV, ok⟩, hX⟩ := id h
  have hn := ok.1
  by_cases hg : 0 ≤ x.toInt ∧ x.toInt ≤ (n : Int) - 1
  · by_cases hy : 0 ≤ y.toInt ∧ y.toInt ≤ 5
    · obtain ⟨k, rfl, hk, hk2⟩ := pz_nat hg.1
      have hkn : k < n := by omega
      have c0 := show σ 2 (10 * 0 + k) 0 = d k 0 from hC.1.at hkn 0 (by omega)
      have m0 := hV.1.2.2.2.2 k hkn 0 (by omega)
      exact R_o (v := d k 0) (σ1 := sv_up σ 2 (10 * 0 + k) 0 y) (σ2 := sv_up (sv_up σ 2 (10 * 0 + k) 0 y) 31 0 (6 + 8 * k + 0) y) (by unfold f_On_turns; rw [on_dr hC.1.1 ok.1, pz_b, pz_if1, if_pos hg, on_kind, pz_b, pz_if1, if_pos hy, pz_in (by omega) (by omega), pz_cl (by omega), c0]) (by unfold f_Mo_turns; rw [mo_dr (n := n) (by rw [pz_ur (by decide)]; exact hV.1.1) ok.1, pz_b, pz_if1, if_pos hg, mo_w0_5, pz_b, pz_if1, if_pos hy, mo_bec (k := k) (j := 0) (by omega) (by omega) (mo_ix0 k), pz_b, pz_ur (by decide), m0]) (R_put (j := 0) hX hC hV ok hkn (by omega) (ok.2.2.1.u (fun _ => by
        obtain ⟨p, rfl, hp, hp2⟩ := pz_nat hy.1
        exact ⟨p, by omega, rfl⟩) (fun e => by cases e) (fun e => by cases e) (fun e => by cases e)) rfl)
    · exact R_o (σ1 := σ) (by unfold f_On_turns; rw [on_dr hC.1.1 ok.1, pz_b, pz_if1, if_pos hg, on_kind, pz_b, pz_if1, if_neg hy]) (by unfold f_Mo_turns; rw [mo_dr (n := n) hV.1.1 ok.1, pz_b, pz_if1, if_pos hg, mo_w0_5, pz_b, pz_if1, if_neg hy]) h
  · exact R_o (σ1 := σ) (by unfold f_On_turns; rw [on_dr hC.1.1 ok.1, pz_b, pz_if1, if_neg hg]) (by unfold f_Mo_turns; rw [mo_dr (n := n) hV.1.1 ok.1, pz_b, pz_if1, if_neg hg]) h

theorem R_set (x y w : Int32) : R_m (f_On_set x y w) (f_Mo_set x y w) := by
  intro σ h
  obtain ⟨⟨n, nt, b, m, z, d, T, hC, hV, ok⟩, hX⟩ := id h
  have hn := ok.1
  by_cases hg : 0 ≤ x.toInt ∧ x.toInt ≤ (n : Int) - 1
  · obtain ⟨k, rfl, hk, hk2⟩ := pz_nat hg.1
    have hkn : k < n := by omega
    have n1 : (y.toInt = 1) ↔ y = 1 := ((pz_eq y 1).symm)
    have n2 : (y.toInt = 2) ↔ y = 2 := ((pz_eq y 2).symm)
    have n3 : (y.toInt = 3) ↔ y = 3 := ((pz_eq y 3).symm)
    by_cases ey : y = 1
    · have c0 := show σ 2 (10 * 0 + k) 1 = d k 1 from hC.1.at hkn 1 (by omega)
      have m0 := hV.1.2.2.2.2 k hkn 1 (by omega)
      by_cases hw : 1 ≤ w.toInt ∧ w.toInt ≤ 9
      · exact R_o (v := d k 1) (σ1 := sv_up σ 2 (10 * 0 + k) 1 w) (σ2 := sv_up (sv_up σ 2 (10 * 0 + k) 1 w) 31 0 (6 + 8 * k + 1) w) (by unfold f_On_set; rw [on_dr hC.1.1 ok.1, pz_b, pz_if1, if_pos hg, pz_in (by omega) (by omega), pz_cl (by omega), sv_if_t ey, on_w1_9, pz_b, pz_if1, if_pos hw, c0]) (by unfold f_Mo_set; rw [mo_dr (n := n) (by rw [pz_ur (by decide)]; exact hV.1.1) ok.1, pz_b, pz_if1, if_pos hg, sv_if_t (n1.mpr ey), mo_w1_9, pz_b, pz_if1, if_pos hw, mo_bec (k := k) (j := 1) (by omega) (by omega) (show (6 : Int32) + 8 * nI k + 1 = nI (6 + 8 * k + 1) from mo_ix k 1), pz_b, pz_ur (by decide), m0]) (R_put (j := 1) hX hC hV ok hkn (by omega) (ok.2.2.1.u (fun e => by cases e) (fun _ => by
            obtain ⟨p, rfl, hp, hp2⟩ := pz_nat (a := w) (by omega)
            exact ⟨p, by omega, by omega, rfl⟩) (fun e => by cases e) (fun e => by cases e)) rfl)
      · exact R_o (σ1 := σ) (by unfold f_On_set; rw [on_dr hC.1.1 ok.1, pz_b, pz_if1, if_pos hg, pz_in (by omega) (by omega), pz_cl (by omega), sv_if_t ey, on_w1_9, pz_b, pz_if1, if_neg hw]; unfold f_On_set_57; rw [sv_if_f (by rw [ey]; decide)]; unfold f_On_set_88; rw [sv_if_f (by rw [ey]; decide)]) (by unfold f_Mo_set; rw [mo_dr (n := n) hV.1.1 ok.1, pz_b, pz_if1, if_pos hg, sv_if_t (n1.mpr ey), mo_w1_9, pz_b, pz_if1, if_neg hw]) h
    by_cases ey : y = 2
    · have c0 := show σ 2 (10 * 0 + k) 2 = d k 2 from hC.1.at hkn 2 (by omega)
      have m0 := hV.1.2.2.2.2 k hkn 2 (by omega)
      by_cases hw : 0 ≤ w.toInt ∧ w.toInt ≤ 9
      · exact R_o (v := d k 2) (σ1 := sv_up σ 2 (10 * 0 + k) 2 w) (σ2 := sv_up (sv_up σ 2 (10 * 0 + k) 2 w) 31 0 (6 + 8 * k + 2) w) (by unfold f_On_set; rw [on_dr hC.1.1 ok.1, pz_b, pz_if1, if_pos hg, pz_in (by omega) (by omega), pz_cl (by omega), sv_if_f (by rw [ey]; decide)]; unfold f_On_set_57; rw [sv_if_t ey, on_w0_9, pz_b, pz_if1, if_pos hw, c0]) (by unfold f_Mo_set; rw [mo_dr (n := n) (by rw [pz_ur (by decide)]; exact hV.1.1) ok.1, pz_b, pz_if1, if_pos hg, sv_if_f (fun e => by rw [n1, ey] at e; exact absurd e (by decide)), sv_if_t (n2.mpr ey), mo_w0_9, pz_b, pz_if1, if_pos hw, mo_bec (k := k) (j := 2) (by omega) (by omega) (show (6 : Int32) + 8 * nI k + 2 = nI (6 + 8 * k + 2) from mo_ix k 2), pz_b, pz_ur (by decide), m0]) (R_put (j := 2) hX hC hV ok hkn (by omega) (ok.2.2.1.u (fun e => by cases e) (fun e => by cases e) (fun _ => by
            obtain ⟨p, rfl, hp, hp2⟩ := pz_nat (a := w) (by omega)
            exact ⟨p, by omega, rfl⟩) (fun e => by cases e)) rfl)
      · exact R_o (σ1 := σ) (by unfold f_On_set; rw [on_dr hC.1.1 ok.1, pz_b, pz_if1, if_pos hg, pz_in (by omega) (by omega), pz_cl (by omega), sv_if_f (by rw [ey]; decide)]; unfold f_On_set_57; rw [sv_if_t ey, on_w0_9, pz_b, pz_if1, if_neg hw]; unfold f_On_set_88; rw [sv_if_f (by rw [ey]; decide)]) (by unfold f_Mo_set; rw [mo_dr (n := n) hV.1.1 ok.1, pz_b, pz_if1, if_pos hg, sv_if_f (fun e => by rw [n1, ey] at e; exact absurd e (by decide)), sv_if_t (n2.mpr ey), mo_w0_9, pz_b, pz_if1, if_neg hw]) h
    by_cases ey : y = 3
    · have c0 := show σ 2 (10 * 0 + k) 6 = d k 7 from hC.1.at hkn 7 (by omega)
      have m0 := hV.1.2.2.2.2 k hkn 7 (by omega)
      by_cases hw : 1 ≤ w.toInt ∧ w.toInt ≤ 3
      · exact R_o (v := d k 7) (σ1 := sv_up σ 2 (10 * 0 + k) 6 w) (σ2 := sv_up (sv_up σ 2 (10 * 0 + k) 6 w) 31 0 (6 + 8 * k + 7) w) (by unfold f_On_set; rw [on_dr hC.1.1 ok.1, pz_b, pz_if1, if_pos hg, pz_in (by omega) (by omega), pz_cl (by omega), sv_if_f (by rw [ey]; decide)]; unfold f_On_set_57; rw [sv_if_f (by rw [ey]; decide)]; unfold f_On_set_88; rw [sv_if_t ey, on_w1_3, pz_b, pz_if1, if_pos hw, c0]) (by unfold f_Mo_set; rw [mo_dr (n := n) (by rw [pz_ur (by decide)]; exact hV.1.1) ok.1, pz_b, pz_if1, if_pos hg, sv_if_f (fun e => by rw [n1, ey] at e; exact absurd e (by decide)), sv_if_f (fun e => by rw [n2, ey] at e; exact absurd e (by decide)), sv_if_t (n3.mpr ey), mo_w1_3, pz_b, pz_if1, if_pos hw, mo_bec (k := k) (j := 7) (by omega) (by omega) (show (6 : Int32) + 8 * nI k + 7 = nI (6 + 8 * k + 7) from mo_ix k 7), pz_b, pz_ur (by decide), m0]) (R_put (j := 7) hX hC hV ok hkn (by omega) (ok.2.2.1.u (fun e => by cases e) (fun e => by cases e) (fun e => by cases e) (fun _ => by
            obtain ⟨p, rfl, hp, hp2⟩ := pz_nat (a := w) (by omega)
            exact ⟨p, by omega, by omega, rfl⟩)) rfl)
      · exact R_o (σ1 := σ) (by unfold f_On_set; rw [on_dr hC.1.1 ok.1, pz_b, pz_if1, if_pos hg, pz_in (by omega) (by omega), pz_cl (by omega), sv_if_f (by rw [ey]; decide)]; unfold f_On_set_57; rw [sv_if_f (by rw [ey]; decide)]; unfold f_On_set_88; rw [sv_if_t ey, on_w1_3, pz_b, pz_if1, if_neg hw]) (by unfold f_Mo_set; rw [mo_dr (n := n) hV.1.1 ok.1, pz_b, pz_if1, if_pos hg, sv_if_f (fun e => by rw [n1, ey] at e; exact absurd e (by decide)), sv_if_f (fun e => by rw [n2, ey] at e; exact absurd e (by decide)), sv_if_t (n3.mpr ey), mo_w1_3, pz_b, pz_if1, if_neg hw]) h
    exact R_o (σ1 := σ) (by unfold f_On_set; rw [on_dr hC.1.1 ok.1, pz_b, pz_if1, if_pos hg, pz_in (by omega) (by omega), pz_cl (by omega), sv_if_f (by assumption)]; unfold f_On_set_57; rw [sv_if_f (by assumption)]; unfold f_On_set_88; rw [sv_if_f (by assumption)]) (by unfold f_Mo_set; rw [mo_dr (n := n) hV.1.1 ok.1, pz_b, pz_if1, if_pos hg, sv_if_f (fun e => by rw [n1] at e; contradiction), sv_if_f (fun e => by rw [n2] at e; contradiction), sv_if_f (fun e => by rw [n3] at e; contradiction)]) h
  · exact R_o (σ1 := σ) (by unfold f_On_set; rw [on_dr hC.1.1 ok.1, pz_b, pz_if1, if_neg hg]) (by unfold f_Mo_set; rw [mo_dr (n := n) hV.1.1 ok.1, pz_b, pz_if1, if_neg hg]) h
