/-! ===== pure: thoughts ===== -/
/-- strokes forgotten -/
def be_o (d : be_D) : be_D := fun k j => if j = 5 ∨ j = 6 then 0 else d k j
def be_ok2 (d : be_D) (k : Nat) : be_D := fun i j => if i < k ∧ (j = 5 ∨ j = 6) then 0 else d i j
theorem be_o_q (n : Nat) (d : be_D) : be_q n (be_o d) d := fun k _ j _ h5 h6 => by unfold be_o; rw [if_neg (by omega)]
theorem be_o_ok {n : Nat} {d : be_D} (h : be_ok n d) : be_ok n (be_o d) := by
  intro k hk
  obtain ⟨g0, g1, g2, g7⟩ := h k hk
  unfold be_o
  exact ⟨by simpa using g0, by simpa using g1, by simpa using g2, by simpa using g7⟩
/-- only thoughts (and what was found) of the class are others -/
def R_tC (σ τ : sv_S) : Prop := ∀ r i, r ≠ 20 → r ≠ 17 → ¬ ((r = 1 ∨ r = 4 ∨ r = 5) ∧ i = 2) → ¬ (r = 2 ∧ 20 ≤ i ∧ i < 30) → τ r i = σ r i
theorem R_tC.rfl' (σ : sv_S) : R_tC σ σ := fun _ _ _ _ _ _ => rfl
theorem R_tC.tr {σ τ υ : sv_S} (h : R_tC σ τ) (g : R_tC τ υ) : R_tC σ υ := fun r i a b c d => (g r i a b c d).trans (h r i a b c d)
theorem be_fC.t {σ τ : sv_S} (h : be_fC 2 σ τ) : R_tC σ τ := fun r i a _ c d => h r i a (fun q => d ⟨q.1, by omega, by omega⟩) (fun q => c ⟨Or.inl q.1, q.2⟩)
/-- only scratch of the reference -/
def R_tM (σ τ : sv_S) : Prop := τ 31 0 = σ 31 0 ∧ R_kM σ τ
theorem R_tC.L {σ τ : sv_S} (h : R_tC σ τ) {n nt : Nat} {b m z : Int32} {d : be_D} {T : Nat → tx_T} {a : Nat} (ha : a < 2) (hn : n ≤ 10) (c : li_C σ a n nt b m z d T) : li_C τ a n nt b m z d T :=
  c.to hn (h 1 a (by decide) (by decide) (by omega) (by omega)) (fun i _ _ => h 2 i (by decide) (by decide) (by omega) (by omega)) (h 4 a (by decide) (by decide) (by omega) (by omega)) (h 5 a (by decide) (by decide) (by omega) (by omega)) (funext fun i => h 18 i (by decide) (by decide) (by omega) (by omega)) (funext fun i => h 19 i (by decide) (by decide) (by omega) (by omega)) (funext fun i => h 22 i (by decide) (by decide) (by omega) (by omega))
theorem R_tC.k {σ τ : sv_S} (h : R_tC σ τ) : R_kC σ τ := fun r i a b _ d e => h r i a b (fun q => e ⟨q.1, Or.inr q.2⟩) d
theorem R_tC.A {σ τ : sv_S} (h : R_tC σ τ) (k : R_A σ) : R_A τ := by
  obtain ⟨⟨n, nt, b, m, z, d, T, hC, hV, ok⟩, hX⟩ := k
  exact ⟨⟨n, nt, b, m, z, d, T, h.L (by omega) ok.1 hC, by rw [h 31 0 (by decide) (by decide) (by omega) (by omega)]; exact hV, ok⟩, hX.C h.k⟩
theorem R_tM.A {σ τ : sv_S} (h : R_tM σ τ) (k : R_A σ) : R_A τ := by
  obtain ⟨⟨n, nt, b, m, z, d, T, hC, hV, ok⟩, hX⟩ := k
  have e : ∀ r, r ≠ 30 → r ≠ 31 → τ r = σ r := fun r a b => funext fun i => h.2.1 r i (fun q => b q.1) (fun q => a q.1)
  exact ⟨⟨n, nt, b, m, z, d, T, hC.to ok.1 (by rw [e 1 (by decide) (by decide)]) (fun i _ _ => by rw [e 2 (by decide) (by decide)]) (by rw [e 4 (by decide) (by decide)]) (by rw [e 5 (by decide) (by decide)]) (e 18 (by decide) (by decide)) (e 19 (by decide) (by decide)) (e 22 (by decide) (by decide)), by rw [h.1]; exact hV, ok⟩, hX.M h.2⟩
theorem be_ok2_0 (d : be_D) (i j : Nat) : be_ok2 d 0 i j = d i j := by unfold be_ok2; rw [if_neg (fun e => absurd e.1 (Nat.not_lt_zero i))]
theorem be_ok2_s {d : be_D} {k : Nat} (i j : Nat) : be_u (be_u (be_ok2 d k) k 5 0) k 6 0 i j = be_ok2 d (k + 1) i j := by
  unfold be_u be_ok2
  by_cases e : i = k
  · subst e
    by_cases h5 : j = 5
    · simp [h5]
    · by_cases h6 : j = 6
      · simp [h6]
      · simp [h5, h6]
  · have h1 : (i < k + 1) = (i < k) := by apply propext; omega
    simp [e, h1]
theorem cl_think13 {n nt : Nat} {b m z : Int32} {d : be_D} {T : Nat → tx_T} (hn : n ≤ 10) : ∀ (r k fuel : Nat) (σ : sv_S), k + r = n → r < fuel → li_C σ 2 n nt b m z (be_ok2 d k) T → ∃ σ', f_On_think_13 fuel (nI k) σ = some σ' ∧ li_C σ' 2 n nt b m z (be_ok2 d n) T ∧ R_tC σ σ' ∧ σ' 17 = σ 17 := by
  intro r
  induction r with
  | zero =>
    intro k fuel σ hk hf hC
    obtain ⟨f, rfl⟩ : ∃ f, fuel = f + 1 := ⟨fuel - 1, by omega⟩
    have hk : k = n := by omega
    subst hk
    exact ⟨σ, by rw [f_On_think_13, hC.1.1, sv_if_t (nI_le (Nat.le_refl k) (by omega))], hC, R_tC.rfl' σ, rfl⟩
  | succ r ih =>
    intro k fuel σ hk hf hC
    obtain ⟨f, rfl⟩ : ∃ f, fuel = f + 1 := ⟨fuel - 1, by omega⟩
    have c1 := hC.up (k := k) (j := 5) (v := 0) (by omega)
    have c2 := (c1.up (k := k) (j := 6) (v := 0) (by omega)).d (e := be_ok2 d (k + 1)) (fun i _ j _ => be_ok2_s i j)
    obtain ⟨σ', y1, y2, y3, y4⟩ := ih (k + 1) f _ (by omega) (by omega) c2
    refine ⟨σ', ?_, y2, fun r i h20 h17 h1 h2 => ?_, y4.trans (funext fun i => by rw [pz_up (by omega), pz_up (by omega)])⟩
    · rw [f_On_think_13, hC.1.1, sv_if_f (nI_ge (by omega) (by omega)), pz_in (by omega) (by omega), pz_cl (by omega), pz_in (by omega) (by omega), nI_1]
      exact y1
    · rw [y3 r i h20 h17 h1 h2, pz_up (fun e => h2 ⟨e.1, by omega, by omega⟩), pz_up (fun e => h2 ⟨e.1, by omega, by omega⟩)]
theorem cl_think7 {σ : sv_S} {n nt : Nat} {b m z : Int32} {d : be_D} {T : Nat → tx_T} (ok : li_ok n nt b d T) (hC : li_C σ 0 n nt b m z d T) : ∃ σ', f_On_think σ = some σ' ∧ li_C σ' 2 n nt b m z (be_o d) T ∧ R_tC σ σ' ∧ σ' 17 = σ 17 := by
  obtain ⟨τ, g1, g2, g3⟩ := cl_become (a := 2) (c := 0) (by omega) (by omega) (by omega) ok hC
  obtain ⟨υ, y1, y2, y3, y4⟩ := cl_think13 (d := d) ok.1 n 0 sv_fu τ (by omega) (by have := ok.1; unfold sv_fu; omega) (g2.d (fun k _ j _ => (be_ok2_0 d k j).symm))
  refine ⟨υ, by unfold f_On_think; rw [g1, pz_b0]; exact y1, y2.d (fun k hk j _ => by unfold be_ok2 be_o; simp [hk]), fun r i h20 h17 h1 h2 => ?_, y4.trans (funext fun i => g3 17 i (by omega) (by omega))⟩
  rw [y3 r i h20 h17 h1 h2]
  exact g3 r i h1 (fun q => h2 ⟨q.1, by omega, by omega⟩)
theorem cl_think {σ : sv_S} {n nt : Nat} {b m z : Int32} {d : be_D} {T : Nat → tx_T} (ok : li_ok n nt b d T) (hC : li_C σ 0 n nt b m z d T) : ∃ σ', f_On_think σ = some σ' ∧ li_C σ' 2 n nt b m z (be_o d) T ∧ R_tC σ σ' := by
  obtain ⟨σ', h1, h2, h3, _⟩ := cl_think7 ok hC
  exact ⟨σ', h1, h2, h3⟩
/-- the class's thought begins -/
theorem be_TC0 {σ : sv_S} {n nt : Nat} {b m z : Int32} {d e : be_D} {T : Nat → tx_T} (ok : li_ok n nt b d T) (hC : li_C σ 2 n nt b m z e T) : be_TC (li_f T 0 nt) (li_f T 1 nt) 2 n m b z e σ 0 σ := by
  have ok' : li_ok n nt b d T := ok
  have L : ∀ q, q < 3 → be_LC σ 2 q (li_f T q nt) := fun q hq => by
    obtain ⟨h1, h2, h3, h4⟩ := hC
    rcases li_tf T q nt with ⟨e1, e2⟩ | ⟨t, ht, tq, e2, e1⟩
    · rw [e1]
      show σ 5 2 q < 0
      rw [h4 q hq, e2]
      decide
    · rw [e1]
      obtain ⟨id, g1, g2, g3, g4, g5, g6⟩ := h3 t ht
      have w := ok'.2.2.2.2 t ht
      rw [tq] at w
      exact ⟨t, nt, id, (T t).2.1, (T t).2.2.1, (T t).2.2.2, by rw [h4 q hq, e2], ht, ok'.2.1, h2, g1, g2, g4, g5, g6, w, rfl⟩
  refine ⟨?_, L 0 (by omega), L 1 (by omega), be_fC.rfl' 2 σ, rfl⟩
  show be_C σ 2 n (b + nI 0) m z e
  rw [nI_0, Int32.add_zero]
  exact hC.1
theorem be_TM0 {σ : sv_S} {n nt : Nat} {b m z : Int32} {d e : be_D} {T : Nat → tx_T} (ok : li_ok n nt b d T) (hV : li_V (σ 31 0) n nt b m z e T) : be_TM (li_f T 0 nt) (li_f T 1 nt) n m b z e σ 0 σ := by
  have L : ∀ q, q < 3 → be_LM σ q (li_f T q nt) := fun q hq => by
    obtain ⟨h1, h2, h3⟩ := hV
    have hm : mo_li σ q nt = li_t T q nt := li_mo nt (fun t ht => ⟨(ok.2.2.2.2 t ht).1, (h3 t ht).1⟩) hq
    refine ⟨nt, ok.2.1, h2, ?_⟩
    rcases li_tf T q nt with ⟨e1, e2⟩ | ⟨t, ht, tq, e2, e1⟩
    · rw [e1]
      exact hm.trans e2
    · rw [e1]
      have w := ok.2.2.2.2 t ht
      have g := (h3 t ht).2.2.2
      rw [tq] at w g
      exact ⟨t, (T t).2.1, (T t).2.2.1, (T t).2.2.2, ht, hm.trans e2, (h3 t ht).2.2.1, g, w, rfl⟩
  refine ⟨?_, L 0 (by omega), L 1 (by omega), be_fT.rfl' σ⟩
  show be_M σ n (b + nI 0) m z e
  rw [nI_0, Int32.add_zero]
  exact hV.1
/-- the reference lays by, goes on, lays back -/
theorem mo_by {σ : sv_S} : pz_cp σ 0 13 86 31 0 = σ 31 0 := pz_cp_o (by omega)
theorem mo_bk {σ τ : sv_S} (h : be_fT (pz_cp σ 0 13 86) τ) : R_tM σ (pz_cp τ 13 0 86) := by
  refine ⟨?_, fun r i hr hs => ?_, fun j hj => ?_⟩
  · funext j
    by_cases hj : j < 86
    · rw [pz_cp_in hj, h.1 31 13 (by omega) (by omega), pz_cp_in hj]
    · rw [pz_cp_ge (by omega), h.2.1 j (by omega), mo_by]
  · rw [pz_cp_o (fun q => hr ⟨q.1, Or.inl q.2⟩), h.1 r i (fun q => hr ⟨q.1, by omega⟩) hs, pz_cp_o (fun q => hr ⟨q.1, by omega⟩)]
  · rw [pz_cp_o (by omega), h.2.2.2 j hj, pz_cp_o (by omega)]
section THK
variable {hr sr : be_F} {n : Nat} {m b z : Int32} {d e : be_D} {σ0 : sv_S}
/-- strokes of a thought, whoever forgets theirs -/
theorem be_TC.go2 {σ : sv_S} {i : Nat} (h : be_TC hr sr 2 n m b z e σ0 i σ) (hok : be_ok n d) (hq : be_q n e d) (hoe : be_ok n e) (hn : n ≤ 10) : ∃ σ', f_Li_passOne 2 σ = some (nI (be_ct (be_s hr sr n m b z d i) n), σ') ∧ be_TC hr sr 2 n m b z e σ0 (i + 1) σ' := by
  obtain ⟨σ', y1, y2⟩ := h.go hoe (by omega) hn
  rw [be_ct_congr n (fun k hk => be_q_s hq i hk)] at y1
  exact ⟨σ', y1, y2⟩
theorem be_n_congr {s s' : Nat → Nat → Bool} {k : Nat} : ∀ i, (∀ j, s j k = s' j k) → be_n s k i = be_n s' k i := by
  intro i h
  induction i with
  | zero => rfl
  | succ i ih => simp only [be_n]; rw [h i, ih]
theorem be_f_congr {s s' : Nat → Nat → Bool} {k : Nat} : ∀ i, (∀ j, s j k = s' j k) → be_f s k i = be_f s' k i := by
  intro i h
  induction i with
  | zero => rfl
  | succ i ih => simp only [be_f]; rw [h i, ih]
/-- so many beats -/
def be_su (s : Nat → Nat → Bool) (n : Nat) : Nat → Nat
  | 0 => 0
  | i + 1 => be_su s n i + be_ct (s i) n
theorem cl_pass {N : Nat} (hN : N ≤ 3000) (hok : be_ok n d) (hq : be_q n e d) (hoe : be_ok n e) (hn : n ≤ 10) : ∀ (r i fuel : Nat) (σ : sv_S), i + r = N → r < fuel → be_TC hr sr 2 n m b z e σ0 i σ → ∃ σ', f_Li_pass_4 fuel 2 (nI N) (nI (be_su (be_s hr sr n m b z d) n i)) (nI i) σ = some (nI (be_su (be_s hr sr n m b z d) n N), σ') ∧ be_TC hr sr 2 n m b z e σ0 N σ' := by
  intro r
  induction r with
  | zero =>
    intro i fuel σ hi hf hT
    obtain ⟨f, rfl⟩ : ∃ f, fuel = f + 1 := ⟨fuel - 1, by omega⟩
    have hi : i = N := by omega
    subst hi
    exact ⟨σ, by rw [f_Li_pass_4, sv_if_t (nI_le (Nat.le_refl i) (by omega))], hT⟩
  | succ r ih =>
    intro i fuel σ hi hf hT
    obtain ⟨f, rfl⟩ : ∃ f, fuel = f + 1 := ⟨fuel - 1, by omega⟩
    obtain ⟨τ, g1, g2⟩ := hT.go2 hok hq hoe hn
    obtain ⟨σ', y1, y2⟩ := ih (i + 1) f τ (by omega) (by omega) g2
    refine ⟨σ', ?_, y2⟩
    rw [f_Li_pass_4, sv_if_f (nI_ge (by omega) (by omega)), g1, pz_b, nI_add, nI_1]
    exact y1
/-- behind how many beats so many strike -/
def be_fw (c : Nat → Nat) (w : Nat) : Nat → Nat → Option Nat
  | 0, _ => none
  | r + 1, i => if c i < w then be_fw c w r (i + 1) else some (i + 1)
theorem be_fw_r (c : Nat → Nat) (w : Nat) : ∀ r i k, be_fw c w r i = some k → 1 ≤ k ∧ k ≤ i + r := by
  intro r
  induction r with
  | zero => intro i k h; cases h
  | succ r ih =>
    intro i k h
    simp only [be_fw] at h
    split at h
    · have := ih (i + 1) k h; omega
    · cases h; omega
def be_o1 (x : Option Nat) : Int32 := match x with
  | none => -1
  | some k => nI k
def be_op (x : Option Nat) : Int32 := match x with
  | none => -1000000005
  | some k => nI k
theorem cl_first {w : Nat} (hw : w ≤ 10) (hok : be_ok n d) (hq : be_q n e d) (hoe : be_ok n e) (hn : n ≤ 10) : ∀ (r i fuel : Nat) (σ : sv_S), i + r = 100 → r < fuel → be_TC hr sr 2 n m b z e σ0 i σ → ∃ σ', f_Li_firstWithStriking_2 fuel 2 (nI w) (nI (i + 1)) σ = some (be_op (be_fw (fun i => be_ct (be_s hr sr n m b z d i) n) w r i), σ') ∧ be_fC 2 σ0 σ' := by
  intro r
  induction r with
  | zero =>
    intro i fuel σ hi hf hT
    obtain ⟨f, rfl⟩ : ∃ f, fuel = f + 1 := ⟨fuel - 1, by omega⟩
    have hi : i = 100 := by omega
    subst hi
    exact ⟨σ, by rw [f_Li_firstWithStriking_2, sv_if_t (by decide)]; rfl, hT.2.2.2.1⟩
  | succ r ih =>
    intro i fuel σ hi hf hT
    obtain ⟨f, rfl⟩ : ∃ f, fuel = f + 1 := ⟨fuel - 1, by omega⟩
    obtain ⟨τ, g1, g2⟩ := hT.go2 hok hq hoe hn
    have hc := be_ct_le (be_s hr sr n m b z d i) n
    rw [f_Li_firstWithStriking_2, sv_if_f (show ¬ (100 : Int32) < nI (i + 1) from nI_nlt (b := i + 1) (a := 100) (by omega) (by omega)), g1, pz_b, nI_1]
    simp only [be_fw]
    by_cases e : be_ct (be_s hr sr n m b z d i) n < w
    · rw [sv_if_t (nI_lt e (by omega)), if_pos e]
      exact ih (i + 1) f τ (by omega) (by omega) g2
    · rw [sv_if_f (nI_nlt (by omega) (by omega)), if_neg e]
      exact ⟨τ, rfl, g2.2.2.2.1⟩
theorem mo_first {w : Nat} (hw : w ≤ 10) (hok : be_ok n d) (hn : n ≤ 10) : ∀ (r i fuel : Nat) (σ : sv_S), i + r = 100 → r + 1 < fuel → be_TM hr sr n m b z d σ0 i σ → ∃ σ', f_Mo_firstOf_8 fuel (nI w) (-1) (nI (i + 1)) σ = some (be_o1 (be_fw (fun i => be_ct (be_s hr sr n m b z d i) n) w r i), pz_cp σ' 13 0 86) ∧ be_fT σ0 σ' := by
  intro r
  induction r with
  | zero =>
    intro i fuel σ hi hf hT
    obtain ⟨f, rfl⟩ : ∃ f, fuel = f + 1 := ⟨fuel - 1, by omega⟩
    have hi : i = 100 := by omega
    subst hi
    exact ⟨σ, by rw [f_Mo_firstOf_8, sv_if_t (by decide), mo_laysBack, pz_b0]; rfl, hT.2.2.2⟩
  | succ r ih =>
    intro i fuel σ hi hf hT
    obtain ⟨f, rfl⟩ : ∃ f, fuel = f + 1 := ⟨fuel - 1, by omega⟩
    obtain ⟨τ, g1, g2, g3⟩ := hT.go hok hn
    have hc := be_ct_le (be_s hr sr n m b z d i) n
    rw [f_Mo_firstOf_8, sv_if_f (show ¬ (100 : Int32) < nI (i + 1) from nI_nlt (b := i + 1) (a := 100) (by omega) (by omega)), sv_if_f (by decide), g1, pz_b, be_ones _ hn, pz_b, nI_1]
    simp only [be_fw]
    by_cases e : be_ct (be_s hr sr n m b z d i) n < w
    · rw [sv_if_t (nI_lt e (by omega)), if_pos e]
      exact ih (i + 1) f τ (by omega) (by omega) g2
    · rw [sv_if_f (nI_nlt (by omega) (by omega)), if_neg e]
      obtain ⟨f2, rfl⟩ : ∃ f2, f = f2 + 1 := ⟨f - 1, by omega⟩
      refine ⟨τ, ?_, g2.2.2.2⟩
      rw [f_Mo_firstOf_8]
      by_cases e2 : (100 : Int32) < nI (i + 1 + 1)
      · rw [sv_if_t e2, mo_laysBack, pz_b0]; rfl
      · rw [sv_if_f e2, sv_if_t (nI_pos' (by omega)), mo_laysBack, pz_b0]; rfl
end THK
theorem mo_orN (x : Option Nat) (h : ∀ k, x = some k → k < 2147483648) (σ : sv_S) : f_Mo_orNone (be_o1 x) σ = some (be_op x, σ) := by
  unfold f_Mo_orNone
  cases x with
  | none => rw [sv_if_f (show ¬ (0 : Int32) ≤ be_o1 none by decide)]; rfl
  | some k => rw [sv_if_t (show (0 : Int32) ≤ be_o1 (some k) from nI_pos' (h k rfl))]; rfl
theorem R_firstG {w : Nat} {σ : sv_S} (h : R_A σ) {n nt : Nat} {b m z : Int32} {d : be_D} {T : Nat → tx_T} (hC : li_C σ 0 n nt b m z d T) (hV : li_V (σ 31 0) n nt b m z d T) (ok : li_ok n nt b d T) (hw : w ≤ 10) : ∃ (σ1 σ2 σ3 : sv_S) (x : Option Nat) (k : ∀ k, x = some k → k < 2147483648), f_On_think σ = some σ1 ∧ f_Li_firstWithStriking 2 (nI w) σ1 = some (be_op x, σ2) ∧ f_Mo_firstOf (nI w) σ2 = some (be_o1 x, σ3) ∧ R_tC σ σ1 ∧ R_tC σ1 σ2 ∧ R_A σ3 := by
  obtain ⟨τ, g1, g2, g3⟩ := cl_think ok hC
  have hT := be_TC0 ok g2
  obtain ⟨υ, y1, y2⟩ := cl_first hw ok.2.2.1 (be_o_q n d) (be_o_ok ok.2.2.1) ok.1 100 0 sv_fu τ (by omega) (by unfold sv_fu; omega) hT
  have hk : R_tC σ υ := g3.tr y2.t
  have e31 : υ 31 0 = σ 31 0 := hk 31 0 (by decide) (by decide) (by omega) (by omega)
  have hV2 : li_V (pz_cp υ 0 13 86 31 0) n nt b m z d T := by rw [mo_by, e31]; exact hV
  obtain ⟨ω, x1, x2⟩ := mo_first hw ok.2.2.1 ok.1 100 0 sv_fu (pz_cp υ 0 13 86) (by omega) (by unfold sv_fu; omega) (be_TM0 ok hV2)
  refine ⟨τ, υ, pz_cp ω 13 0 86, _, ?_, g1, y1, ?_, g3, y2.t, (mo_bk x2).A (hk.A h)⟩
  · intro k hk
    have := be_fw_r _ _ _ _ _ hk
    omega
  · unfold f_Mo_firstOf
    rw [mo_laysBy, pz_b0]
    exact x1
theorem R_soon : R_m f_On_soon f_Mo_soon := by
  intro σ h
  obtain ⟨⟨n, nt, b, m, z, d, T, hC, hV, ok⟩, hX⟩ := id h
  obtain ⟨σ1, σ2, σ3, x, hx, g1, g2, g3, g4, g5, g6⟩ := R_firstG (w := 1) h hC hV ok (by omega)
  refine R_o (v := be_op x) (σ1 := σ2) (σ2 := σ3) ?_ ?_ g6
  · unfold f_On_soon
    rw [g1, pz_b0, show f_Li_firstWithStriking 2 (1 : Int32) σ1 = some (be_op x, σ2) from g2, pz_b]
  · unfold f_Mo_soon
    rw [show f_Mo_firstOf (1 : Int32) σ2 = some (be_o1 x, σ3) from g3, pz_b, mo_orN x hx, pz_b]
theorem R_all : R_m f_On_all f_Mo_all := by
  intro σ h
  obtain ⟨⟨n, nt, b, m, z, d, T, hC, hV, ok⟩, hX⟩ := id h
  have hn := ok.1
  by_cases h0 : n = 0
  · subst h0
    exact R_o (σ1 := σ) (σ2 := σ) (by unfold f_On_all; rw [hC.1.1, sv_if_t (show nI 0 = (0 : Int32) from rfl)]) (by unfold f_Mo_all; rw [pz_i0 _ (by omega), show σ 31 0 ((0 : Int32).toNatClampNeg) = nI 0 from hV.1.1, sv_if_t (show nI 0 = (0 : Int32) from rfl)]) h
  · obtain ⟨σ1, σ2, σ3, x, hx, g1, g2, g3, g4, g5, g6⟩ := R_firstG (w := n) h hC hV ok hn
    have hk := g4.tr g5
    refine R_o (v := be_op x) (σ1 := σ2) (σ2 := σ3) ?_ ?_ g6
    · unfold f_On_all
      rw [hC.1.1, sv_if_f (nI_ne0 (by omega) (by omega)), g1, pz_b0, g4 1 0 (by decide) (by decide) (by omega) (by omega), hC.1.1, g2, pz_b]
    · unfold f_Mo_all
      rw [pz_i0 _ (by omega), show σ2 31 0 ((0 : Int32).toNatClampNeg) = nI n by rw [hk 31 0 (by decide) (by decide) (by omega) (by omega)]; exact hV.1.1, sv_if_f (nI_ne0 (by omega) (by omega)), pz_i0 _ (by omega), g3, pz_b, mo_orN x hx, pz_b]
