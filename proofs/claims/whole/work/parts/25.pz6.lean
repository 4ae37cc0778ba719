/-! ===== pure: the reference's goesOn ===== -/
/-- the reference's line -/
def be_M (σ : sv_S) (n : Nat) (b m z : Int32) (d : be_D) : Prop := σ 31 0 0 = nI n ∧ σ 31 0 3 = b ∧ σ 31 0 2 = m ∧ σ 31 0 4 = z ∧ ∀ k, k < n → ∀ j, j < 8 → σ 31 0 (6 + 8 * k + j) = d k j
def mo_li (σ : sv_S) (q : Nat) : Nat → Int32
  | 0 => -1
  | t + 1 => if σ 31 0 (86 + 200 * t) = nI q then nI t else mo_li σ q t
def be_LM (σ : sv_S) (q : Nat) (f : be_F) : Prop := ∃ nt : Nat, nt ≤ 14 ∧ σ 31 0 1 = nI nt ∧ match f with
  | none => mo_li σ q nt = -1
  | some g => ∃ t ops len : Nat, ∃ cd : Nat → Int32, t < nt ∧ mo_li σ q nt = nI t ∧ σ 31 0 (88 + 200 * t) = nI len ∧ (∀ j, j < len → σ 31 0 (90 + 200 * t + 2 * j) = tx_wh (cd j) ∧ σ 31 0 (91 + 200 * t + 2 * j) = tx_vl q (cd j)) ∧ tx_w q ops len cd ∧ g = fun x y w => tx_a cd x y w len 0
/-- all but the reference's scratch -/
def be_eM (σ τ : sv_S) : Prop := ∀ r i, ¬ (r = 31 ∧ (i = 28 ∨ i = 29)) → τ r i = σ r i
theorem be_eM.rfl' (σ : sv_S) : be_eM σ σ := fun _ _ _ => rfl
theorem be_eM.tr {σ τ υ : sv_S} (h : be_eM σ τ) (g : be_eM τ υ) : be_eM σ υ := fun r i hr => (g r i hr).trans (h r i hr)
theorem be_eM.s {σ τ : sv_S} (h : be_eM σ τ) : τ 31 0 = σ 31 0 := h 31 0 (fun q => by rcases q.2 with e | e <;> cases e)
theorem mo_li_eq {σ τ : sv_S} {q : Nat} : ∀ nt, (∀ t, t < nt → τ 31 0 (86 + 200 * t) = σ 31 0 (86 + 200 * t)) → mo_li τ q nt = mo_li σ q nt := by
  intro nt
  induction nt with
  | zero => intro _; rfl
  | succ t ih => intro h; simp only [mo_li]; rw [h t (by omega), ih (fun u hu => h u (by omega))]
theorem be_LM.to {σ τ : sv_S} {q : Nat} {f : be_F} (h : be_LM σ q f) (e1 : τ 31 0 1 = σ 31 0 1) (e : ∀ j, 86 ≤ j → τ 31 0 j = σ 31 0 j) : be_LM τ q f := by
  obtain ⟨nt, h1, h2, h3⟩ := h
  refine ⟨nt, h1, e1.trans h2, ?_⟩
  have hl : mo_li τ q nt = mo_li σ q nt := mo_li_eq nt (fun t _ => e _ (by omega))
  cases f with
  | none => exact hl.trans h3
  | some g =>
    obtain ⟨t, ops, len, cd, g1, g2, g3, g4, g5, g6⟩ := h3
    exact ⟨t, ops, len, cd, g1, hl.trans g2, (e _ (by omega)).trans g3, fun j hj => ⟨(e _ (by omega)).trans (g4 j hj).1, (e _ (by omega)).trans (g4 j hj).2⟩, g5, g6⟩
theorem be_eM.L {σ τ : sv_S} (h : be_eM σ τ) {q : Nat} {f : be_F} (c : be_LM σ q f) : be_LM τ q f := c.to (by rw [h.s]) (fun j _ => by rw [h.s])
theorem be_eM.M {σ τ : sv_S} (h : be_eM σ τ) {n : Nat} {b m z : Int32} {d : be_D} (c : be_M σ n b m z d) : be_M τ n b m z d := by
  unfold be_M at *
  rw [h.s]
  exact c
theorem mo_ix (k j : Nat) : (6 : Int32) + 8 * nI k + nI j = nI (6 + 8 * k + j) := by
  rw [show (6 : Int32) + 8 * nI k + nI j = nI 6 + nI 8 * nI k + nI j from rfl, pk_mul, nI_add, nI_add]
theorem mo_of {k j : Nat} {x : Int32} (hx : x = nI j) (hk : k < 10) (hj : j < 8) (σ : sv_S) : f_Mo_of (nI k) x σ = some (σ 31 0 (6 + 8 * k + j), σ) := by
  subst hx
  unfold f_Mo_of
  rw [mo_ix, pz_in (by omega) (by omega), pz_cl (by omega)]
theorem mo_sets {k j : Nat} {x v : Int32} (hx : x = nI j) (hk : k < 10) (hj : j < 8) (σ : sv_S) : f_Mo_sets (nI k) x v σ = some (sv_up σ 31 0 (6 + 8 * k + j) v) := by
  subst hx
  unfold f_Mo_sets
  rw [mo_ix, pz_in (by omega) (by omega), pz_cl (by omega)]
theorem mo_of0 {k : Nat} (hk : k < 10) (σ : sv_S) : f_Mo_of (nI k) (0 : Int32) σ = some (σ 31 0 (6 + 8 * k + 0), σ) := mo_of (j := 0) rfl hk (by omega) σ
theorem mo_sets0 {k : Nat} {v : Int32} (hk : k < 10) (σ : sv_S) : f_Mo_sets (nI k) (0 : Int32) v σ = some (sv_up σ 31 0 (6 + 8 * k + 0) v) := mo_sets (j := 0) rfl hk (by omega) σ
theorem mo_of1 {k : Nat} (hk : k < 10) (σ : sv_S) : f_Mo_of (nI k) (1 : Int32) σ = some (σ 31 0 (6 + 8 * k + 1), σ) := mo_of (j := 1) rfl hk (by omega) σ
theorem mo_sets1 {k : Nat} {v : Int32} (hk : k < 10) (σ : sv_S) : f_Mo_sets (nI k) (1 : Int32) v σ = some (sv_up σ 31 0 (6 + 8 * k + 1) v) := mo_sets (j := 1) rfl hk (by omega) σ
theorem mo_of2 {k : Nat} (hk : k < 10) (σ : sv_S) : f_Mo_of (nI k) (2 : Int32) σ = some (σ 31 0 (6 + 8 * k + 2), σ) := mo_of (j := 2) rfl hk (by omega) σ
theorem mo_sets2 {k : Nat} {v : Int32} (hk : k < 10) (σ : sv_S) : f_Mo_sets (nI k) (2 : Int32) v σ = some (sv_up σ 31 0 (6 + 8 * k + 2) v) := mo_sets (j := 2) rfl hk (by omega) σ
theorem mo_of3 {k : Nat} (hk : k < 10) (σ : sv_S) : f_Mo_of (nI k) (3 : Int32) σ = some (σ 31 0 (6 + 8 * k + 3), σ) := mo_of (j := 3) rfl hk (by omega) σ
theorem mo_sets3 {k : Nat} {v : Int32} (hk : k < 10) (σ : sv_S) : f_Mo_sets (nI k) (3 : Int32) v σ = some (sv_up σ 31 0 (6 + 8 * k + 3) v) := mo_sets (j := 3) rfl hk (by omega) σ
theorem mo_of4 {k : Nat} (hk : k < 10) (σ : sv_S) : f_Mo_of (nI k) (4 : Int32) σ = some (σ 31 0 (6 + 8 * k + 4), σ) := mo_of (j := 4) rfl hk (by omega) σ
theorem mo_sets4 {k : Nat} {v : Int32} (hk : k < 10) (σ : sv_S) : f_Mo_sets (nI k) (4 : Int32) v σ = some (sv_up σ 31 0 (6 + 8 * k + 4) v) := mo_sets (j := 4) rfl hk (by omega) σ
theorem mo_of5 {k : Nat} (hk : k < 10) (σ : sv_S) : f_Mo_of (nI k) (5 : Int32) σ = some (σ 31 0 (6 + 8 * k + 5), σ) := mo_of (j := 5) rfl hk (by omega) σ
theorem mo_sets5 {k : Nat} {v : Int32} (hk : k < 10) (σ : sv_S) : f_Mo_sets (nI k) (5 : Int32) v σ = some (sv_up σ 31 0 (6 + 8 * k + 5) v) := mo_sets (j := 5) rfl hk (by omega) σ
theorem mo_of6 {k : Nat} (hk : k < 10) (σ : sv_S) : f_Mo_of (nI k) (6 : Int32) σ = some (σ 31 0 (6 + 8 * k + 6), σ) := mo_of (j := 6) rfl hk (by omega) σ
theorem mo_sets6 {k : Nat} {v : Int32} (hk : k < 10) (σ : sv_S) : f_Mo_sets (nI k) (6 : Int32) v σ = some (sv_up σ 31 0 (6 + 8 * k + 6) v) := mo_sets (j := 6) rfl hk (by omega) σ
theorem mo_of7 {k : Nat} (hk : k < 10) (σ : sv_S) : f_Mo_of (nI k) (7 : Int32) σ = some (σ 31 0 (6 + 8 * k + 7), σ) := mo_of (j := 7) rfl hk (by omega) σ
theorem mo_sets7 {k : Nat} {v : Int32} (hk : k < 10) (σ : sv_S) : f_Mo_sets (nI k) (7 : Int32) v σ = some (sv_up σ 31 0 (6 + 8 * k + 7) v) := mo_sets (j := 7) rfl hk (by omega) σ
theorem mo_cnt4 {σ : sv_S} {nt q : Nat} (h1 : σ 31 0 1 = nI nt) (hnt : nt ≤ 14) : ∀ (r t fuel : Nat), t + r = nt → r < fuel → f_Mo_counts_4 fuel (nI q) (mo_li σ q t) (nI t) σ = some (mo_li σ q nt, σ) := by
  intro r
  induction r with
  | zero =>
    intro t fuel ht hf
    obtain ⟨f, rfl⟩ : ∃ f, fuel = f + 1 := ⟨fuel - 1, by omega⟩
    have ht : t = nt := by omega
    subst ht
    rw [f_Mo_counts_4, sv_g_t ⟨by decide, by decide⟩, show σ 31 0 ((1 : Int32).toNatClampNeg) = nI t from h1, sv_if_t (nI_le (Nat.le_refl t) (by omega))]
  | succ r ih =>
    intro t fuel ht hf
    obtain ⟨f, rfl⟩ : ∃ f, fuel = f + 1 := ⟨fuel - 1, by omega⟩
    have h := ih (t + 1) f (by omega) (by omega)
    rw [f_Mo_counts_4, sv_g_t ⟨by decide, by decide⟩, show σ 31 0 ((1 : Int32).toNatClampNeg) = nI nt from h1, sv_if_f (nI_ge (by omega) (by omega)), mo_textAt, pz_b, pz_in (by omega) (by omega), pz_cl (by omega), nI_1]
    simp only [mo_li] at h
    by_cases hq : σ 31 0 (86 + 200 * t) = nI q
    · rw [sv_if_t hq]; rw [if_pos hq] at h; exact h
    · rw [sv_if_f hq]; rw [if_neg hq] at h; exact h
theorem mo_cnt {σ : sv_S} {nt q : Nat} (h1 : σ 31 0 1 = nI nt) (hnt : nt ≤ 14) : f_Mo_counts (nI q) σ = some (mo_li σ q nt, σ) := mo_cnt4 h1 hnt nt 0 sv_fu (by omega) (by unfold sv_fu; omega)
section BEM
variable {σ : sv_S} {n : Nat} {b m z : Int32} {d : be_D}
theorem be_M.at (h : be_M σ n b m z d) {k : Nat} (hk : k < n) (j : Nat) (hj : j < 8) : σ 31 0 (6 + 8 * k + j) = d k j := h.2.2.2.2 k hk j hj
theorem mo_agoC {k q : Nat} (hk : k < 10) (h1 : 1 ≤ q) (h3 : q ≤ 3) (σ : sv_S) : f_Mo_ago (nI k) (nI q - (1 : Int32)) σ = some (if nI q = 1 then σ 31 0 (6 + 8 * k + 2) else if nI q = 2 then σ 31 0 (6 + 8 * k + 3) else σ 31 0 (6 + 8 * k + 4), σ) := by
  unfold f_Mo_ago
  have h : q = 1 ∨ q = 2 ∨ q = 3 := by omega
  rcases h with rfl | rfl | rfl
  · rw [mo_of (j := 2) (by decide) hk (by omega), pz_b, if_pos (by decide)]
  · rw [mo_of (j := 3) (by decide) hk (by omega), pz_b, if_neg (by decide), if_pos (by decide)]
  · rw [mo_of (j := 4) (by decide) hk (by omega), pz_b, if_neg (by decide), if_neg (by decide)]
theorem mo_left (h : be_M σ n b m z d) (hok : be_ok n d) (hn : n ≤ 10) {k : Nat} (hk : k < n) : f_Mo_left (nI k) σ = some (be_lf d k, σ) := by
  unfold f_Mo_left be_lf
  by_cases h0 : k = 0
  · subst h0
    rw [sv_if_t (by decide), if_pos rfl]
  · have e : nI k - (1 : Int32) = nI (k - 1) := pk_sub (b := 1) (by omega)
    have hk1 : k - 1 < n := by omega
    obtain ⟨q, q1, q3, hq⟩ := (hok (k - 1) hk1).2.2.2
    rw [sv_if_f (nI_ne0 (by omega) (by omega)), e, mo_of7 (by omega), pz_b, h.at hk1 7 (by omega), hq, mo_agoC (by omega) q1 q3, pz_b, if_neg h0, h.at hk1 2 (by omega), h.at hk1 3 (by omega), h.at hk1 4 (by omega)]
    rfl
theorem mo_right (h : be_M σ n b m z d) (hok : be_ok n d) (hn : n ≤ 10) {k : Nat} (hk : k < n) : f_Mo_right (nI k) σ = some (be_rt n d k, σ) := by
  unfold f_Mo_right be_rt
  rw [pz_i0 _ (by omega), show σ 31 0 ((0 : Int32).toNatClampNeg) = nI n from h.1, nI_1]
  by_cases h0 : k + 1 = n
  · rw [sv_if_t (by rw [h0]), if_pos h0]
  · obtain ⟨q, q1, q3, hq⟩ := (hok k hk).2.2.2
    have hk1 : k + 1 < n := by omega
    rw [sv_if_f (fun e => h0 ((nI_eq (by omega) (by omega)).mp e)), mo_of7 (by omega), pz_b, h.at hk 7 (by omega), hq, mo_agoC (by omega) q1 q3, pz_b, if_neg h0, h.at hk1 2 (by omega), h.at hk1 3 (by omega), h.at hk1 4 (by omega)]
    rfl
theorem mo_worked {q : Nat} {g : Int32 → Int32 → Int32 → Int32} (hL : be_LM σ q (some g)) {τ : sv_S} (e : be_eM σ τ) {x y w : Int32} (h0 : τ 31 28 (tx_l q 0) = x) (h1 : τ 31 28 (tx_l q 1) = y) (h2 : q < 2 → τ 31 28 (tx_l q 2) = w) : ∃ t : Nat, t < 14 ∧ f_Mo_counts (nI q) σ = some (nI t, σ) ∧ ∃ τ', f_Mo_worked (nI t) τ = some (g x y w, τ') ∧ be_eM σ τ' := by
  obtain ⟨nt, n1, n2, t, ops, len, cd, g1, g2, g3, g4, g5, rfl⟩ := hL
  obtain ⟨τ', y1, y2⟩ := tx_runM (t := t) (a := x) (b := y) (c := w) g5 (by omega) len 0 sv_fu τ (by omega) (by have := g5.2.2.1; unfold sv_fu; omega) (by rw [e.s]; exact g3) (fun j hj => by rw [e.s]; exact g4 j hj) h0 h1 h2 (fun i hi => absurd hi (Nat.not_lt_zero _))
  refine ⟨t, by omega, by rw [mo_cnt n2 n1, g2], τ', y1, fun r i hri => ?_⟩
  rw [y2 r i (fun q => hri ⟨q.1, Or.inr q.2⟩), e r i hri]
theorem mo_cntN {q : Nat} (hL : be_LM σ q none) : f_Mo_counts (nI q) σ = some (-1, σ) := by
  obtain ⟨nt, n1, n2, h⟩ := hL
  rw [mo_cnt n2 n1, h]
theorem mo_nm {σ τ : sv_S} (e : be_eM σ τ) (k : Nat) (v : Int32) : be_eM σ (sv_up τ 31 28 k v) := fun r i h => by rw [pz_up (fun q => h ⟨q.1, Or.inl q.2⟩), e r i h]
theorem mo_hears {hr : be_F} (h : be_M σ n b m z d) (hok : be_ok n d) (hl : be_LM σ 0 hr) (hn : n ≤ 10) {k : Nat} (hk : k < n) : ∃ σ', f_Mo_hears (nI k) σ = some (if be_hr hr n d k then 1 else 0, σ') ∧ be_eM σ σ' := by
  unfold f_Mo_hears be_hr
  rw [mo_of0 (by omega), pz_b, h.at hk 0 (by omega)]
  by_cases h5 : d k 0 = 5
  · rw [sv_if_t h5, if_pos h5, mo_left h hok hn hk, pz_b]
    refine ⟨σ, ?_, be_eM.rfl' σ⟩
    by_cases h1 : 0 < be_lf d k
    · rw [sv_if_f (Int32.not_le.mpr h1), pz_11]; simp [h1]
    · rw [sv_if_t (Int32.not_lt.mp h1), pz_01]; simp [h1]
  · rw [sv_if_f h5, if_neg h5]
    cases hr with
    | none =>
      rw [show f_Mo_counts (0 : Int32) σ = some (-1, σ) from mo_cntN (q := 0) hl, pz_b, sv_if_f (by decide), mo_left h hok hn hk, pz_b]
      refine ⟨σ, ?_, be_eM.rfl' σ⟩
      by_cases h1 : 0 < be_lf d k
      · rw [sv_if_t h1, pz_11]; simp [h1]
      · by_cases h2 : 0 < be_rt n d k
        · rw [sv_if_f h1, mo_right h hok hn hk, pz_b, sv_if_f (Int32.not_le.mpr h2), pz_11]; simp [h2]
        · rw [sv_if_f h1, mo_right h hok hn hk, pz_b, sv_if_t (Int32.not_lt.mp h2), pz_01]; simp [h1, h2]
    | some g =>
      have e1 : be_eM σ (sv_up σ 31 28 108 (be_lf d k)) := mo_nm (be_eM.rfl' σ) _ _
      have e3 : be_eM σ (sv_up (sv_up (sv_up σ 31 28 108 (be_lf d k)) 31 28 114 (be_rt n d k)) 31 28 110 (nI k)) := mo_nm (mo_nm e1 _ _) _ _
      obtain ⟨t, ht, c1, τ', c2, c3⟩ := mo_worked (x := be_lf d k) (y := be_rt n d k) (w := nI k) hl e3 (by show sv_up _ 31 28 110 _ 31 28 108 = _; rw [pz_uk (by decide), pz_uk (by decide), pz_us]) (by show sv_up _ 31 28 110 _ 31 28 114 = _; rw [pz_uk (by decide), pz_us]) (fun _ => pz_us _ _ _ _ _)
      rw [show f_Mo_counts (0 : Int32) σ = some (nI t, σ) from c1, pz_b, sv_if_t (nI_pos' (by omega)), mo_left h hok hn hk, pz_b, sv_g_t ⟨by decide, by decide⟩]
      rw [mo_right (σ := sv_up σ 31 28 ((108 : Int32).toNatClampNeg) (be_lf d k)) (e1.M h) hok hn hk, pz_b, sv_g_t ⟨by decide, by decide⟩, sv_g_t ⟨by decide, by decide⟩]
      rw [show f_Mo_worked (nI t) (sv_up (sv_up (sv_up σ 31 28 ((108 : Int32).toNatClampNeg) (be_lf d k)) 31 28 ((114 : Int32).toNatClampNeg) (be_rt n d k)) 31 28 ((110 : Int32).toNatClampNeg) (nI k)) = some (g (be_lf d k) (be_rt n d k) (nI k), τ') from c2, pz_b]
      refine ⟨τ', ?_, c3⟩
      by_cases h1 : g (be_lf d k) (be_rt n d k) (nI k) = 0
      · rw [sv_if_t h1, pz_01]; simp [h1]
      · rw [sv_if_f h1, pz_11]; simp [h1]
theorem mo_held (x : Int32) (σ : sv_S) : f_Mo_held x (1 : Int32) (9 : Int32) σ = some (be_cl x, σ) := by
  unfold f_Mo_held be_cl
  by_cases h1 : x < 1
  · rw [sv_if_f (Int32.not_le.mpr h1), if_pos h1]
  · by_cases h9 : 9 < x
    · rw [sv_if_t (Int32.not_lt.mp h1), sv_if_f (Int32.not_le.mpr h9), if_neg h1, if_pos h9]
    · rw [sv_if_t (Int32.not_lt.mp h1), sv_if_t (Int32.not_lt.mp h9), if_neg h1, if_neg h9]
theorem mo_ti {q j : Nat} {i : Int} (hq : q < 6) (hi : i = (j : Int)) : ((nI q).toInt = i) ↔ q = j := by
  rw [pz_ti (by omega), hi]
  omega
theorem mo_wk63 {k q : Nat} (hk : k < 10) (hq : q < 6) {p : Int32} {τ : sv_S} (h : τ 31 0 (6 + 8 * k + 0) = nI q) : f_Mo_wakes_63 (nI k) p τ = some (if nI q = 2 then be_cl (p + 1) else if nI q = 3 then be_cl (p - 1) else if nI q = 4 then be_cl (p + 1) else p, τ) := by
  unfold f_Mo_wakes_63
  rw [mo_of0 hk, pz_b, h]
  match q, hq with
  | 0, _ => rw [sv_if_f (by decide), sv_if_f (by decide), sv_if_f (by decide)]; rfl
  | 1, _ => rw [sv_if_f (by decide), sv_if_f (by decide), sv_if_f (by decide)]; rfl
  | 2, _ => rw [sv_if_t (by decide), mo_held, pz_b]; rfl
  | 3, _ => rw [sv_if_f (by decide), sv_if_t (by decide), mo_held, pz_b]; rfl
  | 4, _ => rw [sv_if_f (by decide), sv_if_f (by decide), sv_if_t (by decide), mo_held, pz_b]; rfl
  | 5, _ => rw [sv_if_f (by decide), sv_if_f (by decide), sv_if_f (by decide)]; rfl
theorem mo_wakes {sr : be_F} {k : Nat} (hb : σ 31 0 3 = b) (h0 : σ 31 0 (6 + 8 * k + 0) = d k 0) (h1 : σ 31 0 (6 + 8 * k + 1) = d k 1) (hok : be_ok n d) (hl : be_LM σ 1 sr) (hn : n ≤ 10) (hk : k < n) : ∃ σ', f_Mo_wakes (nI k) σ = some (be_wk sr b d k, σ') ∧ be_eM σ σ' := by
  obtain ⟨q, hq, eq⟩ := (hok k hk).1
  unfold f_Mo_wakes
  rw [mo_of1 (by omega), pz_b, h1]
  have G : ∀ τ, be_eM σ τ → f_Mo_wakes_63 (nI k) (be_pl sr b d k) τ = some (be_wk sr b d k, τ) := by
    intro τ e
    rw [mo_wk63 (by omega) hq (by rw [e.s, h0, eq])]
    unfold be_wk
    rw [eq]
  cases sr with
  | none =>
    rw [show f_Mo_counts (1 : Int32) σ = some (-1, σ) from mo_cntN (q := 1) hl, pz_b, sv_if_t (by decide)]
    exact ⟨σ, G σ (be_eM.rfl' σ), be_eM.rfl' σ⟩
  | some g =>
    have e1 : be_eM σ (sv_up σ 31 28 115 (d k 1)) := mo_nm (be_eM.rfl' σ) _ _
    have e3 : be_eM σ (sv_up (sv_up (sv_up σ 31 28 115 (d k 1)) 31 28 110 (nI k)) 31 28 98 b) := mo_nm (mo_nm e1 _ _) _ _
    obtain ⟨t, ht, c1, τ', c2, c3⟩ := mo_worked (x := d k 1) (y := nI k) (w := b) hl e3 (by show sv_up _ 31 28 98 _ 31 28 115 = _; rw [pz_uk (by decide), pz_uk (by decide), pz_us]) (by show sv_up _ 31 28 98 _ 31 28 110 = _; rw [pz_uk (by decide), pz_us]) (fun _ => pz_us _ _ _ _ _)
    rw [show f_Mo_counts (1 : Int32) σ = some (nI t, σ) from c1, pz_b, sv_if_f (nI_pos (by omega)), mo_of1 (by omega), pz_b, h1, sv_g_t ⟨by decide, by decide⟩, sv_g_t ⟨by decide, by decide⟩, sv_g_t ⟨by decide, by decide⟩, sv_g_t ⟨by decide, by decide⟩]
    rw [show (sv_up (sv_up σ 31 28 ((115 : Int32).toNatClampNeg) (d k 1)) 31 28 ((110 : Int32).toNatClampNeg) (nI k)) 31 0 ((3 : Int32).toNatClampNeg) = b by rw [pz_ui (by decide), pz_ui (by decide)]; exact hb]
    rw [show f_Mo_worked (nI t) (sv_up (sv_up (sv_up σ 31 28 ((115 : Int32).toNatClampNeg) (d k 1)) 31 28 ((110 : Int32).toNatClampNeg) (nI k)) 31 28 ((98 : Int32).toNatClampNeg) b) = some (g (d k 1) (nI k) b, τ') from c2, pz_b, mo_held, pz_b]
    exact ⟨τ', G τ' c3, c3⟩
theorem mo_step {k q u : Nat} (hk : k < 10) (hq : q < 6) (h1 : 1 ≤ u) (h9 : u ≤ 9) {τ : sv_S} (h : τ 31 0 (6 + 8 * k + 0) = nI q) (hb : τ 31 0 3 = b) : f_Mo_stepFrom (nI k) (nI u) τ = some (be_sp b (nI u) (nI q), τ) := by
  unfold f_Mo_stepFrom
  rw [mo_of0 hk, pz_b, h, sv_if_f (nI_ne0 (by omega) (by omega))]
  have G35 : ∀ x : Int32, f_Mo_stepFrom_35 (nI u) x τ = some (if nI u = 9 then 0 else if nI u = 8 ∧ x = 4 then 0 else nI u + 1, τ) := by
    intro x
    unfold f_Mo_stepFrom_35
    by_cases hu9 : nI u = 9
    · rw [sv_if_t hu9, if_pos hu9]
    · rw [sv_if_f hu9, if_neg hu9]
      by_cases hu8 : nI u = 8
      · rw [sv_if_t hu8]
        by_cases hx : x = 4
        · rw [sv_if_t hx, if_pos ⟨hu8, hx⟩]
        · rw [sv_if_f hx, if_neg (fun e => hx e.2)]
      · rw [sv_if_f hu8, if_neg (fun e => hu8 e.1)]
  have G21 : ∀ x : Int32, f_Mo_stepFrom_21 (nI u) x τ = some (if b - b / 4 * 4 = 3 then nI u else if nI u = 9 then 0 else if nI u = 8 ∧ x = 4 then 0 else nI u + 1, τ) := by
    intro x
    unfold f_Mo_stepFrom_21
    rw [sv_g_t ⟨by decide, by decide⟩, sv_g_t (by decide), show τ 31 0 ((3 : Int32).toNatClampNeg) = b from hb]
    by_cases h3 : b - b / 4 * 4 = 3
    · rw [sv_if_t h3, if_pos h3]
    · rw [sv_if_f h3, if_neg h3, G35]
  unfold be_sp
  by_cases q1 : nI q = 1
  · rw [sv_if_t q1, G21]
    by_cases h3 : b - b / 4 * 4 = 3
    · rw [if_pos h3, if_pos ⟨Or.inl q1, h3⟩]
    · rw [if_neg h3, if_neg (c := (nI q = 1 ∨ nI q = 3) ∧ b - b / 4 * 4 = 3) (fun e => h3 e.2)]
  · rw [sv_if_f q1]
    by_cases q3 : nI q = 3
    · rw [sv_if_t q3, G21]
      by_cases h3 : b - b / 4 * 4 = 3
      · rw [if_pos h3, if_pos ⟨Or.inr q3, h3⟩]
      · rw [if_neg h3, if_neg (c := (nI q = 1 ∨ nI q = 3) ∧ b - b / 4 * 4 = 3) (fun e => h3 e.2)]
    · rw [sv_if_f q3, G35, if_neg (c := (nI q = 1 ∨ nI q = 3) ∧ b - b / 4 * 4 = 3) (fun e => e.1.elim q1 q3)]
end BEM
