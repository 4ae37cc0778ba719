/-! ===== pure: lines with their texts; become, laysBy, setAside ===== -/
abbrev tx_T : Type := Nat × (Nat × (Nat × (Nat → Int32)))
def li_t (T : Nat → tx_T) (q : Nat) : Nat → Int32
  | 0 => -1
  | t + 1 => if (T t).1 = q then nI t else li_t T q t
def li_f (T : Nat → tx_T) (q : Nat) : Nat → be_F
  | 0 => none
  | t + 1 => if (T t).1 = q then some (fun x y w => tx_a (T t).2.2.2 x y w (T t).2.2.1 0) else li_f T q t
def li_tC (σ : sv_S) (id : Nat) (x : tx_T) : Prop := id < sv_ct σ ∧ σ 18 id 0 = nI x.1 ∧ σ 18 id 1 = nI x.2.1 ∧ σ 18 id 9 = nI x.2.2.1 ∧ ∀ j, j < x.2.2.1 → σ 19 id j = x.2.2.2 j
def li_C (σ : sv_S) (a n nt : Nat) (b m z : Int32) (d : be_D) (T : Nat → tx_T) : Prop := be_C σ a n b m z d ∧ σ 1 a 8 = nI nt ∧ (∀ t, t < nt → ∃ id, σ 4 a t = nI (id + 1) ∧ li_tC σ id (T t)) ∧ ∀ q, q < 3 → σ 5 a q = li_t T q nt
def li_V (v : Nat → Int32) (n nt : Nat) (b m z : Int32) (d : be_D) (T : Nat → tx_T) : Prop := (v 0 = nI n ∧ v 3 = b ∧ v 2 = m ∧ v 4 = z ∧ ∀ k, k < n → ∀ j, j < 8 → v (6 + 8 * k + j) = d k j) ∧ v 1 = nI nt ∧ ∀ t, t < nt → v (86 + 200 * t) = nI (T t).1 ∧ v (87 + 200 * t) = nI (T t).2.1 ∧ v (88 + 200 * t) = nI (T t).2.2.1 ∧ ∀ j, j < (T t).2.2.1 → v (90 + 200 * t + 2 * j) = tx_wh ((T t).2.2.2 j) ∧ v (91 + 200 * t + 2 * j) = tx_vl (T t).1 ((T t).2.2.2 j)
def li_ok (n nt : Nat) (b : Int32) (d : be_D) (T : Nat → tx_T) : Prop := n ≤ 10 ∧ nt ≤ 14 ∧ be_ok n d ∧ (∃ bb : Nat, bb ≤ 9999 ∧ b = nI bb) ∧ ∀ t, t < nt → tx_w (T t).1 (T t).2.1 (T t).2.2.1 (T t).2.2.2
theorem li_tf (T : Nat → tx_T) (q : Nat) : ∀ nt, (li_f T q nt = none ∧ li_t T q nt = -1) ∨ ∃ t, t < nt ∧ (T t).1 = q ∧ li_t T q nt = nI t ∧ li_f T q nt = some (fun x y w => tx_a (T t).2.2.2 x y w (T t).2.2.1 0) := by
  intro nt
  induction nt with
  | zero => exact Or.inl ⟨rfl, rfl⟩
  | succ u ih =>
    simp only [li_f, li_t]
    by_cases h : (T u).1 = q
    · rw [if_pos h, if_pos h]
      exact Or.inr ⟨u, by omega, h, rfl, rfl⟩
    · rw [if_neg h, if_neg h]
      rcases ih with h | ⟨t, h1, h2⟩
      · exact Or.inl h
      · exact Or.inr ⟨t, by omega, h2⟩
theorem li_LC {σ : sv_S} {a n nt : Nat} {b m z : Int32} {d : be_D} {T : Nat → tx_T} (h : li_C σ a n nt b m z d T) (ok : li_ok n nt b d T) {q : Nat} (hq : q < 3) : be_LC σ a q (li_f T q nt) := by
  obtain ⟨h1, h2, h3, h4⟩ := h
  rcases li_tf T q nt with ⟨e1, e2⟩ | ⟨t, ht, tq, e2, e1⟩
  · rw [e1]
    show σ 5 a q < 0
    rw [h4 q hq, e2]
    decide
  · rw [e1]
    obtain ⟨id, g1, g2, g3, g4, g5, g6⟩ := h3 t ht
    have w := ok.2.2.2.2 t ht
    rw [tq] at w
    exact ⟨t, nt, id, (T t).2.1, (T t).2.2.1, (T t).2.2.2, by rw [h4 q hq, e2], ht, ok.2.1, h2, g1, g2, g4, g5, g6, w, rfl⟩
theorem li_VM {σ : sv_S} {n nt : Nat} {b m z : Int32} {d : be_D} {T : Nat → tx_T} (h : li_V (σ 31 0) n nt b m z d T) : be_M σ n b m z d := h.1
theorem li_mo {σ : sv_S} {T : Nat → tx_T} {q : Nat} : ∀ nt, (∀ t, t < nt → (T t).1 < 3 ∧ σ 31 0 (86 + 200 * t) = nI (T t).1) → q < 3 → mo_li σ q nt = li_t T q nt := by
  intro nt
  induction nt with
  | zero => intro _ _; rfl
  | succ u ih =>
    intro h hq
    simp only [mo_li, li_t]
    obtain ⟨g1, g2⟩ := h u (by omega)
    rw [ih (fun t ht => h t (by omega)) hq, g2]
    by_cases e : (T u).1 = q
    · rw [if_pos (by rw [e]), if_pos e]
    · rw [if_neg (fun w => e ((nI_eq (by omega) (by omega)).mp w)), if_neg e]
theorem li_LM {σ : sv_S} {n nt : Nat} {b m z : Int32} {d : be_D} {T : Nat → tx_T} (h : li_V (σ 31 0) n nt b m z d T) (ok : li_ok n nt b d T) {q : Nat} (hq : q < 3) : be_LM σ q (li_f T q nt) := by
  obtain ⟨h1, h2, h3⟩ := h
  have hm : mo_li σ q nt = li_t T q nt := li_mo nt (fun t ht => ⟨(ok.2.2.2.2 t ht).1, (h3 t ht).1⟩) hq
  refine ⟨nt, ok.2.1, h2, ?_⟩
  rcases li_tf T q nt with ⟨e1, e2⟩ | ⟨t, ht, tq, e2, e1⟩
  · rw [e1]
    exact hm.trans e2
  · rw [e1]
    have w := ok.2.2.2.2 t ht
    have g := (h3 t ht).2.2.2
    rw [tq] at w g
    exact ⟨t, (T t).2.1, (T t).2.2.1, (T t).2.2.2, ht, hm.trans e2, (h3 t ht).2.2.1, g, w, rfl⟩
/-! rows laid by -/
def pz_cp (σ : sv_S) (x y N : Nat) : sv_S := fun r i j => if r = 31 ∧ i = y ∧ j < N then σ 31 x j else σ r i j
theorem pz_cp_0 (σ : sv_S) (x y : Nat) : pz_cp σ x y 0 = σ := by
  funext r i j
  unfold pz_cp
  rw [if_neg (fun h => absurd h.2.2 (Nat.not_lt_zero j))]
theorem pz_cp_in {σ : sv_S} {x y N j : Nat} (h : j < N) : pz_cp σ x y N 31 y j = σ 31 x j := by unfold pz_cp; rw [if_pos ⟨rfl, rfl, h⟩]
theorem pz_cp_ge {σ : sv_S} {x y N j : Nat} (h : N ≤ j) : pz_cp σ x y N 31 y j = σ 31 y j := by unfold pz_cp; rw [if_neg (fun e => absurd e.2.2 (by omega))]
theorem pz_cp_o {σ : sv_S} {x y N r i : Nat} (h : ¬ (r = 31 ∧ i = y)) : pz_cp σ x y N r i = σ r i := by funext j; unfold pz_cp; rw [if_neg (fun e => h ⟨e.1, e.2.1⟩)]
theorem pz_cp_s {σ : sv_S} {x y k : Nat} (hxy : x ≠ y) : sv_up (pz_cp σ x y k) 31 y k (pz_cp σ x y k 31 x k) = pz_cp σ x y (k + 1) := by
  funext r i j
  have e : pz_cp σ x y k 31 x k = σ 31 x k := by rw [pz_cp_o (fun q => hxy q.2)]
  rw [e]
  unfold sv_up pz_cp
  by_cases h : r = 31 ∧ i = y
  · obtain ⟨rfl, rfl⟩ := h
    by_cases hj : j = k
    · subst hj; simp
    · by_cases hlt : j < k
      · simp [hj, hlt, Nat.lt_succ_of_lt hlt]
      · have : ¬ j < k + 1 := by omega
        simp [hj, hlt, this]
  · have h1 : ¬ (r = 31 ∧ i = y ∧ j = k) := fun e => h ⟨e.1, e.2.1⟩
    have h2 : ¬ (r = 31 ∧ i = y ∧ j < k) := fun e => h ⟨e.1, e.2.1⟩
    have h3 : ¬ (r = 31 ∧ i = y ∧ j < k + 1) := fun e => h ⟨e.1, e.2.1⟩
    rw [if_neg h1, if_neg h2, if_neg h3]
theorem mo_laysBy (σ : sv_S) : f_Mo_laysBy σ = some (pz_cp σ 0 13 86) := by
  have G : ∀ (r k fuel : Nat), k + r = 86 → r < fuel → f_Mo_laysBy_2 fuel (nI k) (pz_cp σ 0 13 k) = some (pz_cp σ 0 13 86) := by
    intro r
    induction r with
    | zero =>
      intro k fuel hk hf
      obtain ⟨f, rfl⟩ : ∃ f, fuel = f + 1 := ⟨fuel - 1, by omega⟩
      have hk : k = 86 := by omega
      subst hk
      rw [f_Mo_laysBy_2, sv_if_t (by decide)]
    | succ r ih =>
      intro k fuel hk hf
      obtain ⟨f, rfl⟩ : ∃ f, fuel = f + 1 := ⟨fuel - 1, by omega⟩
      rw [f_Mo_laysBy_2, sv_if_f (show ¬ (86 : Int32) ≤ nI k from nI_ge (b := 86) (by omega) (by omega)), pz_in (by omega) (by omega), pz_in (by omega) (by omega), pz_cl (by omega), pz_cp_s (by decide), nI_1]
      exact ih (k + 1) f (by omega) (by omega)
  have g := G 86 0 sv_fu rfl (by decide)
  rw [pz_cp_0] at g
  exact g
theorem mo_laysBack (σ : sv_S) : f_Mo_laysBack σ = some (pz_cp σ 13 0 86) := by
  have G : ∀ (r k fuel : Nat), k + r = 86 → r < fuel → f_Mo_laysBack_2 fuel (nI k) (pz_cp σ 13 0 k) = some (pz_cp σ 13 0 86) := by
    intro r
    induction r with
    | zero =>
      intro k fuel hk hf
      obtain ⟨f, rfl⟩ : ∃ f, fuel = f + 1 := ⟨fuel - 1, by omega⟩
      have hk : k = 86 := by omega
      subst hk
      rw [f_Mo_laysBack_2, sv_if_t (by decide)]
    | succ r ih =>
      intro k fuel hk hf
      obtain ⟨f, rfl⟩ : ∃ f, fuel = f + 1 := ⟨fuel - 1, by omega⟩
      rw [f_Mo_laysBack_2, sv_if_f (show ¬ (86 : Int32) ≤ nI k from nI_ge (b := 86) (by omega) (by omega)), pz_in (by omega) (by omega), pz_in (by omega) (by omega), pz_cl (by omega), pz_cp_s (by decide), nI_1]
      exact ih (k + 1) f (by omega) (by omega)
  have g := G 86 0 sv_fu rfl (by decide)
  rw [pz_cp_0] at g
  exact g
theorem mo_aside {x y : Nat} (hxy : x ≠ y) (hx : sv_ml x = 3086) (hy : sv_ml y = 3086) (σ : sv_S) : f_Mo_setAside x y σ = some (pz_cp σ x y 2886) := by
  have G : ∀ (r k fuel : Nat), k + r = 2886 → r < fuel → f_Mo_setAside_2 fuel x y (nI k) (pz_cp σ x y k) = some (pz_cp σ x y 2886) := by
    intro r
    induction r with
    | zero =>
      intro k fuel hk hf
      obtain ⟨f, rfl⟩ : ∃ f, fuel = f + 1 := ⟨fuel - 1, by omega⟩
      have hk : k = 2886 := by omega
      subst hk
      rw [f_Mo_setAside_2, sv_if_t (by decide)]
    | succ r ih =>
      intro k fuel hk hf
      obtain ⟨f, rfl⟩ : ∃ f, fuel = f + 1 := ⟨fuel - 1, by omega⟩
      rw [f_Mo_setAside_2, sv_if_f (show ¬ (2886 : Int32) ≤ nI k from nI_ge (b := 2886) (by omega) (by omega)), hx, hy, pz_in (by omega) (by omega), pz_in (by omega) (by omega), pz_cl (by omega), pz_cp_s hxy, nI_1]
      exact ih (k + 1) f (by omega) (by omega)
  have g := G 2886 0 sv_fu rfl (by unfold sv_fu; omega)
  rw [pz_cp_0] at g
  exact g
theorem li_V.eq {v w : Nat → Int32} {n nt : Nat} {b m z : Int32} {d : be_D} {T : Nat → tx_T} (h : li_V v n nt b m z d T) (hn : n ≤ 10) (hnt : nt ≤ 14) (hT : ∀ t, t < nt → (T t).2.2.1 ≤ 96) (e : ∀ j, j < 2886 → w j = v j) : li_V w n nt b m z d T := by
  obtain ⟨⟨h1, h2, h3, h4, h5⟩, h6, h7⟩ := h
  refine ⟨⟨by rw [e 0 (by omega)]; exact h1, by rw [e 3 (by omega)]; exact h2, by rw [e 2 (by omega)]; exact h3, by rw [e 4 (by omega)]; exact h4, fun k hk j hj => by rw [e _ (by omega)]; exact h5 k hk j hj⟩, by rw [e 1 (by omega)]; exact h6, fun t ht => ?_⟩
  obtain ⟨g1, g2, g3, g4⟩ := h7 t ht
  have := hT t ht
  exact ⟨by rw [e _ (by omega)]; exact g1, by rw [e _ (by omega)]; exact g2, by rw [e _ (by omega)]; exact g3, fun j hj => ⟨by rw [e _ (by omega)]; exact (g4 j hj).1, by rw [e _ (by omega)]; exact (g4 j hj).2⟩⟩
/-! the class: become -/
theorem cl_setAs {i j : Nat} (hij : i ≠ j) (σ : sv_S) : ∃ σ', f_Dr_setAs i j σ = some σ' ∧ (∀ s, s < 8 → σ' 2 i s = σ 2 j s) ∧ ∀ r i', ¬ (r = 2 ∧ i' = i) → σ' r i' = σ r i' := by
  refine ⟨_, rfl, fun s hs => ?_, fun r i' h => ?_⟩
  · have hs : s = 0 ∨ s = 1 ∨ s = 2 ∨ s = 3 ∨ s = 4 ∨ s = 5 ∨ s = 6 ∨ s = 7 := by omega
    rcases hs with rfl | rfl | rfl | rfl | rfl | rfl | rfl | rfl <;> simp [sv_up, hij, Ne.symm hij]
  · simp only [pz_up h]
section LIB
variable {a c n nt : Nat} {b m z : Int32} {d : be_D} {T : Nat → tx_T}
/-- all but a line of the class -/
def li_fr (a : Nat) (σ τ : sv_S) : Prop := ∀ r i, ¬ ((r = 1 ∨ r = 4 ∨ r = 5) ∧ i = a) → ¬ (r = 2 ∧ 10 * a ≤ i ∧ i < 10 * a + 10) → τ r i = σ r i
theorem li_fr.rfl' (a : Nat) (σ : sv_S) : li_fr a σ σ := fun _ _ _ _ => rfl
theorem li_fr.tr {σ τ υ : sv_S} (h : li_fr a σ τ) (g : li_fr a τ υ) : li_fr a σ υ := fun r i p q => (g r i p q).trans (h r i p q)
theorem cl_bec73 (ha : a < 3) (hc : c < 3) (hac : a ≠ c) (hnt : nt ≤ 14) : ∀ (r k fuel : Nat) (σ : sv_S), k + r = nt → r < fuel → σ 1 c 8 = nI nt → (∀ t, t < nt → ∃ id, σ 4 c t = nI (id + 1) ∧ id < sv_ct σ) → (∀ t, t < k → σ 4 a t = σ 4 c t) → ∃ σ', f_Li_become_73 fuel a c (nI k) σ = some σ' ∧ (∀ t, t < nt → σ' 4 a t = σ 4 c t) ∧ (∀ q, q < 3 → σ' 5 a q = σ 5 c q) ∧ ∀ r i, ¬ ((r = 4 ∨ r = 5) ∧ i = a) → σ' r i = σ r i := by
  intro r
  induction r with
  | zero =>
    intro k fuel σ hk hf h8 ht he
    obtain ⟨f, rfl⟩ : ∃ f, fuel = f + 1 := ⟨fuel - 1, by omega⟩
    have hk : k = nt := by omega
    subst hk
    refine ⟨sv_cp σ 5 c a 0 0 3, ?_, fun t ht' => ?_, fun q hq => ?_, fun r i h => ?_⟩
    · rw [f_Li_become_73, h8, sv_if_t (nI_le (Nat.le_refl k) (by omega))]
      unfold f_ac5 f_ac
      rw [sv_g_t ⟨by decide, by decide, by decide, by show 0 + 3 ≤ 3; omega, by show 0 + 3 ≤ 3; omega⟩]
      rfl
    · show (if (4 : Nat) = 5 ∧ a = a then _ else σ 4 a t) = _
      rw [if_neg (fun e => absurd e.1 (by decide))]
      exact he t ht'
    · show (if (5 : Nat) = 5 ∧ a = a then va_cpy (σ 5 c) (σ 5 a) 0 0 3 q else _) = _
      rw [if_pos ⟨rfl, rfl⟩, sb_cpy0 hq]
    · funext j
      show (if r = 5 ∧ i = a then _ else σ r i j) = _
      rw [if_neg (fun e => h ⟨Or.inr e.1, e.2⟩)]
  | succ r ih =>
    intro k fuel σ hk hf h8 ht he
    obtain ⟨f, rfl⟩ : ∃ f, fuel = f + 1 := ⟨fuel - 1, by omega⟩
    obtain ⟨id, g1, g2⟩ := ht k (by omega)
    have hid : id + 1 < 2 ^ 31 := by
      have g2 : id < (σ 22 0 0).toNatClampNeg := g2
      have := sv_cl32 (σ 22 0 0)
      by_cases hh : id + 1 < 2 ^ 31
      · exact hh
      · omega
    rw [f_Li_become_73, h8, sv_if_f (nI_ge (by omega) (by omega)), pz_in (by omega) (by omega), pz_cl (by omega), g1, sv_tx_nI hid, sv_g_t g2, pz_in (by omega) (by omega), nI_1]
    have hup : ∀ r i, ¬ ((r = 4 ∨ r = 5) ∧ i = a) → sv_up σ 4 a k (nI (id + 1)) r i = σ r i := fun r i h => pz_up (fun e => h ⟨Or.inl e.1, e.2⟩)
    have h4c : sv_up σ 4 a k (nI (id + 1)) 4 c = σ 4 c := hup 4 c (fun e => hac e.2.symm)
    obtain ⟨σ', y1, y2, y3, y4⟩ := ih (k + 1) f (sv_up σ 4 a k (nI (id + 1))) (by omega) (by omega) (by rw [hup 1 c (by omega)]; exact h8) (fun t ht' => by
      rw [h4c, sv_ct_up (by decide)]
      exact ht t ht') (fun t ht' => by
      rw [h4c]
      by_cases e : t = k
      · subst e; rw [pz_us, g1]
      · rw [pz_uk e]; exact he t (by omega))
    refine ⟨σ', y1, fun t ht' => by rw [y2 t ht', h4c], fun q hq => by rw [y3 q hq, hup 5 c (fun e => hac e.2.symm)], fun r i h => by rw [y4 r i h, hup r i h]⟩
theorem cl_bec42 (ha : a < 3) (hc : c < 3) (hac : a ≠ c) (hn : n ≤ 10) (hnt : nt ≤ 14) : ∀ (r k fuel : Nat) (σ : sv_S), k + r = n → r < fuel → σ 1 c 4 = nI n → σ 1 c 8 = nI nt → (∀ t, t < nt → ∃ id, σ 4 c t = nI (id + 1) ∧ id < sv_ct σ) → (∀ i, i < k → ∀ s, s < 8 → σ 2 (10 * a + i) s = σ 2 (10 * c + i) s) → ∃ σ', f_Li_become_42 fuel a c (nI k) σ = some σ' ∧ (∀ i, i < n → ∀ s, s < 8 → σ' 2 (10 * a + i) s = σ 2 (10 * c + i) s) ∧ (∀ t, t < nt → σ' 4 a t = σ 4 c t) ∧ (∀ q, q < 3 → σ' 5 a q = σ 5 c q) ∧ ∀ r i, ¬ ((r = 4 ∨ r = 5) ∧ i = a) → ¬ (r = 2 ∧ 10 * a ≤ i ∧ i < 10 * a + 10) → σ' r i = σ r i := by
  intro r
  induction r with
  | zero =>
    intro k fuel σ hk hf h4 h8 ht he
    obtain ⟨f, rfl⟩ : ∃ f, fuel = f + 1 := ⟨fuel - 1, by omega⟩
    have hk : k = n := by omega
    subst hk
    rw [f_Li_become_42, h4, sv_if_t (nI_le (Nat.le_refl k) (by omega))]
    obtain ⟨σ', y1, y2, y3, y4⟩ := cl_bec73 ha hc hac hnt nt 0 sv_fu σ (by omega) (by unfold sv_fu; omega) h8 ht (fun t h => absurd h (Nat.not_lt_zero t))
    refine ⟨σ', y1, fun i hi s hs => by rw [y4 2 _ (by omega)]; exact he i hi s hs, y2, y3, fun r i h _ => y4 r i h⟩
  | succ r ih =>
    intro k fuel σ hk hf h4 h8 ht he
    obtain ⟨f, rfl⟩ : ∃ f, fuel = f + 1 := ⟨fuel - 1, by omega⟩
    rw [f_Li_become_42, h4, sv_if_f (nI_ge (by omega) (by omega)), be_ln3 ha, be_ln3 hc, pz_in (by omega) (by omega), pz_in (by omega) (by omega), pz_cl (by omega), nI_1]
    obtain ⟨τ, g1, g2, g3⟩ := cl_setAs (i := 10 * a + k) (j := 10 * c + k) (by omega) σ
    rw [g1, pz_b0]
    have hct : sv_ct τ = sv_ct σ := by unfold sv_ct; rw [g3 22 0 (by omega)]
    obtain ⟨σ', y1, y2, y3, y4, y5⟩ := ih (k + 1) f τ (by omega) (by omega) (by rw [g3 1 c (by omega)]; exact h4) (by rw [g3 1 c (by omega)]; exact h8) (fun t ht' => by rw [g3 4 c (by omega), hct]; exact ht t ht') (fun i hi s hs => by
      rw [g3 2 (10 * c + i) (by omega)]
      by_cases e : i = k
      · subst e; exact g2 s hs
      · rw [g3 2 (10 * a + i) (by omega)]; exact he i (by omega) s hs)
    refine ⟨σ', y1, fun i hi s hs => by rw [y2 i hi s hs, g3 2 (10 * c + i) (by omega)], fun t ht' => by rw [y3 t ht', g3 4 c (by omega)], fun q hq => by rw [y4 q hq, g3 5 c (by omega)], fun r i h1 h2 => by rw [y5 r i h1 h2, g3 r i (by omega)]⟩
theorem cl_become (ha : a < 3) (hc : c < 3) (hac : a ≠ c) (ok : li_ok n nt b d T) {σ : sv_S} (h : li_C σ c n nt b m z d T) : ∃ σ', f_Li_become a c σ = some σ' ∧ li_C σ' a n nt b m z d T ∧ li_fr a σ σ' := by
  obtain ⟨⟨h1, h2, h3, h4, h5⟩, h6, h7, h8⟩ := h
  unfold f_Li_become
  dsimp only
  generalize hτ : sv_up (sv_up (sv_up (sv_up (sv_up σ 1 a 4 (σ 1 c 4)) 1 a 5 (sv_up σ 1 a 4 (σ 1 c 4) 1 c 5)) 1 a 6 (sv_up (sv_up σ 1 a 4 (σ 1 c 4)) 1 a 5 (sv_up σ 1 a 4 (σ 1 c 4) 1 c 5) 1 c 6)) 1 a 7 (sv_up (sv_up (sv_up σ 1 a 4 (σ 1 c 4)) 1 a 5 (sv_up σ 1 a 4 (σ 1 c 4) 1 c 5)) 1 a 6 (sv_up (sv_up σ 1 a 4 (σ 1 c 4)) 1 a 5 (sv_up σ 1 a 4 (σ 1 c 4) 1 c 5) 1 c 6) 1 c 7)) 1 a 8 (sv_up (sv_up (sv_up (sv_up σ 1 a 4 (σ 1 c 4)) 1 a 5 (sv_up σ 1 a 4 (σ 1 c 4) 1 c 5)) 1 a 6 (sv_up (sv_up σ 1 a 4 (σ 1 c 4)) 1 a 5 (sv_up σ 1 a 4 (σ 1 c 4) 1 c 5) 1 c 6)) 1 a 7 (sv_up (sv_up (sv_up σ 1 a 4 (σ 1 c 4)) 1 a 5 (sv_up σ 1 a 4 (σ 1 c 4) 1 c 5)) 1 a 6 (sv_up (sv_up σ 1 a 4 (σ 1 c 4)) 1 a 5 (sv_up σ 1 a 4 (σ 1 c 4) 1 c 5) 1 c 6) 1 c 7) 1 c 8) = τ
  have hf : ∀ r i, ¬ (r = 1 ∧ i = a) → τ r i = σ r i := fun r i h => by rw [← hτ, pz_up h, pz_up h, pz_up h, pz_up h, pz_up h]
  have t4 : τ 1 a 4 = nI n := by rw [← hτ, pz_uk (by omega), pz_uk (by omega), pz_uk (by omega), pz_uk (by omega), pz_us]; exact h1
  have t5 : τ 1 a 5 = b := by rw [← hτ, pz_uk (by omega), pz_uk (by omega), pz_uk (by omega), pz_us, pz_ui (Ne.symm hac)]; exact h2
  have t6 : τ 1 a 6 = m := by rw [← hτ, pz_uk (by omega), pz_uk (by omega), pz_us, pz_ui (Ne.symm hac), pz_ui (Ne.symm hac)]; exact h3
  have t7 : τ 1 a 7 = z := by rw [← hτ, pz_uk (by omega), pz_us, pz_ui (Ne.symm hac), pz_ui (Ne.symm hac), pz_ui (Ne.symm hac)]; exact h4
  have t8 : τ 1 a 8 = nI nt := by rw [← hτ, pz_us, pz_ui (Ne.symm hac), pz_ui (Ne.symm hac), pz_ui (Ne.symm hac), pz_ui (Ne.symm hac)]; exact h6
  have h1c : τ 1 c = σ 1 c := hf 1 c (fun e => hac e.2.symm)
  have hct : sv_ct τ = sv_ct σ := by unfold sv_ct; rw [hf 22 0 (by omega)]
  obtain ⟨σ', y1, y2, y3, y4, y5⟩ := cl_bec42 (n := n) (nt := nt) ha hc hac ok.1 ok.2.1 n 0 sv_fu τ (by omega) (by have := ok.1; unfold sv_fu; omega) (by rw [h1c]; exact h1) (by rw [h1c]; exact h6) (fun t ht => by
    rw [hf 4 c (by omega), hct]
    obtain ⟨id, g1, g2⟩ := h7 t ht
    exact ⟨id, g1, g2.1⟩) (fun i hi => absurd hi (Nat.not_lt_zero i))
  have hct' : sv_ct σ' = sv_ct σ := by unfold sv_ct; rw [y5 22 0 (by omega) (by omega)]; exact congrArg _ (by rw [hf 22 0 (by omega)])
  refine ⟨σ', y1, ⟨⟨by rw [y5 1 a (by omega) (by omega)]; exact t4, by rw [y5 1 a (by omega) (by omega)]; exact t5, by rw [y5 1 a (by omega) (by omega)]; exact t6, by rw [y5 1 a (by omega) (by omega)]; exact t7, fun k hk j hj => ?_⟩, by rw [y5 1 a (by omega) (by omega)]; exact t8, fun t ht => ?_, fun q hq => ?_⟩, fun r i h1 h2 => ?_⟩
  · have hp : be_p j < 8 := by unfold be_p; split <;> (try split) <;> omega
    rw [y2 k hk _ hp, hf 2 _ (by omega)]
    exact h5 k hk j hj
  · obtain ⟨id, g1, g2⟩ := h7 t ht
    refine ⟨id, by rw [y3 t ht, hf 4 c (by omega)]; exact g1, ?_⟩
    unfold li_tC at *
    rw [hct', y5 18 id (by omega) (by omega), y5 19 id (by omega) (by omega), hf 18 id (by omega), hf 19 id (by omega)]
    exact g2
  · rw [y4 q hq, hf 5 c (by omega)]
    exact h8 q hq
  · rw [y5 r i (fun e => h1 ⟨by omega, e.2⟩) h2, hf r i (fun e => h1 ⟨Or.inl e.1, e.2⟩)]
end LIB
