/-! ===== pure: firsts and spreads ===== -/
def be_mo (s : Nat → Nat → Bool) (n : Nat) : Nat → Nat
  | 0 => 0
  | i + 1 => if be_mo s n i < be_ct (s i) n then be_ct (s i) n else be_mo s n i
theorem be_mo_le (s : Nat → Nat → Bool) (n : Nat) : ∀ i, be_mo s n i ≤ n := by
  intro i
  induction i with
  | zero => exact Nat.zero_le n
  | succ i ih =>
    have := be_ct_le (s i) n
    simp only [be_mo]; split <;> omega
section LAY
variable {hr sr : be_F} {n : Nat} {m b z : Int32} {d e : be_D} {σ0 : sv_S}
theorem mo_lay67 {s : Nat → Nat → Bool} {K : Int32 → Int32 → sv_S → Option sv_S} {i N : Nat} (hn : n ≤ 10) (hi : i ≤ 1000) : ∀ (r k fuel : Nat) (σ : sv_S), k + r = n → r < fuel → σ 31 0 0 = nI n → (∀ j, j < n → σ 31 14 j = nI (be_f s j (if j < k then i + 1 else i))) → ∃ σ', f_Mo_layFirsts_67 K fuel (nI N) (nI (i + 1)) (be_mk (s i) n) (nI k) σ = K (nI N) (nI (i + 1 + 1)) σ' ∧ (∀ j, j < n → σ' 31 14 j = nI (be_f s j (i + 1))) ∧ ∀ r i, ¬ (r = 31 ∧ i = 14) → σ' r i = σ r i := by
  intro r
  induction r with
  | zero =>
    intro k fuel σ hk hf h0 hI
    obtain ⟨f, rfl⟩ : ∃ f, fuel = f + 1 := ⟨fuel - 1, by omega⟩
    have hk : k = n := by omega
    subst hk
    refine ⟨σ, by rw [f_Mo_layFirsts_67, pz_i0 _ (by omega), show σ 31 0 ((0 : Int32).toNatClampNeg) = nI k from h0, sv_if_t (nI_le (Nat.le_refl k) (by omega)), nI_1], fun j hj => ?_, fun _ _ _ => rfl⟩
    have h := hI j hj
    rw [if_pos hj] at h
    exact h
  | succ r ih =>
    intro k fuel σ hk hf h0 hI
    obtain ⟨f, rfl⟩ : ∃ f, fuel = f + 1 := ⟨fuel - 1, by omega⟩
    have hkn : k < n := by omega
    have hIk := hI k hkn
    rw [if_neg (Nat.lt_irrefl k)] at hIk
    have hle := be_f_le s k i
    have go : ∀ v, v = nI (be_f s k (i + 1)) → ∃ σ', f_Mo_layFirsts_67 K f (nI N) (nI (i + 1)) (be_mk (s i) n) (nI (k + 1)) (sv_up σ 31 14 k v) = K (nI N) (nI (i + 1 + 1)) σ' ∧ (∀ j, j < n → σ' 31 14 j = nI (be_f s j (i + 1))) ∧ ∀ r i, ¬ (r = 31 ∧ i = 14) → σ' r i = σ r i := by
      intro v hv
      obtain ⟨σ', y1, y2, y3⟩ := ih (k + 1) f (sv_up σ 31 14 k v) (by omega) (by omega) (by rw [pz_ui (by decide)]; exact h0) (fun j hj => by
        by_cases e : j = k
        · subst e; rw [pz_us, if_pos (by omega)]; exact hv
        · rw [pz_uk e, hI j hj]
          by_cases e2 : j < k
          · rw [if_pos e2, if_pos (by omega)]
          · rw [if_neg e2, if_neg (by omega : ¬ j < k + 1)])
      exact ⟨σ', y1, y2, fun r i h => by rw [y3 r i h, pz_up h]⟩
    rw [f_Mo_layFirsts_67, pz_i0 _ (by omega), show σ 31 0 ((0 : Int32).toNatClampNeg) = nI n from h0, sv_if_f (nI_ge hkn (by omega)), pz_in (by omega) (by omega), pz_cl (by omega), hIk, be_mk_bit _ (by omega) hkn, nI_1, pz_in (by omega) (by omega)]
    have H : f_Mo_layFirsts_108 K (f_Mo_layFirsts_67 K f) (nI N) (nI (i + 1)) (be_mk (s i) n) (nI k) (nI k) 14 σ = f_Mo_layFirsts_67 K f (nI N) (nI (i + 1)) (be_mk (s i) n) (nI (k + 1)) (sv_up σ 31 14 k (nI (be_f s k i))) := by
      unfold f_Mo_layFirsts_108
      rw [pz_in (by omega) (by omega), show sv_ml 14 = 10 from rfl, pz_in (by omega) (by omega), pz_cl (by omega), hIk, nI_1]
    rw [H]
    by_cases e0 : be_f s k i = 0
    · rw [sv_if_t (by rw [e0]; rfl)]
      by_cases es : s i k = true
      · rw [if_pos es, sv_if_t rfl]
        exact go _ (by simp [be_f, e0, es])
      · rw [if_neg es, sv_if_f (by decide)]
        exact go _ (by simp [be_f, es])
    · rw [sv_if_f (nI_ne0 (by omega) (by omega))]
      exact go _ (by simp [be_f, e0])
theorem mo_lay28 {N : Nat} (hN : N ≤ 1000) (hok : be_ok n d) (hn : n ≤ 10) : ∀ (r i fuel : Nat) (σ : sv_S), i + r = N → r < fuel → be_TM hr sr n m b z d σ0 i σ → (∀ j, j < n → σ 31 14 j = nI (be_f (be_s hr sr n m b z d) j i)) → σ 30 0 15 = nI (be_mo (be_s hr sr n m b z d) n i) → ∃ σ', f_Mo_layFirsts_28 fuel (nI N) (nI (i + 1)) σ = some σ' ∧ be_TM hr sr n m b z d σ0 N σ' ∧ (∀ j, j < n → σ' 31 14 j = nI (be_f (be_s hr sr n m b z d) j N)) ∧ σ' 30 0 15 = nI (be_mo (be_s hr sr n m b z d) n N) := by
  intro r
  induction r with
  | zero =>
    intro i fuel σ hi hf hT hI hM
    obtain ⟨f, rfl⟩ : ∃ f, fuel = f + 1 := ⟨fuel - 1, by omega⟩
    have hi : i = N := by omega
    subst hi
    exact ⟨σ, by rw [f_Mo_layFirsts_28, sv_if_t (nI_lt (by omega) (by omega))], hT, hI, hM⟩
  | succ r ih =>
    intro i fuel σ hi hf hT hI hM
    obtain ⟨f, rfl⟩ : ∃ f, fuel = f + 1 := ⟨fuel - 1, by omega⟩
    obtain ⟨τ, g1, g2, g3⟩ := hT.go hok hn
    have hc := be_ct_le (be_s hr sr n m b z d i) n
    have hm := be_mo_le (be_s hr sr n m b z d) n i
    have e14 : τ 31 14 = σ 31 14 := g3.1 31 14 (by omega)
    have e30 : τ 30 = σ 30 := funext fun j => g3.1 30 j (by omega)
    rw [f_Mo_layFirsts_28, sv_if_f (nI_nlt (by omega) (by omega)), g1, pz_b, be_ones _ hn, pz_b, e30, hM]
    have go : ∀ v, v = nI (be_mo (be_s hr sr n m b z d) n (i + 1)) → ∃ σ', f_Mo_layFirsts_67 (f_Mo_layFirsts_28 f) sv_fu (nI N) (nI (i + 1)) (be_mk (be_s hr sr n m b z d i) n) (0 : Int32) (sv_up τ 30 0 15 v) = some σ' ∧ be_TM hr sr n m b z d σ0 N σ' ∧ (∀ j, j < n → σ' 31 14 j = nI (be_f (be_s hr sr n m b z d) j N)) ∧ σ' 30 0 15 = nI (be_mo (be_s hr sr n m b z d) n N) := by
      intro v hv
      obtain ⟨υ, y1, y2, y3⟩ := mo_lay67 (s := be_s hr sr n m b z d) (K := f_Mo_layFirsts_28 f) (i := i) (N := N) hn (by omega) n 0 sv_fu (sv_up τ 30 0 15 v) (by omega) (by unfold sv_fu; omega) (by rw [pz_ur (by decide)]; exact g2.1.1) (fun j hj => by
        rw [pz_ur (by decide), e14, hI j hj, if_neg (Nat.not_lt_zero j)])
      have hT' : be_TM hr sr n m b z d σ0 (i + 1) υ := by
        refine g2.w ?_ ⟨fun r j h1 h2 => ?_, fun j hj => ?_, ?_, fun j hj => ?_⟩
        · rw [y3 31 0 (by omega), pz_up (by omega)]
        · rw [y3 r j (fun q => h1 ⟨q.1, by omega⟩), pz_up h2]
        · rw [y3 31 0 (by omega), pz_up (by omega)]
        · rw [y3 31 0 (by omega), pz_up (by omega)]
        · rw [y3 30 0 (by omega), pz_uk hj]
      obtain ⟨σ', x1, x2, x3, x4⟩ := ih (i + 1) f υ (by omega) (by omega) hT' y2 (by rw [y3 30 0 (by omega), pz_us]; exact hv)
      exact ⟨σ', y1.trans x1, x2, x3, x4⟩
    by_cases e : be_ct (be_s hr sr n m b z d i) n ≤ be_mo (be_s hr sr n m b z d) n i
    · rw [sv_if_t (nI_le e (by omega))]
      exact go _ (by simp only [be_mo]; rw [if_neg (by omega)])
    · rw [sv_if_f (nI_ge (by omega) (by omega)), be_ones _ hn, pz_b]
      exact go _ (by simp only [be_mo]; rw [if_pos (by omega)])
theorem mo_lay7 (x : Int32) : ∀ (r k fuel : Nat) (σ : sv_S), k + r = 10 → r < fuel → (∀ j, j < k → σ 31 14 j = 0) → ∃ σ', f_Mo_layFirsts_7 fuel x (nI k) σ = f_Mo_layFirsts_28 sv_fu x 1 σ' ∧ (∀ j, j < 10 → σ' 31 14 j = 0) ∧ ∀ r i, ¬ (r = 31 ∧ i = 14) → σ' r i = σ r i := by
  intro r
  induction r with
  | zero =>
    intro k fuel σ hk hf hz
    obtain ⟨f, rfl⟩ : ∃ f, fuel = f + 1 := ⟨fuel - 1, by omega⟩
    have hk : k = 10 := by omega
    subst hk
    exact ⟨σ, by rw [f_Mo_layFirsts_7, sv_if_t (by decide)], hz, fun _ _ _ => rfl⟩
  | succ r ih =>
    intro k fuel σ hk hf hz
    obtain ⟨f, rfl⟩ : ∃ f, fuel = f + 1 := ⟨fuel - 1, by omega⟩
    rw [f_Mo_layFirsts_7, sv_if_f (show ¬ (10 : Int32) ≤ nI k from nI_ge (b := 10) (by omega) (by omega)), pz_in (by omega) (by omega), pz_cl (by omega), nI_1]
    obtain ⟨σ', y1, y2, y3⟩ := ih (k + 1) f (sv_up σ 31 14 k 0) (by omega) (by omega) (fun j hj => by
      by_cases e : j = k
      · subst e; rw [pz_us]
      · rw [pz_uk e]; exact hz j (by omega))
    exact ⟨σ', y1, y2, fun r i h => by rw [y3 r i h, pz_up h]⟩
theorem mo_lay {N : Nat} (hN : N ≤ 1000) (hok : be_ok n d) (hn : n ≤ 10) {σ : sv_S} (hT : be_TM hr sr n m b z d σ0 0 σ) : ∃ σ', f_Mo_layFirsts (nI N) σ = some σ' ∧ be_TM hr sr n m b z d σ0 N σ' ∧ (∀ j, j < n → σ' 31 14 j = nI (be_f (be_s hr sr n m b z d) j N)) ∧ σ' 30 0 15 = nI (be_mo (be_s hr sr n m b z d) n N) := by
  obtain ⟨τ, g1, g2, g3⟩ := mo_lay7 (nI N) 10 0 sv_fu (sv_up σ 30 0 15 0) rfl (by decide) (fun j hj => absurd hj (Nat.not_lt_zero j))
  have hT' : be_TM hr sr n m b z d σ0 0 τ := by
    refine hT.w ?_ ⟨fun r j h1 h2 => ?_, fun j hj => ?_, ?_, fun j hj => ?_⟩
    · rw [g3 31 0 (by omega), pz_up (by omega)]
    · rw [g3 r j (fun q => h1 ⟨q.1, by omega⟩), pz_up h2]
    · rw [g3 31 0 (by omega), pz_up (by omega)]
    · rw [g3 31 0 (by omega), pz_up (by omega)]
    · rw [g3 30 0 (by omega), pz_uk hj]
  obtain ⟨σ', y1, y2⟩ := mo_lay28 hN hok hn N 0 sv_fu τ (by omega) (by unfold sv_fu; omega) hT' (fun j hj => by rw [g2 j (by omega)]; rfl) (by rw [g3 30 0 (by omega), pz_us]; rfl)
  exact ⟨σ', g1.trans y1, y2⟩
end LAY
/-! spreads -/
def sp_mn (f : Nat → Nat) : Nat → Nat
  | 0 => 1000
  | k + 1 => if f k < sp_mn f k then f k else sp_mn f k
def sp_mx (f : Nat → Nat) : Nat → Nat
  | 0 => 0
  | k + 1 => if sp_mx f k < f k then f k else sp_mx f k
def sp_o (f : Nat → Nat) (n : Nat) : Option Nat := if n = 0 ∨ sp_mn f n = 0 then none else some (sp_mx f n - sp_mn f n)
theorem sp_mn_1 (f : Nat → Nat) (h : f 0 < 1000) : sp_mn f (0 + 1) = f 0 := by
  show (if f 0 < 1000 then f 0 else 1000) = f 0
  rw [if_pos h]
theorem sp_mx_1 (f : Nat → Nat) : sp_mx f (0 + 1) = f 0 := by
  show (if 0 < f 0 then f 0 else 0) = f 0
  split <;> omega
theorem sp_mn_0 (f : Nat → Nat) {k : Nat} (h : f k = 0) : ∀ n, k < n → sp_mn f n = 0 := by
  intro n
  induction n with
  | zero => intro hk; omega
  | succ n ih =>
    intro hk
    simp only [sp_mn]
    by_cases e : k = n
    · subst e; rw [h]; split <;> omega
    · rw [ih (by omega)]; split <;> omega
theorem sp_mn_p (f : Nat → Nat) : ∀ n, (∀ k, k < n → f k ≠ 0) → sp_mn f n ≠ 0 := by
  intro n
  induction n with
  | zero => intro _; exact (by decide : (1000 : Nat) ≠ 0)
  | succ n ih =>
    intro h
    simp only [sp_mn]
    split
    · exact h n (by omega)
    · exact ih (fun k hk => h k (by omega))
theorem sp_le (f : Nat → Nat) (hf : ∀ k, f k ≤ 100) : ∀ n, 1 ≤ n → sp_mn f n ≤ sp_mx f n ∧ sp_mx f n ≤ 100 ∧ sp_mn f n ≤ 100 := by
  intro n
  induction n with
  | zero => intro h; omega
  | succ n ih =>
    intro _
    have := hf n
    by_cases e : n = 0
    · subst e
      rw [sp_mn_1 f (by omega), sp_mx_1]
      omega
    · have := ih (by omega)
      simp only [sp_mn, sp_mx]
      split <;> split <;> omega
theorem sp_mx_le (f : Nat → Nat) (hf : ∀ k, f k ≤ 100) : ∀ n, sp_mx f n ≤ 100 := by
  intro n
  induction n with
  | zero => exact (by decide : (0 : Nat) ≤ 100)
  | succ n ih => simp only [sp_mx]; have := hf n; split <;> omega
theorem sp_mn_le (f : Nat → Nat) : ∀ n, sp_mn f n ≤ 1000 := by
  intro n
  induction n with
  | zero => exact (by decide : (1000 : Nat) ≤ 1000)
  | succ n ih => simp only [sp_mn]; split <;> omega
theorem mo_spread {f : Nat → Nat} (hf : ∀ k, f k ≤ 100) {n : Nat} (hn : n ≤ 10) {σ : sv_S} (h0 : σ 31 0 0 = nI n) (h14 : ∀ j, j < n → σ 31 14 j = nI (f j)) : f_Mo_spreadOf σ = some (be_o1 (sp_o f n), σ) := by
  have G : ∀ (r k fuel : Nat), k + r = n → r < fuel → f_Mo_spreadOf_8 fuel (nI (sp_mn f k)) (nI (sp_mx f k)) (nI k) σ = some (be_o1 (sp_o f n), σ) := by
    intro r
    induction r with
    | zero =>
      intro k fuel hk hff
      obtain ⟨g, rfl⟩ : ∃ g, fuel = g + 1 := ⟨fuel - 1, by omega⟩
      have hk : k = n := by omega
      subst hk
      have hmn := sp_mn_le f k
      rw [f_Mo_spreadOf_8, pz_i0 _ (by omega), show σ 31 0 ((0 : Int32).toNatClampNeg) = nI k from h0, sv_if_t (nI_le (Nat.le_refl k) (by omega)), pz_i0 _ (by omega)]
      unfold sp_o
      by_cases e : k = 0
      · subst e
        rw [sv_if_t (show nI 0 = (0 : Int32) from rfl), if_pos (Or.inl rfl)]; rfl
      · rw [sv_if_f (nI_ne0 (by omega) (by omega))]
        have hl := sp_le f hf k (by omega)
        by_cases e2 : sp_mn f k = 0
        · rw [e2, sv_if_t (show nI 0 = (0 : Int32) from rfl), if_pos (Or.inr rfl)]; rfl
        · rw [sv_if_f (nI_ne0 (by omega) (by omega)), if_neg (by omega), pk_sub hl.1]; rfl
    | succ r ih =>
      intro k fuel hk hff
      obtain ⟨g, rfl⟩ : ∃ g, fuel = g + 1 := ⟨fuel - 1, by omega⟩
      have hkn : k < n := by omega
      have hmn := sp_mn_le f k
      have hmx := sp_mx_le f hf k
      have hfk := hf k
      rw [f_Mo_spreadOf_8, pz_i0 _ (by omega), show σ 31 0 ((0 : Int32).toNatClampNeg) = nI n from h0, sv_if_f (nI_ge hkn (by omega)), pz_in (by omega) (by omega), pz_cl (by omega), h14 k hkn, pz_in (by omega) (by omega)]
      have F : ∀ y, y = nI (sp_mn f (k + 1)) → f_Mo_spreadOf_38 (f_Mo_spreadOf_8 g) (nI (sp_mx f k)) (nI k) y σ = some (be_o1 (sp_o f n), σ) := by
        intro y hy
        unfold f_Mo_spreadOf_38
        rw [pz_in (by omega) (by omega), pz_cl (by omega), h14 k hkn, pz_in (by omega) (by omega), nI_1, hy, ← ih (k + 1) g (by omega) (by omega)]
        by_cases e : f k ≤ sp_mx f k
        · rw [sv_if_t (nI_le e (by omega))]; simp only [sp_mx]; rw [if_neg (by omega)]
        · rw [sv_if_f (nI_ge (by omega) (by omega))]; simp only [sp_mx]; rw [if_pos (by omega)]
      by_cases e : sp_mn f k ≤ f k
      · rw [sv_if_t (nI_le e (by omega))]
        exact F _ (by simp only [sp_mn]; rw [if_neg (by omega)])
      · rw [sv_if_f (nI_ge (by omega) (by omega))]
        exact F _ (by simp only [sp_mn]; rw [if_pos (by omega)])
  exact G n 0 sv_fu (by omega) (by unfold sv_fu; omega)
theorem cl_spread {f : Nat → Nat} (hf : ∀ k, f k ≤ 100) {n bb : Nat} (hbb : bb ≤ 9999) (hn : n ≤ 10) {σ : sv_S} (h0 : σ 1 2 4 = nI n) (h7 : ∀ k, k < n → σ 2 (10 * 2 + k) 7 = if f k = 0 then 0 else nI (bb + f k)) : f_Li_spreadIn_13 sv_fu 2 (0 : Int32) (0 : Int32) (0 : Int32) σ = some (be_op (sp_o f n), σ) := by
  have G : ∀ (r k fuel : Nat) (x y : Int32), k + r = n → r < fuel → (∀ j, j < k → f j ≠ 0) → (k = 0 ∧ x = 0 ∧ y = 0 ∨ 1 ≤ k ∧ x = nI (bb + sp_mn f k) ∧ y = nI (bb + sp_mx f k)) → f_Li_spreadIn_13 fuel 2 x y (nI k) σ = some (be_op (sp_o f n), σ) := by
    intro r
    induction r with
    | zero =>
      intro k fuel x y hk hff hnz hxy
      obtain ⟨g, rfl⟩ : ∃ g, fuel = g + 1 := ⟨fuel - 1, by omega⟩
      have hk : k = n := by omega
      subst hk
      rw [f_Li_spreadIn_13, h0, sv_if_t (nI_le (Nat.le_refl k) (by omega))]
      unfold sp_o
      rcases hxy with ⟨e, rfl, rfl⟩ | ⟨e, rfl, rfl⟩
      · subst e
        rw [sv_if_t (show nI 0 = (0 : Int32) from rfl), if_pos (Or.inl rfl)]; rfl
      · have hp := sp_mn_p f k hnz
        have hl := sp_le f hf k e
        rw [sv_if_f (nI_ne0 (by omega) (by omega)), if_neg (by omega), pk_sub (by omega)]
        show some (nI _, σ) = some (nI _, σ)
        congr 3
        omega
    | succ r ih =>
      intro k fuel x y hk hff hnz hxy
      obtain ⟨g, rfl⟩ : ∃ g, fuel = g + 1 := ⟨fuel - 1, by omega⟩
      have hkn : k < n := by omega
      have hfk := hf k
      rw [f_Li_spreadIn_13, h0, sv_if_f (nI_ge hkn (by omega)), be_ln3 (by omega), pz_in (by omega) (by omega), pz_cl (by omega), h7 k hkn]
      by_cases e0 : f k = 0
      · rw [if_pos e0, sv_if_t rfl]
        unfold sp_o
        rw [if_pos (Or.inr (sp_mn_0 f e0 n hkn))]; rfl
      · rw [if_neg e0, sv_if_f (nI_ne0 (by omega) (by omega))]
        have hnz' : ∀ j, j < k + 1 → f j ≠ 0 := fun j hj => by
          by_cases ej : j = k
          · subst ej; exact e0
          · exact hnz j (by omega)
        rcases hxy with ⟨e, rfl, rfl⟩ | ⟨e, rfl, rfl⟩
        · subst e
          rw [sv_if_t (show nI 0 = (0 : Int32) from rfl)]
          unfold f_Li_spreadIn_58 f_Jm_max
          rw [pz_b, if_pos (show (0 : Int32) < nI (bb + f 0) from nI_lt (a := 0) (by omega) (by omega)), nI_1]
          refine ih (0 + 1) g _ _ (by omega) (by omega) hnz' (Or.inr ⟨by omega, ?_, ?_⟩)
          · rw [sp_mn_1 f (by omega)]
          · rw [sp_mx_1]
        · have hl := sp_le f hf k e
          rw [sv_if_f (nI_ne0 (by omega) (by omega))]
          unfold f_Li_spreadIn_58 f_Jm_max f_Jm_min
          rw [pz_b, pz_b, nI_1]
          refine ih (k + 1) g _ _ (by omega) (by omega) hnz' (Or.inr ⟨by omega, ?_, ?_⟩)
          · simp only [sp_mn]
            by_cases e1 : f k < sp_mn f k
            · rw [if_pos (nI_lt (by omega) (by omega)), if_pos e1]
            · rw [if_neg (nI_nlt (by omega) (by omega)), if_neg e1]
          · simp only [sp_mx]
            by_cases e1 : sp_mx f k < f k
            · rw [if_pos (nI_lt (by omega) (by omega)), if_pos e1]
            · rw [if_neg (nI_nlt (by omega) (by omega)), if_neg e1]
  exact G n 0 sv_fu 0 0 (by omega) (by unfold sv_fu; omega) (fun j hj => absurd hj (Nat.not_lt_zero j)) (Or.inl ⟨rfl, rfl, rfl⟩)
theorem sp_r (f : Nat → Nat) (hf : ∀ k, f k ≤ 100) {n k : Nat} (h : sp_o f n = some k) : k ≤ 100 := by
  unfold sp_o at h
  split at h
  · cases h
  · cases h
    have := sp_mx_le f hf n
    omega
section SPR
variable {hr sr : be_F} {n : Nat} {m b z : Int32} {d e : be_D} {σ0 : sv_S}
theorem cl_spreadIn {N bb : Nat} (hN : N ≤ 100) (hb : b = nI bb) (hbb : bb ≤ 9999) (hok : be_ok n d) (hq : be_q n e d) (hoe : be_ok n e) (h6 : ∀ k, k < n → e k 6 = 0) (hn : n ≤ 10) {σ : sv_S} (hT : be_TC hr sr 2 n m b z e σ0 0 σ) : ∃ σ', f_Li_spreadIn 2 (nI N) σ = some (be_op (sp_o (fun k => be_f (be_s hr sr n m b z d) k N) n), σ') ∧ be_fC 2 σ0 σ' := by
  obtain ⟨τ, g1, g2⟩ := cl_pass (hr := hr) (sr := sr) (m := m) (b := b) (z := z) (N := N) (by omega) hok hq hoe hn N 0 sv_fu σ (by omega) (by unfold sv_fu; omega) hT
  refine ⟨τ, ?_, g2.2.2.2.1⟩
  unfold f_Li_spreadIn
  rw [show f_Li_pass 2 (nI N) σ = _ from g1, pz_b]
  refine cl_spread (bb := bb) (fun k => Nat.le_trans (be_f_le _ _ _) hN) hbb hn g2.1.1 (fun k hk => ?_)
  rw [show τ 2 (10 * 2 + k) 7 = (be_it hr sr n m b z e N).2 k 6 from g2.1.at hk 6 (by omega), be_f6 hb hbb k (h6 k hk) N (by omega), be_f_congr N (fun j => be_q_s hq j hk)]
end SPR
