/-! ===== pure: the reference's goesOn, its loops ===== -/
def be_fM (σ τ : sv_S) : Prop := (∀ r i, ¬ (r = 31 ∧ (i = 0 ∨ i = 12 ∨ i = 28 ∨ i = 29)) → τ r i = σ r i) ∧ (∀ j, 86 ≤ j → τ 31 0 j = σ 31 0 j) ∧ τ 31 0 1 = σ 31 0 1
theorem be_fM.rfl' (σ : sv_S) : be_fM σ σ := ⟨fun _ _ _ => rfl, fun _ _ => rfl, rfl⟩
theorem be_fM.tr {σ τ υ : sv_S} (h : be_fM σ τ) (g : be_fM τ υ) : be_fM σ υ := ⟨fun r i q => (g.1 r i q).trans (h.1 r i q), fun j q => (g.2.1 j q).trans (h.2.1 j q), g.2.2.trans h.2.2⟩
theorem be_eM.f {σ τ : sv_S} (h : be_eM σ τ) : be_fM σ τ := ⟨fun r i q => h r i (fun e => q ⟨e.1, Or.inr (Or.inr e.2)⟩), fun j _ => by rw [h.s], by rw [h.s]⟩
theorem be_fM.L {σ τ : sv_S} (h : be_fM σ τ) {q : Nat} {f : be_F} (c : be_LM σ q f) : be_LM τ q f := c.to h.2.2 h.2.1
theorem be_fM.up {σ : sv_S} {j : Nat} {v : Int32} (h1 : j ≠ 1) (h2 : j < 86) : be_fM σ (sv_up σ 31 0 j v) := ⟨fun r i q => pz_up (fun e => q ⟨e.1, Or.inl e.2⟩), fun k hk => pz_uk (by omega), pz_uk (by omega)⟩
theorem be_fM.upw {σ : sv_S} {j : Nat} {v : Int32} : be_fM σ (sv_up σ 31 12 j v) := ⟨fun r i q => pz_up (fun e => q ⟨e.1, Or.inr (Or.inl e.2)⟩), fun k hk => pz_ui (by decide), pz_ui (by decide)⟩
section BEG
variable {n : Nat} {b m z : Int32} {d : be_D} {hr sr : be_F}
theorem mo_goes4 (hok : be_ok n d) (hn : n ≤ 10) : ∀ (r k fuel : Nat) (σ : sv_S), k + r = n → r < fuel → be_M σ n b m z d → be_LM σ 0 hr → ∃ σ', f_Mo_goesOn_4 fuel (be_mk (be_hr hr n d) k) (nI k) σ = f_Mo_goesOn_40 sv_fu (be_mk (be_hr hr n d) n) 0 σ' ∧ be_eM σ σ' := by
  intro r
  induction r with
  | zero =>
    intro k fuel σ hk hf hC hL
    obtain ⟨f, rfl⟩ : ∃ f, fuel = f + 1 := ⟨fuel - 1, by omega⟩
    have hk : k = n := by omega
    subst hk
    refine ⟨σ, ?_, be_eM.rfl' σ⟩
    rw [f_Mo_goesOn_4, pz_i0 _ (by omega), show σ 31 0 ((0 : Int32).toNatClampNeg) = nI k from hC.1, sv_if_t (nI_le (Nat.le_refl k) (by omega))]
  | succ r ih =>
    intro k fuel σ hk hf hC hL
    obtain ⟨f, rfl⟩ : ∃ f, fuel = f + 1 := ⟨fuel - 1, by omega⟩
    have hkn : k < n := by omega
    obtain ⟨τ, g1, g2⟩ := mo_hears hC hok hL hn hkn
    obtain ⟨υ, g3, g4⟩ := ih (k + 1) f τ (by omega) (by omega) (g2.M hC) (g2.L hL)
    refine ⟨υ, ?_, g2.tr g4⟩
    rw [f_Mo_goesOn_4, pz_i0 _ (by omega), show σ 31 0 ((0 : Int32).toNatClampNeg) = nI n from hC.1, sv_if_f (nI_ge hkn (by omega)), g1, pz_b, nI_1, ← g3]
    cases hh : be_hr hr n d k with
    | true => rw [if_pos rfl, sv_if_f (by decide)]; simp [be_mk, hh]
    | false => rw [if_neg (by simp), sv_if_t rfl]; simp [be_mk, hh]
/-- the reference's line with the first k counts new -/
def mo_I (hr sr : be_F) (n : Nat) (b m z : Int32) (d : be_D) (k : Nat) (σ : sv_S) : Prop := σ 31 0 0 = nI n ∧ σ 31 0 3 = b ∧ σ 31 0 2 = m ∧ σ 31 0 4 = be_z d z k ∧ (∀ i, i < n → ∀ j, j < 8 → σ 31 0 (6 + 8 * i + j) = if i < k ∧ j = 2 then be_nc hr sr n m b z d i else d i j) ∧ ∀ i, i < k → σ 31 12 i = d i 2
theorem mo_put2 {k : Nat} {σ τ : sv_S} (hk : k < n) (hn : n ≤ 10) (hI : mo_I hr sr n b m z d k σ) (hw : τ 31 12 k = d k 2) (hw2 : ∀ i, i ≠ k → τ 31 12 i = σ 31 12 i) (h4 : τ 31 0 4 = be_z d z (k + 1)) (ho : ∀ j, j ≠ 4 → τ 31 0 j = σ 31 0 j) : mo_I hr sr n b m z d (k + 1) (sv_up τ 31 0 (6 + 8 * k + 2) (be_nc hr sr n m b z d k)) := by
  obtain ⟨i1, i2, i3, i4, i5, i6⟩ := hI
  refine ⟨by rw [pz_uk (by omega), ho 0 (by omega)]; exact i1, by rw [pz_uk (by omega), ho 3 (by omega)]; exact i2, by rw [pz_uk (by omega), ho 2 (by omega)]; exact i3, by rw [pz_uk (by omega)]; exact h4, fun i hi j hj => ?_, fun i hi => ?_⟩
  · by_cases he : i = k ∧ j = 2
    · obtain ⟨rfl, rfl⟩ := he
      rw [pz_us, if_pos ⟨by omega, rfl⟩]
    · rw [pz_uk (by omega), ho _ (by omega), i5 i hi j hj]
      by_cases hc : i < k ∧ j = 2
      · rw [if_pos hc, if_pos ⟨by omega, hc.2⟩]
      · rw [if_neg hc, if_neg (by omega)]
  · rw [pz_ui (by decide)]
    by_cases he : i = k
    · subst he; exact hw
    · rw [hw2 i he]; exact i6 i (by omega)
theorem mo_goes40 (hok : be_ok n d) (hn : n ≤ 10) : ∀ (r k fuel : Nat) (σ : sv_S), k + r = n → r < fuel → mo_I hr sr n b m z d k σ → be_LM σ 1 sr → ∃ σ', f_Mo_goesOn_40 fuel (be_mk (be_hr hr n d) n) (nI k) σ = f_Mo_goesOn_159 sv_fu 0 0 (sv_up σ' 31 0 3 (b + 1)) ∧ mo_I hr sr n b m z d n σ' ∧ be_fM σ σ' := by
  intro r
  induction r with
  | zero =>
    intro k fuel σ hk hf hI hL
    obtain ⟨f, rfl⟩ : ∃ f, fuel = f + 1 := ⟨fuel - 1, by omega⟩
    have hk : k = n := by omega
    subst hk
    refine ⟨σ, ?_, hI, be_fM.rfl' σ⟩
    rw [f_Mo_goesOn_40, pz_i0 _ (by omega), show σ 31 0 ((0 : Int32).toNatClampNeg) = nI k from hI.1, sv_if_t (nI_le (Nat.le_refl k) (by omega)), sv_g_t ⟨by decide, by decide⟩, sv_g_t ⟨by decide, by decide⟩, show σ 31 0 ((3 : Int32).toNatClampNeg) = b from hI.2.1]
    rfl
  | succ r ih =>
    intro k fuel σ hk hf hI hL
    obtain ⟨f, rfl⟩ : ∃ f, fuel = f + 1 := ⟨fuel - 1, by omega⟩
    have hkn : k < n := by omega
    have hI0 := hI
    obtain ⟨i1, i2, i3, i4, i5, i6⟩ := hI
    have hd : ∀ j, j < 8 → σ 31 0 (6 + 8 * k + j) = d k j := fun j hj => by rw [i5 k hkn j hj, if_neg (by omega)]
    obtain ⟨q, hq, eq⟩ := (hok k hkn).1
    obtain ⟨u, hu, eu⟩ := (hok k hkn).2.2.1
    rw [f_Mo_goesOn_40, pz_i0 _ (by omega), show σ 31 0 ((0 : Int32).toNatClampNeg) = nI n from i1, sv_if_f (nI_ge hkn (by omega)), mo_of2 (by omega), pz_b, hd 2 (by omega), pz_in (by omega) (by omega), pz_cl (by omega), nI_1]
    have w1 : sv_up σ 31 12 k (d k 2) 31 12 k = d k 2 := pz_us _ _ _ _ _
    have w2 : ∀ i, i ≠ k → sv_up σ 31 12 k (d k 2) 31 12 i = σ 31 12 i := fun i hi => pz_uk hi
    have w3 : ∀ j, sv_up σ 31 12 k (d k 2) 31 0 j = σ 31 0 j := fun j => pz_ui (by decide)
    have fw : be_fM σ (sv_up σ 31 12 k (d k 2)) := be_fM.upw
    have go : ∀ τ, mo_I hr sr n b m z d (k + 1) (sv_up τ 31 0 (6 + 8 * k + 2) (be_nc hr sr n m b z d k)) → be_fM σ τ → ∃ σ', f_Mo_goesOn_40 f (be_mk (be_hr hr n d) n) (nI (k + 1)) (sv_up τ 31 0 (6 + 8 * k + 2) (be_nc hr sr n m b z d k)) = f_Mo_goesOn_159 sv_fu 0 0 (sv_up σ' 31 0 3 (b + 1)) ∧ mo_I hr sr n b m z d n σ' ∧ be_fM σ σ' := by
      intro τ hτ hf
      have hf2 := hf.tr (be_fM.up (σ := τ) (j := 6 + 8 * k + 2) (v := be_nc hr sr n m b z d k) (by omega) (by omega))
      obtain ⟨σ', y1, y2, y3⟩ := ih (k + 1) f _ (by omega) (by omega) hτ (hf2.L hL)
      exact ⟨σ', y1, y2, hf2.tr y3⟩
    by_cases hc : d k 2 = 0
    · rw [sv_if_t hc]
      have ez : be_z d z (k + 1) = be_z d z k := by simp [be_z, hc]
      rw [be_mk_bit _ (by omega) hkn]
      cases hh : be_hr hr n d k with
      | true =>
        have enc : be_nc hr sr n m b z d k = be_wk sr b d k := by unfold be_nc; rw [if_pos hc, hh, if_pos rfl]
        obtain ⟨τ, g1, g2⟩ := mo_wakes (σ := sv_up σ 31 12 k (d k 2)) (b := b) (d := d) (n := n) (k := k) (sr := sr) (by rw [w3]; exact i2) (by rw [w3]; exact hd 0 (by omega)) (by rw [w3]; exact hd 1 (by omega)) hok (fw.L hL) hn hkn
        rw [if_pos rfl, sv_if_t rfl, g1, pz_b, mo_sets2 (by omega), pz_b0, ← enc]
        refine go τ (mo_put2 hkn hn hI0 ?_ (fun i hi => ?_) ?_ (fun j _ => by rw [g2.s, w3])) (fw.tr g2.f)
        · rw [g2 31 12 (by omega)]; exact w1
        · rw [g2 31 12 (by omega)]; exact w2 i hi
        · rw [g2.s, w3, ez]; exact i4
      | false =>
        have enc : be_nc hr sr n m b z d k = 0 := by unfold be_nc; rw [if_pos hc, hh, if_neg (by simp)]
        rw [if_neg (by simp), sv_if_f (by decide), mo_sets2 (by omega), pz_b0]
        have g := go (sv_up σ 31 12 k (d k 2)) (mo_put2 hkn hn hI0 w1 w2 (by rw [w3, ez]; exact i4) (fun j _ => w3 j)) fw
        rw [enc] at g
        exact g
    · rw [sv_if_f hc]
      have hu1 : 1 ≤ u := by
        by_cases hu0 : u = 0
        · subst hu0; exact absurd eu hc
        · omega
      have ez : be_z d z (k + 1) = be_nz (be_z d z k) := by simp [be_z, hc]
      unfold f_Mo_drawn
      rw [sv_g_t ⟨by decide, by decide⟩, sv_g_t ⟨by decide, by decide⟩, sv_g_t ⟨by decide, by decide⟩]
      show ∃ σ', sv_b (some (be_dr (sv_up (sv_up σ 31 12 k (d k 2)) 31 0 4 (be_nz (sv_up σ 31 12 k (d k 2) 31 0 4)) 31 0 4), sv_up (sv_up σ 31 12 k (d k 2)) 31 0 4 (be_nz (sv_up σ 31 12 k (d k 2) 31 0 4)))) _ = _ ∧ _
      rw [pz_us, w3, i4, pz_b, sv_g_t (by decide), sv_g_t ⟨by decide, by decide⟩]
      rw [show sv_up (sv_up σ 31 12 k (d k 2)) 31 0 4 (be_nz (be_z d z k)) 31 0 ((2 : Int32).toNatClampNeg) = m by rw [pz_uk (by decide), w3]; exact i3]
      have ft : be_fM σ (sv_up (sv_up σ 31 12 k (d k 2)) 31 0 4 (be_nz (be_z d z k))) := fw.tr (be_fM.up (by omega) (by omega))
      have hput : mo_I hr sr n b m z d (k + 1) (sv_up (sv_up (sv_up σ 31 12 k (d k 2)) 31 0 4 (be_nz (be_z d z k))) 31 0 (6 + 8 * k + 2) (be_nc hr sr n m b z d k)) := mo_put2 hkn hn hI0 (by rw [pz_ui (by decide)]; exact w1) (fun i hi => by rw [pz_ui (by decide)]; exact w2 i hi) (by rw [pz_us, ez]) (fun j hj => by rw [pz_uk hj]; exact w3 j)
      by_cases hm : m ≤ be_dr (be_nz (be_z d z k)) - be_dr (be_nz (be_z d z k)) / 100 * 100
      · have enc : be_nc hr sr n m b z d k = be_sp b (d k 2) (d k 0) := by unfold be_nc; rw [if_neg hc, if_pos hm]
        rw [sv_if_t hm]
        unfold f_Mo_goesOn_116
        have hs := mo_step (b := b) (q := q) (u := u) (k := k) (τ := sv_up (sv_up σ 31 12 k (d k 2)) 31 0 4 (be_nz (be_z d z k))) (by omega) hq hu1 hu (by rw [pz_uk (by omega), w3, hd 0 (by omega), eq]) (by rw [pz_uk (by decide), w3]; exact i2)
        rw [← eu, ← eq] at hs
        rw [sv_if_t rfl, hs, pz_b, mo_sets2 (by omega), pz_b0, nI_1, ← enc]
        exact go _ hput ft
      · have enc : be_nc hr sr n m b z d k = d k 2 := by unfold be_nc; rw [if_neg hc, if_neg hm]
        rw [sv_if_f hm]
        unfold f_Mo_goesOn_116
        rw [sv_if_f (by decide), mo_sets2 (by omega), pz_b0, nI_1]
        have g := go _ hput ft
        rw [enc] at g
        exact g
/-- the last loop: strokes -/
def mo_J (hr sr : be_F) (n : Nat) (b m z : Int32) (d : be_D) (k : Nat) (σ : sv_S) : Prop := σ 31 0 0 = nI n ∧ σ 31 0 3 = b + 1 ∧ σ 31 0 2 = m ∧ σ 31 0 4 = be_z d z n ∧ (∀ i, i < n → ∀ j, j < 8 → σ 31 0 (6 + 8 * i + j) = if i < k then be_d hr sr n m b z d i j else if j = 2 then be_nc hr sr n m b z d i else d i j) ∧ ∀ i, i < n → σ 31 12 i = d i 2
theorem mo_goes159 (hok : be_ok n d) (hn : n ≤ 10) : ∀ (r k fuel : Nat) (σ : sv_S), k + r = n → r < fuel → mo_J hr sr n b m z d k σ → ∃ σ', f_Mo_goesOn_159 fuel (be_mk (be_sk hr sr n m b z d) k) (nI k) σ = some (be_mk (be_sk hr sr n m b z d) n, σ') ∧ be_M σ' n (b + 1) m (be_z d z n) (be_d hr sr n m b z d) ∧ be_fM σ σ' := by
  intro r
  induction r with
  | zero =>
    intro k fuel σ hk hf hI
    obtain ⟨f, rfl⟩ : ∃ f, fuel = f + 1 := ⟨fuel - 1, by omega⟩
    have hk : k = n := by omega
    subst hk
    obtain ⟨i1, i2, i3, i4, i5, i6⟩ := hI
    refine ⟨σ, ?_, ⟨i1, i2, i3, i4, fun i hi j hj => by rw [i5 i hi j hj, if_pos hi]⟩, be_fM.rfl' σ⟩
    rw [f_Mo_goesOn_159, pz_i0 _ (by omega), show σ 31 0 ((0 : Int32).toNatClampNeg) = nI k from i1, sv_if_t (nI_le (Nat.le_refl k) (by omega))]
  | succ r ih =>
    intro k fuel σ hk hf hI
    obtain ⟨f, rfl⟩ : ∃ f, fuel = f + 1 := ⟨fuel - 1, by omega⟩
    have hkn : k < n := by omega
    have hI0 := hI
    obtain ⟨i1, i2, i3, i4, i5, i6⟩ := hI
    have hd : ∀ j, j < 8 → σ 31 0 (6 + 8 * k + j) = if j = 2 then be_nc hr sr n m b z d k else d k j := fun j hj => by rw [i5 k hkn j hj, if_neg (by omega)]
    have d2 : σ 31 0 (6 + 8 * k + 2) = be_nc hr sr n m b z d k := by rw [hd 2 (by omega), if_pos rfl]
    have dj : ∀ j, j < 8 → j ≠ 2 → σ 31 0 (6 + 8 * k + j) = d k j := fun j hj h2 => by rw [hd j hj, if_neg h2]
    -- the state behind the drummer
    have go : ∀ τ, (∀ j, j < 8 → τ 31 0 (6 + 8 * k + j) = be_d hr sr n m b z d k j) → (∀ j, (j < 6 + 8 * k ∨ 6 + 8 * k + 8 ≤ j) → τ 31 0 j = σ 31 0 j) → (∀ r i, ¬ (r = 31 ∧ i = 0) → τ r i = σ r i) → ∃ σ', f_Mo_goesOn_159 f (be_mk (be_sk hr sr n m b z d) (k + 1)) (nI (k + 1)) τ = some (be_mk (be_sk hr sr n m b z d) n, σ') ∧ be_M σ' n (b + 1) m (be_z d z n) (be_d hr sr n m b z d) ∧ be_fM σ σ' := by
      intro τ h1 h2 h3
      have hf : be_fM σ τ := ⟨fun r i q => h3 r i (fun e => q ⟨e.1, Or.inl e.2⟩), fun j hj => h2 j (by omega), h2 1 (by omega)⟩
      have hJ : mo_J hr sr n b m z d (k + 1) τ := by
        refine ⟨by rw [h2 0 (by omega)]; exact i1, by rw [h2 3 (by omega)]; exact i2, by rw [h2 2 (by omega)]; exact i3, by rw [h2 4 (by omega)]; exact i4, fun i hi j hj => ?_, fun i hi => by rw [h3 31 12 (by omega)]; exact i6 i hi⟩
        by_cases he : i = k
        · subst he; rw [if_pos (by omega)]; exact h1 j hj
        · rw [h2 _ (by omega), i5 i hi j hj]
          by_cases hlt : i < k
          · rw [if_pos hlt, if_pos (by omega)]
          · rw [if_neg hlt, if_neg (by omega : ¬ i < k + 1)]
      obtain ⟨σ', y1, y2, y3⟩ := ih (k + 1) f τ (by omega) (by omega) hJ
      exact ⟨σ', y1, y2, hf.tr y3⟩
    rw [f_Mo_goesOn_159, pz_i0 _ (by omega), show σ 31 0 ((0 : Int32).toNatClampNeg) = nI n from i1, sv_if_f (nI_ge hkn (by omega)), mo_of3 (by omega), pz_b, dj 3 (by omega) (by omega), mo_sets4 (by omega), pz_b0, pz_in (by omega) (by omega), pz_cl (by omega), pz_ui (by decide), i6 k hkn, mo_sets3 (by omega), pz_b0, mo_of2 (by omega), pz_b, pz_uk (by omega), pz_uk (by omega), d2, nI_1]
    generalize hτ : sv_up (sv_up σ 31 0 (6 + 8 * k + 4) (d k 3)) 31 0 (6 + 8 * k + 3) (d k 2) = τ
    have t3 : τ 31 0 (6 + 8 * k + 3) = d k 2 := by rw [← hτ, pz_us]
    have t4 : τ 31 0 (6 + 8 * k + 4) = d k 3 := by rw [← hτ, pz_uk (by omega), pz_us]
    have to : ∀ j, j ≠ 6 + 8 * k + 3 → j ≠ 6 + 8 * k + 4 → τ 31 0 j = σ 31 0 j := fun j h1 h2 => by rw [← hτ, pz_uk h1, pz_uk h2]
    have tf : ∀ r i, ¬ (r = 31 ∧ i = 0) → τ r i = σ r i := fun r i h => by rw [← hτ, pz_up h, pz_up h]
    have t2 : τ 31 0 (6 + 8 * k + 2) = be_nc hr sr n m b z d k := by rw [to _ (by omega) (by omega)]; exact d2
    have tj : ∀ j, j < 8 → j ≠ 2 → j ≠ 3 → j ≠ 4 → τ 31 0 (6 + 8 * k + j) = d k j := fun j h1 h2 h3 h4 => by rw [to _ (by omega) (by omega)]; exact dj j h1 h2
    have hnos : be_sk hr sr n m b z d k = false → ∃ σ', f_Mo_goesOn_159 f (be_mk (be_sk hr sr n m b z d) k) (nI (k + 1)) τ = some (be_mk (be_sk hr sr n m b z d) n, σ') ∧ be_M σ' n (b + 1) m (be_z d z n) (be_d hr sr n m b z d) ∧ be_fM σ σ' := by
      intro hs
      have g := go τ (fun j hj => ?_) (fun j hj => to j (by omega) (by omega)) tf
      · have e : be_mk (be_sk hr sr n m b z d) (k + 1) = be_mk (be_sk hr sr n m b z d) k := by simp [be_mk, hs]
        rw [e] at g
        exact g
      · have hj : j = 0 ∨ j = 1 ∨ j = 2 ∨ j = 3 ∨ j = 4 ∨ j = 5 ∨ j = 6 ∨ j = 7 := by omega
        rcases hj with rfl | rfl | rfl | rfl | rfl | rfl | rfl | rfl
        · rw [be_d_0]; exact tj 0 (by omega) (by omega) (by omega) (by omega)
        · rw [be_d_1]; exact tj 1 (by omega) (by omega) (by omega) (by omega)
        · rw [be_d_2]; exact t2
        · rw [be_d_3]; exact t3
        · rw [be_d_4]; exact t4
        · rw [be_d_5, hs, if_neg (by simp)]; exact tj 5 (by omega) (by omega) (by omega) (by omega)
        · rw [be_d_6, hs, if_neg (by simp)]; exact tj 6 (by omega) (by omega) (by omega) (by omega)
        · rw [be_d_7]; exact tj 7 (by omega) (by omega) (by omega) (by omega)
    have hsk := be_sk_iff hr sr n m b z d k
    by_cases h9 : be_nc hr sr n m b z d k = 9
    · rw [sv_if_t h9, pz_in (by omega) (by omega), tf 31 12 (by omega), i6 k hkn]
      by_cases hc : d k 2 = 9
      · rw [sv_if_t hc]
        exact hnos (by simp [be_sk, hc])
      · have hs : be_sk hr sr n m b z d k = true := hsk.mp ⟨h9, hc⟩
        rw [sv_if_f hc, mo_of5 (by omega), pz_b, tj 5 (by omega) (by omega) (by omega) (by omega), mo_sets5 (by omega), pz_b0, mo_of6 (by omega), pz_b, pz_uk (by omega), tj 6 (by omega) (by omega) (by omega) (by omega)]
        have e : be_mk (be_sk hr sr n m b z d) k ||| ((1 : Int32) <<< (nI k &&& 31)) = be_mk (be_sk hr sr n m b z d) (k + 1) := by simp [be_mk, hs]
        rw [e]
        have fin : ∀ x, x = be_d hr sr n m b z d k 6 → ∃ σ', f_Mo_goesOn_159 f (be_mk (be_sk hr sr n m b z d) (k + 1)) (nI (k + 1)) (sv_up (sv_up τ 31 0 (6 + 8 * k + 5) (d k 5 + 1)) 31 0 (6 + 8 * k + 6) x) = some (be_mk (be_sk hr sr n m b z d) n, σ') ∧ be_M σ' n (b + 1) m (be_z d z n) (be_d hr sr n m b z d) ∧ be_fM σ σ' := by
          intro x hx
          refine go _ (fun j hj => ?_) (fun j hj => by rw [pz_uk (by omega), pz_uk (by omega)]; exact to j (by omega) (by omega)) (fun r i h => by rw [pz_up h, pz_up h]; exact tf r i h)
          have hj : j = 0 ∨ j = 1 ∨ j = 2 ∨ j = 3 ∨ j = 4 ∨ j = 5 ∨ j = 6 ∨ j = 7 := by omega
          rcases hj with rfl | rfl | rfl | rfl | rfl | rfl | rfl | rfl
          · rw [be_d_0, pz_uk (by omega), pz_uk (by omega)]; exact tj 0 (by omega) (by omega) (by omega) (by omega)
          · rw [be_d_1, pz_uk (by omega), pz_uk (by omega)]; exact tj 1 (by omega) (by omega) (by omega) (by omega)
          · rw [be_d_2, pz_uk (by omega), pz_uk (by omega)]; exact t2
          · rw [be_d_3, pz_uk (by omega), pz_uk (by omega)]; exact t3
          · rw [be_d_4, pz_uk (by omega), pz_uk (by omega)]; exact t4
          · rw [be_d_5, hs, if_pos rfl, pz_uk (by omega), pz_us]
          · rw [pz_us]; exact hx
          · rw [be_d_7, pz_uk (by omega), pz_uk (by omega)]; exact tj 7 (by omega) (by omega) (by omega) (by omega)
        by_cases h6 : d k 6 = 0
        · rw [sv_if_t h6, sv_g_t ⟨by decide, by decide⟩, show sv_up τ 31 0 (6 + 8 * k + 5) (d k 5 + 1) 31 0 ((3 : Int32).toNatClampNeg) = b + 1 by rw [pz_uk (by show (3 : Nat) ≠ _; omega)]; exact (to 3 (by omega) (by omega)).trans i2, mo_sets6 (by omega), pz_b0]
          exact fin _ (by rw [be_d_6, hs, if_pos rfl, if_pos h6])
        · rw [sv_if_f h6, mo_of6 (by omega), pz_b, pz_uk (by omega), tj 6 (by omega) (by omega) (by omega) (by omega), mo_sets6 (by omega), pz_b0]
          exact fin _ (by rw [be_d_6, hs, if_pos rfl, if_neg h6])
    · rw [sv_if_f h9]
      exact hnos (by simp [be_sk, h9])
theorem be_goesM (hok : be_ok n d) (hn : n ≤ 10) {σ : sv_S} (hC : be_M σ n b m z d) (h0 : be_LM σ 0 hr) (h1 : be_LM σ 1 sr) : ∃ σ', f_Mo_goesOn σ = some (be_mk (be_sk hr sr n m b z d) n, σ') ∧ be_M σ' n (b + 1) m (be_z d z n) (be_d hr sr n m b z d) ∧ be_fM σ σ' := by
  obtain ⟨τ, g1, g2⟩ := mo_goes4 hok hn n 0 sv_fu σ (by omega) (by unfold sv_fu; omega) hC h0
  have hC' := g2.M hC
  obtain ⟨υ, y1, y2, y3⟩ := mo_goes40 (hr := hr) (sr := sr) (z := z) hok hn n 0 sv_fu τ (by omega) (by unfold sv_fu; omega) ⟨hC'.1, hC'.2.1, hC'.2.2.1, hC'.2.2.2.1, fun i hi j hj => by rw [if_neg (by omega)]; exact hC'.at hi j hj, fun i hi => absurd hi (Nat.not_lt_zero i)⟩ (g2.L h1)
  obtain ⟨i1, i2, i3, i4, i5, i6⟩ := y2
  obtain ⟨ω, x1, x2, x3⟩ := mo_goes159 (hr := hr) (sr := sr) (z := z) (m := m) (b := b) hok hn n 0 sv_fu (sv_up υ 31 0 3 (b + 1)) (by omega) (by unfold sv_fu; omega) ⟨by rw [pz_uk (by omega)]; exact i1, pz_us _ _ _ _ _, by rw [pz_uk (by omega)]; exact i3, by rw [pz_uk (by omega)]; exact i4, fun i hi j hj => by
    rw [pz_uk (by omega), i5 i hi j hj, if_neg (Nat.not_lt_zero i)]
    by_cases hj2 : j = 2
    · rw [if_pos ⟨hi, hj2⟩, if_pos hj2]
    · rw [if_neg (fun e => hj2 e.2), if_neg hj2], fun i hi => by rw [pz_ui (by decide)]; exact i6 i hi⟩
  refine ⟨ω, (g1.trans y1).trans x1, x2, (g2.f.tr y3).tr ((be_fM.up (by omega) (by omega)).tr x3)⟩
end BEG
