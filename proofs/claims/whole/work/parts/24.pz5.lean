/-! ===== pure: the class's passOne ===== -/
/-- all but one drummer -/
theorem be_moves (i : Nat) (v nb : Int32) (σ : sv_S) : ∃ σ', f_Dr_moves i v nb σ = some (if v = 9 ∧ σ 2 i 2 ≠ 9 then 1 else 0, σ') ∧ (∀ r i', ¬ (r = 2 ∧ i' = i) → σ' r i' = σ r i') ∧ σ' 2 i 0 = σ 2 i 0 ∧ σ' 2 i 1 = σ 2 i 1 ∧ σ' 2 i 2 = v ∧ σ' 2 i 3 = σ 2 i 2 ∧ σ' 2 i 4 = σ 2 i 3 ∧ σ' 2 i 5 = (if v = 9 ∧ σ 2 i 2 ≠ 9 then σ 2 i 5 + 1 else σ 2 i 5) ∧ σ' 2 i 6 = σ 2 i 6 ∧ σ' 2 i 7 = (if v = 9 ∧ σ 2 i 2 ≠ 9 then (if σ 2 i 7 = 0 then nb else σ 2 i 7) else σ 2 i 7) := by
  unfold f_Dr_moves
  have up4 : ∀ (τ : sv_S) (k : Nat) (x : Int32) (r i' : Nat), ¬ (r = 2 ∧ i' = i) → sv_up τ 2 i k x r i' = τ r i' := fun τ k x r i' h => pz_up h
  by_cases h9 : v = 9
  · by_cases hc : σ 2 i 2 = 9
    · refine ⟨sv_up (sv_up (sv_up σ 2 i 4 (σ 2 i 3)) 2 i 3 (σ 2 i 2)) 2 i 2 v, ?_, fun r i' h => by rw [up4 _ _ _ _ _ h, up4 _ _ _ _ _ h, up4 _ _ _ _ _ h], ?_⟩
      · simp [sv_up, sv_if, sv_g, h9, hc]
      · simp [sv_up, h9, hc]
    · by_cases hf : σ 2 i 7 = 0
      · refine ⟨sv_up (sv_up (sv_up (sv_up (sv_up σ 2 i 4 (σ 2 i 3)) 2 i 3 (σ 2 i 2)) 2 i 2 v) 2 i 5 (σ 2 i 5 + 1)) 2 i 7 nb, ?_, fun r i' h => by rw [up4 _ _ _ _ _ h, up4 _ _ _ _ _ h, up4 _ _ _ _ _ h, up4 _ _ _ _ _ h, up4 _ _ _ _ _ h], ?_⟩
        · simp [sv_up, sv_if, sv_g, h9, hc, hf]
        · simp [sv_up, h9, hc, hf]
      · refine ⟨sv_up (sv_up (sv_up (sv_up σ 2 i 4 (σ 2 i 3)) 2 i 3 (σ 2 i 2)) 2 i 2 v) 2 i 5 (σ 2 i 5 + 1), ?_, fun r i' h => by rw [up4 _ _ _ _ _ h, up4 _ _ _ _ _ h, up4 _ _ _ _ _ h, up4 _ _ _ _ _ h], ?_⟩
        · simp [sv_up, sv_if, sv_g, h9, hc, hf]
        · simp [sv_up, h9, hc, hf]
  · refine ⟨sv_up (sv_up (sv_up σ 2 i 4 (σ 2 i 3)) 2 i 3 (σ 2 i 2)) 2 i 2 v, ?_, fun r i' h => by rw [up4 _ _ _ _ _ h, up4 _ _ _ _ _ h, up4 _ _ _ _ _ h], ?_⟩
    · simp [sv_up, sv_if, sv_g, h9]
    · simp [sv_up, h9]
/-- all but the drummers of a line, its own numbers and scratch -/
def be_fC (a : Nat) (σ τ : sv_S) : Prop := ∀ r i, r ≠ 20 → ¬ (r = 2 ∧ 10 * a ≤ i ∧ i < 10 * a + 10) → ¬ (r = 1 ∧ i = a) → τ r i = σ r i
theorem be_fC.rfl' (a : Nat) (σ : sv_S) : be_fC a σ σ := fun _ _ _ _ _ => rfl
theorem be_fC.tr {a : Nat} {σ τ υ : sv_S} (h : be_fC a σ τ) (g : be_fC a τ υ) : be_fC a σ υ := fun r i h1 h2 h3 => (g r i h1 h2 h3).trans (h r i h1 h2 h3)
theorem be_e20.f {σ τ : sv_S} (h : be_e20 σ τ) (a : Nat) : be_fC a σ τ := fun r i hr _ _ => by rw [h r hr]
theorem be_fC.T {a : Nat} {σ τ : sv_S} (h : be_fC a σ τ) (h8 : τ 1 a 8 = σ 1 a 8) (c : Nat) (hc : c = a ∨ τ 1 c 8 = σ 1 c 8) : be_eT c σ τ := by
  refine ⟨funext fun i => h 18 i (by decide) (fun q => absurd q.1 (by decide)) (fun q => absurd q.1 (by decide)), funext fun i => h 19 i (by decide) (fun q => absurd q.1 (by decide)) (fun q => absurd q.1 (by decide)), funext fun i => h 22 i (by decide) (fun q => absurd q.1 (by decide)) (fun q => absurd q.1 (by decide)), h 5 c (by decide) (fun q => absurd q.1 (by decide)) (fun q => absurd q.1 (by decide)), h 4 c (by decide) (fun q => absurd q.1 (by decide)) (fun q => absurd q.1 (by decide)), ?_⟩
  rcases hc with rfl | hc
  · exact h8
  · exact hc
section BEP
variable {a n : Nat} {b m z : Int32} {d : be_D} {hr sr : be_F}
/-- who hears, of those who don't count -/
def be_hq (hr : be_F) (n : Nat) (d : be_D) (k : Nat) : Bool := decide (d k 2 = 0) && be_hr hr n d k
theorem be_pass4 (hok : be_ok n d) (ha : a < 3) (hn : n ≤ 10) : ∀ (r k fuel : Nat) (σ : sv_S), k + r = n → r < fuel → be_C σ a n b m z d → be_LC σ a 0 hr → ∃ σ', f_Li_passOne_4 fuel a (be_mk (be_hq hr n d) k) (nI k) σ = f_Li_passOne_58 sv_fu a (be_mk (be_hq hr n d) n) 0 0 σ' ∧ be_e20 σ σ' := by
  intro r
  induction r with
  | zero =>
    intro k fuel σ hk hf hC hL
    obtain ⟨f, rfl⟩ : ∃ f, fuel = f + 1 := ⟨fuel - 1, by omega⟩
    have hk : k = n := by omega
    subst hk
    refine ⟨σ, ?_, be_e20.rfl' σ⟩
    rw [f_Li_passOne_4, hC.1, sv_if_t (nI_le (Nat.le_refl k) (by omega))]
  | succ r ih =>
    intro k fuel σ hk hf hC hL
    obtain ⟨f, rfl⟩ : ∃ f, fuel = f + 1 := ⟨fuel - 1, by omega⟩
    have hkn : k < n := by omega
    obtain ⟨q, hq, eq⟩ := (hok k hkn).1
    rw [f_Li_passOne_4, hC.1, sv_if_f (nI_ge hkn (by omega)), be_ln3 ha, pz_in (by omega) (by omega), pz_cl (by omega), nI_1, show σ 2 (10 * a + k) 2 = d k 2 from hC.at hkn 2 (by omega)]
    by_cases h2 : d k 2 = 0
    · rw [sv_if_t h2, pz_in (by omega) (by omega), be_kindC hq (show σ 2 (10 * a + k) 0 = nI q by rw [← eq]; exact hC.at hkn 0 (by omega)), pz_b]
      obtain ⟨τ, g1, g2⟩ := be_hearC hC hok hL ha hn hkn hq eq
      obtain ⟨υ, g3, g4⟩ := ih (k + 1) f τ (by omega) (by omega) (g2.C hC) (hL.to (g2.T a))
      rw [g1, pz_b]
      refine ⟨υ, ?_, g2.tr g4⟩
      rw [← g3]
      cases hh : be_hr hr n d k with
      | true => rw [if_pos rfl, sv_if_f (by decide)]; simp [be_mk, be_hq, h2, hh]
      | false => rw [if_neg (by simp), sv_if_t rfl]; simp [be_mk, be_hq, hh]
    · rw [sv_if_f h2]
      obtain ⟨υ, g3, g4⟩ := ih (k + 1) f σ (by omega) (by omega) hC hL
      refine ⟨υ, ?_, g4⟩
      rw [← g3]
      simp [be_mk, be_hq, h2]
/-- the line within a beat: the first k are through -/
def be_I (hr sr : be_F) (a n : Nat) (b m z : Int32) (d : be_D) (k : Nat) (σ : sv_S) : Prop := σ 1 a 4 = nI n ∧ σ 1 a 5 = b ∧ σ 1 a 6 = m ∧ σ 1 a 7 = be_z d z k ∧ ∀ i, i < n → ∀ j, j < 8 → σ 2 (10 * a + i) (be_p j) = if i < k then be_d hr sr n m b z d i j else d i j
theorem be_next (hok : be_ok n d) (ha : a < 3) (hn : n ≤ 10) {k : Nat} (hk : k < n) {σ : sv_S} (hI : be_I hr sr a n b m z d k σ) (hL : be_LC σ a 1 sr) : ∃ σ', f_Li_nextCount a (nI k) (if be_hq hr n d k then 1 else 0) σ = some (be_nc hr sr n m b z d k, σ') ∧ σ' 1 a 7 = be_z d z (k + 1) ∧ (∀ j, j ≠ 7 → σ' 1 a j = σ 1 a j) ∧ ∀ r i, r ≠ 20 → ¬ (r = 1 ∧ i = a) → σ' r i = σ r i := by
  obtain ⟨i1, i2, i3, i4, i5⟩ := hI
  have hd : ∀ j, j < 8 → σ 2 (10 * a + k) (be_p j) = d k j := fun j hj => by rw [i5 k hk j hj, if_neg (Nat.lt_irrefl k)]
  obtain ⟨q, hq, eq⟩ := (hok k hk).1
  obtain ⟨u, hu, eu⟩ := (hok k hk).2.2.1
  have h0 : σ 2 (10 * a + k) 0 = d k 0 := hd 0 (by omega)
  have h1 : σ 2 (10 * a + k) 1 = d k 1 := hd 1 (by omega)
  have h2 : σ 2 (10 * a + k) 2 = d k 2 := hd 2 (by omega)
  unfold f_Li_nextCount be_nc
  rw [be_ln3 ha, pz_in (by omega) (by omega), pz_cl (by omega), h2]
  by_cases hc : d k 2 = 0
  · rw [sv_if_t hc, if_pos hc]
    have ez : be_z d z (k + 1) = be_z d z k := by simp [be_z, hc]
    cases hh : be_hr hr n d k with
    | true =>
      obtain ⟨τ, g1, g2⟩ := be_wakeC i2 h0 h1 hok hL ha hn hk
      have e : be_hq hr n d k = true := by simp [be_hq, hc, hh]
      rw [e, if_pos rfl, sv_if_f (by decide), g1, pz_b, if_pos rfl]
      refine ⟨τ, rfl, by rw [g2 1 (by decide), ez]; exact i4, fun j _ => by rw [g2 1 (by decide)], fun r i hr _ => by rw [g2 r hr]⟩
    | false =>
      have e : be_hq hr n d k = false := by simp [be_hq, hh]
      rw [e, if_neg (by simp), sv_if_t rfl, if_neg (by simp)]
      exact ⟨σ, rfl, by rw [ez]; exact i4, fun _ _ => rfl, fun _ _ _ _ => rfl⟩
  · have hu1 : 1 ≤ u := by
      by_cases hu0 : u = 0
      · subst hu0; exact absurd eu hc
      · omega
    rw [sv_if_f hc, if_neg hc]
    unfold f_Li_draw
    have ez : be_z d z (k + 1) = be_nz (be_z d z k) := by simp [be_z, hc]
    rw [i4]
    show ∃ σ', sv_b (some (be_dr (sv_up σ 1 a 7 (be_nz (be_z d z k)) 1 a 7), sv_up σ 1 a 7 (be_nz (be_z d z k)))) _ = _ ∧ _
    rw [pz_us, pz_b, sv_g_t (by decide), pz_uk (by decide), i3]
    have f7 : ∀ j, j ≠ 7 → sv_up σ 1 a 7 (be_nz (be_z d z k)) 1 a j = σ 1 a j := fun j hj => pz_uk hj
    have ff : ∀ r i, r ≠ 20 → ¬ (r = 1 ∧ i = a) → sv_up σ 1 a 7 (be_nz (be_z d z k)) r i = σ r i := fun r i _ h => pz_up h
    by_cases hm : m ≤ be_dr (be_nz (be_z d z k)) - be_dr (be_nz (be_z d z k)) / 100 * 100
    · rw [sv_if_t hm, if_pos hm, be_kindC hq (by rw [pz_ur (by decide), h0, eq]), pz_b, pz_ur (by decide), h2, eu, pz_uk (by decide), i2, be_stepC hq hu1 hu, pz_b, eq]
      exact ⟨_, rfl, by rw [pz_us, ez], f7, ff⟩
    · rw [sv_if_f hm, if_neg hm, pz_ur (by decide), h2]
      exact ⟨_, rfl, by rw [pz_us, ez], f7, ff⟩
theorem be_pass58 (hok : be_ok n d) (ha : a < 3) (hn : n ≤ 10) : ∀ (r k fuel : Nat) (σ : sv_S), k + r = n → r < fuel → be_I hr sr a n b m z d k σ → be_LC σ a 1 sr → ∃ σ', f_Li_passOne_58 fuel a (be_mk (be_hq hr n d) n) (nI (be_ct (be_sk hr sr n m b z d) k)) (nI k) σ = some (nI (be_ct (be_sk hr sr n m b z d) n), σ') ∧ be_C σ' a n (b + 1) m (be_z d z n) (be_d hr sr n m b z d) ∧ be_fC a σ σ' ∧ σ' 1 a 8 = σ 1 a 8 := by
  intro r
  induction r with
  | zero =>
    intro k fuel σ hk hf hI hL
    obtain ⟨f, rfl⟩ : ∃ f, fuel = f + 1 := ⟨fuel - 1, by omega⟩
    have hk : k = n := by omega
    subst hk
    obtain ⟨i1, i2, i3, i4, i5⟩ := hI
    refine ⟨sv_up σ 1 a 5 (b + 1), ?_, ⟨by rw [pz_uk (by decide)]; exact i1, by rw [pz_us], by rw [pz_uk (by decide)]; exact i3, by rw [pz_uk (by decide)]; exact i4, fun i hi j hj => ?_⟩, fun r i _ _ h => pz_up h, pz_uk (by decide)⟩
    · rw [f_Li_passOne_58, i1, sv_if_t (nI_le (Nat.le_refl k) (by omega)), i2]
    · rw [pz_ur (by decide), i5 i hi j hj, if_pos hi]
  | succ r ih =>
    intro k fuel σ hk hf hI hL
    obtain ⟨f, rfl⟩ : ∃ f, fuel = f + 1 := ⟨fuel - 1, by omega⟩
    have hkn : k < n := by omega
    obtain ⟨τ, g1, g2, g3, g4⟩ := be_next hok ha hn hkn hI hL
    obtain ⟨i1, i2, i3, i4, i5⟩ := hI
    have hτ2 : τ 2 = σ 2 := funext fun i => g4 2 i (by decide) (fun q => absurd q.1 (by decide))
    have hd : ∀ j, j < 8 → τ 2 (10 * a + k) (be_p j) = d k j := fun j hj => by rw [hτ2, i5 k hkn j hj, if_neg (Nat.lt_irrefl k)]
    obtain ⟨υ, m1, m2, m3⟩ := be_moves (10 * a + k) (be_nc hr sr n m b z d k) (b + 1) τ
    have c2 : τ 2 (10 * a + k) 2 = d k 2 := hd 2 (by omega)
    have hsk : (be_nc hr sr n m b z d k = 9 ∧ d k 2 ≠ 9) ↔ be_sk hr sr n m b z d k = true := be_sk_iff hr sr n m b z d k
    rw [c2, show τ 2 (10 * a + k) 0 = d k 0 from hd 0 (by omega), show τ 2 (10 * a + k) 1 = d k 1 from hd 1 (by omega), show τ 2 (10 * a + k) 3 = d k 3 from hd 3 (by omega), show τ 2 (10 * a + k) 5 = d k 5 from hd 5 (by omega), show τ 2 (10 * a + k) 6 = d k 7 from hd 7 (by omega), show τ 2 (10 * a + k) 7 = d k 6 from hd 6 (by omega)] at m3
    rw [c2] at m1
    obtain ⟨x0, x1, x2, x3, x4, x5, x6, x7⟩ := m3
    have hυ1 : υ 1 = τ 1 := funext fun i => m2 1 i (fun q => absurd q.1 (by decide))
    have hI' : be_I hr sr a n b m z d (k + 1) υ := by
      refine ⟨by rw [hυ1, g3 4 (by decide)]; exact i1, by rw [hυ1, g3 5 (by decide)]; exact i2, by rw [hυ1, g3 6 (by decide)]; exact i3, by rw [hυ1]; exact g2, fun i hi j hj => ?_⟩
      by_cases hik : i = k
      · subst hik
        rw [if_pos (by omega)]
        have hj : j = 0 ∨ j = 1 ∨ j = 2 ∨ j = 3 ∨ j = 4 ∨ j = 5 ∨ j = 6 ∨ j = 7 := by omega
        rcases hj with rfl | rfl | rfl | rfl | rfl | rfl | rfl | rfl
        · rw [be_d_0]; exact x0
        · rw [be_d_1]; exact x1
        · rw [be_d_2]; exact x2
        · rw [be_d_3]; exact x3
        · rw [be_d_4]; exact x4
        · rw [be_d_5]; simp only [hsk] at x5; exact x5
        · rw [be_d_6]; simp only [hsk] at x7; exact x7
        · rw [be_d_7]; exact x6
      · rw [m2 2 (10 * a + i) (fun q => hik (by omega)), hτ2, i5 i hi j hj]
        by_cases hlt : i < k
        · rw [if_pos hlt, if_pos (by omega)]
        · rw [if_neg hlt, if_neg (by omega)]
    have hT : be_eT a σ υ := by
      have h1 : ∀ r, r ≠ 20 → r ≠ 1 → r ≠ 2 → ∀ i, υ r i = σ r i := fun r h20 h1 h2 i => by rw [m2 r i (fun q => h2 q.1), g4 r i h20 (fun q => h1 q.1)]
      exact ⟨funext (h1 18 (by decide) (by decide) (by decide)), funext (h1 19 (by decide) (by decide) (by decide)), funext (h1 22 (by decide) (by decide) (by decide)), h1 5 (by decide) (by decide) (by decide) a, h1 4 (by decide) (by decide) (by decide) a, by rw [hυ1, g3 8 (by decide)]⟩
    obtain ⟨ω, y1, y2, y3, y4⟩ := ih (k + 1) f υ (by omega) (by omega) hI' (hL.to hT)
    refine ⟨ω, ?_, y2, fun r i h1 h2 h3 => ?_, y4.trans hT.2.2.2.2.2⟩
    · rw [f_Li_passOne_58, i1, sv_if_f (nI_ge hkn (by omega)), be_mk_bit _ (by omega) hkn]
      have hF : ∀ (P : Prop) (x : Int32) (F : Int32 → Option (Int32 × sv_S)), (x = if be_hq hr n d k then (1 : Int32) else 0) → sv_if (x = 1) (F 1) (F 0) = F (if be_hq hr n d k then 1 else 0) := by
        intro _ x F e
        rw [e]
        cases be_hq hr n d k with
        | true => rw [if_pos rfl, sv_if_t rfl]
        | false => rw [if_neg (by simp), sv_if_f (by decide)]
      rw [hF True _ (fun x => f_Li_passOne_82 (f_Li_passOne_58 f) a (be_mk (be_hq hr n d) n) (nI (be_ct (be_sk hr sr n m b z d) k)) (nI k) x (nI k) a σ) rfl]
      unfold f_Li_passOne_82
      rw [g1, pz_b, be_ln3 ha, pz_in (by omega) (by omega), pz_cl (by omega), g3 5 (by decide), i2, m1, pz_b, nI_1, nI_1]
      rw [← y1]
      cases hs : be_sk hr sr n m b z d k with
      | true => rw [if_pos (hsk.mpr hs), sv_if_f (by decide)]; simp [be_ct, hs]
      | false => rw [if_neg (fun q => by rw [hsk.mp q] at hs; cases hs), sv_if_t rfl]; simp [be_ct, hs]
    · rw [y3 r i h1 h2 h3, m2 r i (fun q => h2 ⟨q.1, by omega, by omega⟩), g4 r i h1 h3]
theorem be_passC (hok : be_ok n d) (ha : a < 3) (hn : n ≤ 10) {σ : sv_S} (hC : be_C σ a n b m z d) (h0 : be_LC σ a 0 hr) (h1 : be_LC σ a 1 sr) : ∃ σ', f_Li_passOne a σ = some (nI (be_ct (be_sk hr sr n m b z d) n), σ') ∧ be_C σ' a n (b + 1) m (be_z d z n) (be_d hr sr n m b z d) ∧ be_fC a σ σ' ∧ σ' 1 a 8 = σ 1 a 8 := by
  obtain ⟨τ, g1, g2⟩ := be_pass4 hok ha hn n 0 sv_fu σ (by omega) (by unfold sv_fu; omega) hC h0
  have hC' := g2.C hC
  obtain ⟨υ, y1, y2, y3, y4⟩ := be_pass58 (hr := hr) (sr := sr) (z := z) hok ha hn n 0 sv_fu τ (by omega) (by unfold sv_fu; omega) ⟨hC'.1, hC'.2.1, hC'.2.2.1, hC'.2.2.2.1, fun i hi j hj => by rw [if_neg (Nat.not_lt_zero i)]; exact hC'.at hi j hj⟩ (h1.to (g2.T a))
  exact ⟨υ, g1.trans y1, y2, (g2.f a).tr y3, y4.trans (by rw [g2 1 (by decide)])⟩
end BEP
