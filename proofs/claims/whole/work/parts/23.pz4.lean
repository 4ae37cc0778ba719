/-! ===== pure: the class's sounds, wakings, steps ===== -/
theorem be_agoC {i q : Nat} (h1 : 1 ≤ q) (h3 : q ≤ 3) (σ : sv_S) : f_Dr_countAgo i (nI q - (1 : Int32)) σ = some (if nI q = 1 then σ 2 i 2 else if nI q = 2 then σ 2 i 3 else σ 2 i 4, σ) := by
  unfold f_Dr_countAgo
  have h : q = 1 ∨ q = 2 ∨ q = 3 := by omega
  rcases h with rfl | rfl | rfl
  · rw [sv_if_f (by decide), if_pos (by decide)]
  · rw [sv_if_t (by decide), sv_if_t (by decide), if_neg (by decide), if_pos (by decide)]
  · rw [sv_if_t (by decide), sv_if_f (by decide), if_neg (by decide), if_neg (by decide)]
section BEC
variable {σ : sv_S} {a n : Nat} {b m z : Int32} {d : be_D}
theorem be_C.at (h : be_C σ a n b m z d) {k : Nat} (hk : k < n) (j : Nat) (hj : j < 8) : σ 2 (10 * a + k) (be_p j) = d k j := h.2.2.2.2 k hk j hj
theorem be_sndL (h : be_C σ a n b m z d) (hok : be_ok n d) (ha : a < 3) (hn : n ≤ 10) {k : Nat} (hk : k < n) : f_Li_soundFrom a (nI k - (1 : Int32)) (nI k) σ = some (be_lf d k, σ) := by
  unfold f_Li_soundFrom be_lf
  by_cases h0 : k = 0
  · subst h0
    rw [sv_if_t (by decide), if_pos rfl]
  · have e : nI k - (1 : Int32) = nI (k - 1) := pk_sub (b := 1) (by omega)
    have hk1 : k - 1 < n := by omega
    obtain ⟨q, q1, q3, hq⟩ := (hok (k - 1) hk1).2.2.2
    rw [e, sv_if_f (nI_pos (by omega)), h.1, sv_if_t (nI_lt hk1 (by omega))]
    unfold f_Jm_min
    rw [pz_b, if_neg (nI_nlt (by omega) (by omega)), be_ln3 ha, pz_in (by omega) (by omega), pz_in (by omega) (by omega), pz_cl (by omega), show σ 2 (10 * a + (k - 1)) 6 = d (k - 1) 7 from h.at hk1 7 (by omega), hq, be_agoC q1 q3, pz_b, if_neg h0, show σ 2 (10 * a + (k - 1)) 2 = d (k - 1) 2 from h.at hk1 2 (by omega), show σ 2 (10 * a + (k - 1)) 3 = d (k - 1) 3 from h.at hk1 3 (by omega), show σ 2 (10 * a + (k - 1)) 4 = d (k - 1) 4 from h.at hk1 4 (by omega)]
    rfl
theorem be_sndR (h : be_C σ a n b m z d) (hok : be_ok n d) (ha : a < 3) (hn : n ≤ 10) {k : Nat} (hk : k < n) : f_Li_soundFrom a (nI k + (1 : Int32)) (nI k) σ = some (be_rt n d k, σ) := by
  unfold f_Li_soundFrom be_rt
  rw [nI_1, sv_if_f (nI_pos (by omega)), h.1]
  by_cases h0 : k + 1 = n
  · rw [sv_if_f (nI_nlt (by omega) (by omega)), if_pos h0]
  · obtain ⟨q, q1, q3, hq⟩ := (hok k hk).2.2.2
    have hk1 : k + 1 < n := by omega
    rw [sv_if_t (nI_lt hk1 (by omega))]
    unfold f_Jm_min
    rw [pz_b, if_pos (nI_lt (by omega) (by omega)), be_ln3 ha, pz_in (by omega) (by omega), pz_in (by omega) (by omega), pz_cl (by omega), pz_cl (by omega), show σ 2 (10 * a + k) 6 = d k 7 from h.at hk 7 (by omega), hq, be_agoC q1 q3, pz_b, if_neg h0, show σ 2 (10 * a + (k + 1)) 2 = d (k + 1) 2 from h.at hk1 2 (by omega), show σ 2 (10 * a + (k + 1)) 3 = d (k + 1) 3 from h.at hk1 3 (by omega), show σ 2 (10 * a + (k + 1)) 4 = d (k + 1) 4 from h.at hk1 4 (by omega)]
    rfl
theorem be_kindC {i q a : Nat} (hq : q < 6) (h : σ 2 i 0 = nI q) : f_Li_kindOf a i σ = some (q, σ) := by
  unfold f_Li_kindOf
  rw [h, pz_in hq (by omega), pz_cl (by omega)]
theorem be_hearG {hr : be_F} (h : be_C σ a n b m z d) (hok : be_ok n d) (hl : be_LC σ a 0 hr) (ha : a < 3) (hn : n ≤ 10) {k : Nat} (hk : k < n) {j : Nat} (h5 : d k 0 ≠ 5) : ∃ σ', f_Ki_hears j a (nI k) σ = some (if be_hr hr n d k then 1 else 0, σ') ∧ be_e20 σ σ' := by
  unfold f_Ki_hears f_Li_hearGives be_hr
  rw [be_sndL h hok ha hn hk, pz_b, be_sndR h hok ha hn hk, pz_b, if_neg h5]
  cases hr with
  | none =>
    rw [show f_Li_lawOf a (0 : Int32) σ = some (none, σ) from be_lawN (q := 0) (by omega) hl, pz_bT0]
    refine ⟨σ, ?_, be_e20.rfl' σ⟩
    by_cases h1 : 0 < be_lf d k
    · rw [sv_if_t h1, pz_b, sv_if_f (by decide), pz_11]; simp [h1]
    · by_cases h2 : 0 < be_rt n d k
      · rw [sv_if_f h1, sv_if_f (Int32.not_le.mpr h2), pz_b, sv_if_f (by decide), pz_11]; simp [h1, h2]
      · rw [sv_if_f h1, sv_if_t (Int32.not_lt.mp h2), pz_b, sv_if_t rfl, pz_01]; simp [h1, h2]
  | some g =>
    obtain ⟨id, g1, g2⟩ := be_lawS (q := 0) (by omega) hl
    obtain ⟨τ, g3, g4⟩ := g2 (be_lf d k) (be_rt n d k) (nI k) σ (be_e20.rfl' σ)
    rw [show f_Li_lawOf a (0 : Int32) σ = some (some id, σ) from g1, pz_bT1, g3, pz_b, pz_b]
    refine ⟨τ, ?_, g4⟩
    by_cases h1 : g (be_lf d k) (be_rt n d k) (nI k) = 0
    · rw [sv_if_t h1, pz_01]; simp [h1]
    · rw [sv_if_f h1, pz_11]; simp [h1]
theorem be_hearC {hr : be_F} (h : be_C σ a n b m z d) (hok : be_ok n d) (hl : be_LC σ a 0 hr) (ha : a < 3) (hn : n ≤ 10) {k q : Nat} (hk : k < n) (hq : q < 6) (hd : d k 0 = nI q) : ∃ σ', f_k_hears q a (nI k) σ = some (if be_hr hr n d k then 1 else 0, σ') ∧ be_e20 σ σ' := by
  have hne : q ≠ 5 → d k 0 ≠ 5 := fun hq5 e => by
    rw [hd] at e
    exact hq5 ((nI_eq (b := 5) (by omega) (by omega)).mp e)
  match q, hq with
  | 0, _ => exact be_hearG (j := 0) h hok hl ha hn hk (hne (by omega))
  | 1, _ => exact be_hearG (j := 1) h hok hl ha hn hk (hne (by omega))
  | 2, _ => exact be_hearG (j := 2) h hok hl ha hn hk (hne (by omega))
  | 3, _ => exact be_hearG (j := 3) h hok hl ha hn hk (hne (by omega))
  | 4, _ => exact be_hearG (j := 4) h hok hl ha hn hk (hne (by omega))
  | 5, _ =>
    refine ⟨σ, ?_, be_e20.rfl' σ⟩
    show f_De_hears 5 a (nI k) σ = _
    unfold f_De_hears be_hr
    have hd : d k 0 = 5 := hd
    rw [be_sndL h hok ha hn hk, pz_b, if_pos hd]
    by_cases h1 : 0 < be_lf d k
    · rw [sv_if_f (Int32.not_le.mpr h1), pz_11]; simp [h1]
    · rw [sv_if_t (Int32.not_lt.mp h1), pz_01]; simp [h1]
end BEC
theorem be_cl_r (x : Int32) : ∃ u : Nat, 1 ≤ u ∧ u ≤ 9 ∧ be_cl x = nI u := by
  unfold be_cl
  by_cases h1 : x < 1
  · exact ⟨1, by omega, by omega, by rw [if_pos h1]; rfl⟩
  · by_cases h9 : 9 < x
    · exact ⟨9, by omega, by omega, by rw [if_neg h1, if_pos h9]; rfl⟩
    · have h0 : ¬ x < 0 := by
        rw [pz_lt] at *
        have e1 : (1 : Int32).toInt = 1 := rfl
        have e2 : (0 : Int32).toInt = 0 := rfl
        omega
      obtain ⟨j, hj, e⟩ := nI_of2 (M := 9) (n := 9) rfl h0 (Int32.not_lt.mp h9)
      refine ⟨j, ?_, hj, by rw [if_neg h1, if_neg h9, e]⟩
      rw [e] at h1
      by_cases hj0 : j = 0
      · subst hj0; exact absurd (by decide) h1
      · omega
theorem be_pl_r {sr : be_F} {b : Int32} {n : Nat} {d : be_D} (hok : be_ok n d) {k : Nat} (hk : k < n) : ∃ u : Nat, 1 ≤ u ∧ u ≤ 9 ∧ be_pl sr b d k = nI u := by
  unfold be_pl
  cases sr with
  | none => exact (hok k hk).2.1
  | some f => exact be_cl_r _
theorem be_wsC (x : Int32) (σ : sv_S) : f_On_withinStarts x σ = some (be_cl x, σ) := by
  unfold f_On_withinStarts f_Jm_min f_Jm_max be_cl
  rw [pz_b, pz_b]
  congr 2
  have e1 : (1 : Int32).toInt = 1 := rfl
  have e9 : (9 : Int32).toInt = 9 := rfl
  by_cases h1 : x < 1
  · have h2 : x < 9 := by rw [pz_lt] at *; omega
    have h3 : ¬ 1 < x := by rw [pz_lt] at *; omega
    rw [if_pos h2, if_neg h3, if_pos h1]
  · by_cases h9 : 9 < x
    · have h2 : ¬ x < 9 := by rw [pz_lt] at *; omega
      rw [if_neg h2, if_pos (by decide), if_neg h1, if_pos h9]
    · by_cases h8 : x < 9
      · rw [if_pos h8, if_neg h1, if_neg h9]
        by_cases hx : x = 1
        · subst hx; rfl
        · have h3 : 1 < x := by
            rw [pz_eq] at hx
            rw [pz_lt] at *; omega
          rw [if_pos h3]
      · have : x = 9 := by rw [pz_eq]; rw [pz_lt] at *; omega
        subst this
        rfl
theorem be_min9 : ∀ u, u < 10 → 1 ≤ u → (if nI u + 1 < 9 then nI u + 1 else (9 : Int32)) = be_cl (nI u + 1) := by decide +kernel
theorem be_max1 : ∀ u, u < 10 → 1 ≤ u → (if 1 < nI u - 1 then nI u - 1 else (1 : Int32)) = be_cl (nI u - 1) := by decide +kernel
theorem be_wfC {q u : Nat} (hq : q < 6) (h1 : 1 ≤ u) (h9 : u ≤ 9) (σ : sv_S) : f_k_wakesFrom q (nI u) σ = some (if nI q = 2 then be_cl (nI u + 1) else if nI q = 3 then be_cl (nI u - 1) else if nI q = 4 then be_cl (nI u + 1) else nI u, σ) := by
  match q, hq with
  | 0, _ => rfl
  | 1, _ => rfl
  | 2, _ =>
    show f_Ea_wakesFrom 2 (nI u) σ = _
    unfold f_Ea_wakesFrom f_Ki_wakesFrom f_Jm_min
    rw [pz_b, pz_b, be_min9 u (by omega) h1]; rfl
  | 3, _ =>
    show f_La_wakesFrom 3 (nI u) σ = _
    unfold f_La_wakesFrom f_Ki_wakesFrom f_Jm_max
    rw [pz_b, pz_b, be_max1 u (by omega) h1]; rfl
  | 4, _ =>
    show f_Ea_wakesFrom 4 (nI u) σ = _
    unfold f_Ea_wakesFrom f_Ki_wakesFrom f_Jm_min
    rw [pz_b, pz_b, be_min9 u (by omega) h1]; rfl
  | 5, _ => rfl
theorem be_wakeC {σ : sv_S} {a n : Nat} {b : Int32} {d : be_D} {sr : be_F} {k : Nat} (hb : σ 1 a 5 = b) (h0 : σ 2 (10 * a + k) 0 = d k 0) (h1 : σ 2 (10 * a + k) 1 = d k 1) (hok : be_ok n d) (hl : be_LC σ a 1 sr) (ha : a < 3) (hn : n ≤ 10) (hk : k < n) : ∃ σ', f_Li_wakesTo a (nI k) σ = some (be_wk sr b d k, σ') ∧ be_e20 σ σ' := by
  obtain ⟨q, hq, eq⟩ := (hok k hk).1
  unfold f_Li_wakesTo
  rw [be_ln3 ha, pz_in (by omega) (by omega), pz_cl (by omega)]
  have G : ∀ τ, be_e20 σ τ → f_Li_wakesTo_40 a (10 * a + k) (be_pl sr b d k) τ = some (be_wk sr b d k, τ) := by
    intro τ e
    obtain ⟨u, u1, u9, eu⟩ := be_pl_r (sr := sr) (b := b) hok hk
    unfold f_Li_wakesTo_40 be_wk
    rw [be_kindC hq (by rw [e 2 (by decide), h0, eq]), pz_b, eu, be_wfC hq u1 u9, pz_b, eq]
  cases sr with
  | none =>
    rw [show f_Li_lawOf a (1 : Int32) σ = some (none, σ) from be_lawN (q := 1) (by omega) hl, pz_bT0, h1]
    exact ⟨σ, G σ (be_e20.rfl' σ), be_e20.rfl' σ⟩
  | some g =>
    obtain ⟨id, g1, g2⟩ := be_lawS (q := 1) (by omega) hl
    obtain ⟨τ, g3, g4⟩ := g2 (d k 1) (nI k) b σ (be_e20.rfl' σ)
    rw [show f_Li_lawOf a (1 : Int32) σ = some (some id, σ) from g1, pz_bT1, h1, hb, g3, pz_b, be_wsC, pz_b]
    exact ⟨τ, G τ g4, g4⟩
theorem be_c9 : ∀ u, u < 10 → 1 ≤ u → (nI u < 9 ↔ ¬ nI u = 9) := by decide +kernel
theorem be_stepK {u : Nat} (h1 : 1 ≤ u) (h9 : u ≤ 9) (j : Nat) (b : Int32) (σ : sv_S) : f_Ki_stepFrom j (nI u) b σ = some (if nI u = 9 then 0 else nI u + 1, σ) := by
  unfold f_Ki_stepFrom
  have h := be_c9 u (by omega) h1
  by_cases h2 : nI u = 9
  · rw [sv_if_f (fun q => h.mp q h2), if_pos h2]
  · rw [sv_if_t (h.mpr h2), if_neg h2]
theorem be_stepS {u : Nat} (h1 : 1 ≤ u) (h9 : u ≤ 9) (j : Nat) (b : Int32) (σ : sv_S) : f_Sl_stepFrom j (nI u) b σ = some (if b - b / 4 * 4 = 3 then nI u else if nI u = 9 then 0 else nI u + 1, σ) := by
  unfold f_Sl_stepFrom
  rw [sv_g_t (by decide)]
  by_cases h2 : b - b / 4 * 4 = 3
  · rw [sv_if_t h2, if_pos h2]
  · rw [sv_if_f h2, if_neg h2, be_stepK h1 h9, pz_b]
theorem be_stepC {q u : Nat} (hq : q < 6) (h1 : 1 ≤ u) (h9 : u ≤ 9) (b : Int32) (σ : sv_S) : f_k_stepFrom q (nI u) b σ = some (be_sp b (nI u) (nI q), σ) := by
  have hs : be_sp b (nI u) (nI q) = if (q = 1 ∨ q = 3) ∧ b - b / 4 * 4 = 3 then nI u else if nI u = 9 then 0 else if nI u = 8 ∧ q = 4 then 0 else nI u + 1 := by
    unfold be_sp
    have e1 : (nI q = 1) = (q = 1) := propext (nI_eq (b := 1) (by omega) (by omega))
    have e3 : (nI q = 3) = (q = 3) := propext (nI_eq (b := 3) (by omega) (by omega))
    have e4 : (nI q = 4) = (q = 4) := propext (nI_eq (b := 4) (by omega) (by omega))
    simp only [e1, e3, e4]
  rw [hs]
  match q, hq with
  | 0, _ => show f_Ki_stepFrom 0 (nI u) b σ = _; rw [be_stepK h1 h9]; simp
  | 1, _ => show f_Sl_stepFrom 1 (nI u) b σ = _; rw [be_stepS h1 h9]; simp
  | 2, _ => show f_Ki_stepFrom 2 (nI u) b σ = _; rw [be_stepK h1 h9]; simp
  | 3, _ => show f_Sl_stepFrom 3 (nI u) b σ = _; rw [be_stepS h1 h9]; simp
  | 4, _ =>
    show f_Tr_stepFrom 4 (nI u) b σ = _
    unfold f_Tr_stepFrom
    by_cases h8 : nI u = 8
    · rw [sv_if_t h8, h8]; simp
    · rw [sv_if_f h8, be_stepK h1 h9, pz_b]; simp [h8]
  | 5, _ => show f_Ki_stepFrom 5 (nI u) b σ = _; rw [be_stepK h1 h9]; simp
