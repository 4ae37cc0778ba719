/-! ===== pure: the parsers agree ===== -/
theorem lk_0 {c : Nat → Nat} {p k : Nat} : (pa_lk c p k = 0 ↔ k = 3 ∧ c p = 124) ∧ (pa_lk c p k = 1 ↔ k = 3 ∧ c p = 38) ∧ (pa_lk c p k = 2 ↔ k = 3 ∧ (c p = 60 ∨ c p = 61 ∨ c p = 62)) ∧ (pa_lk c p k = 3 ↔ k = 3 ∧ (c p = 43 ∨ c p = 45)) ∧ (pa_lk c p k = 4 ↔ k = 3 ∧ (c p = 42 ∨ c p = 47)) := by
  unfold pa_lk pa_lv
  refine ⟨?_, ?_, ?_, ?_, ?_⟩ <;> (repeat' split) <;> omega
noncomputable def mo_lev (lv : Nat) (m : Int32 → sv_S → Option (Int32 × sv_S)) (q : Nat) (τ : sv_S) : Option (Int32 × sv_S) := if lv = 0 then f_Mo_either m (nI q) τ else if lv = 1 then f_Mo_both m (nI q) τ else if lv = 2 then f_Mo_test m (nI q) τ else if lv = 3 then f_Mo_sum m (nI q) τ else if lv = 4 then f_Mo_term m (nI q) τ else m (nI q) τ
theorem pa_main {c : Nat → Nat} {len : Nat} (hl : len ≤ 96) (hc : ∀ i, c i < 256) {q base : Nat} (hq : q < 3) (hb : base + 200 ≤ 3086) (σ0 τ0 : sv_S) : ∀ d : Nat, (∀ (lv br no dm p e k L ops : Nat) (cd : Nat → Int32) (σ τ : sv_S), lv ≤ 5 → br ≤ 8 → no ≤ 8 → 7 * (8 - br) + (8 - no) + (6 - lv) + 1 ≤ d → (8 - br) + (8 - no) + 1 ≤ dm → pa_I c len q base σ0 τ0 br no p e k L ops cd σ τ → pa_O c len q base σ0 τ0 br no 1 p L cd ((r_Ta d).1 (nI lv) (nI br) (nI no) σ) (mo_lev lv (r_Mo dm) q τ)) ∧ (∀ (br no dm p e k L ops : Nat) (cd : Nat → Int32) (σ τ : sv_S), br ≤ 8 → no ≤ 8 → 7 * (8 - br) + (8 - no) + 1 ≤ d → (8 - br) + (8 - no) + 1 ≤ dm → pa_I c len q base σ0 τ0 br no p e k L ops cd σ τ → pa_O c len q base σ0 τ0 br no 1 p L cd ((r_Ta d).2 (nI br) (nI no) σ) (r_Mo dm (nI q) τ)) := by
  intro d
  induction d with
  | zero => exact ⟨fun lv br no dm p e k L ops cd σ τ _ _ _ h => absurd h (by omega), fun br no dm p e k L ops cd σ τ _ _ h => absurd h (by omega)⟩
  | succ d ih =>
    obtain ⟨ihS, ihP⟩ := ih
    refine ⟨fun lv br no dm p e k L ops cd σ τ hlv hbr hno hd hdm h => ?_, fun br no dm p e k L ops cd σ τ hbr hno hd hdm h => ?_⟩
    · show pa_O c len q base σ0 τ0 br no 1 p L cd (f_Ta_isSide (r_Ta d).1 (r_Ta d).2 (nI lv) (nI br) (nI no) σ) (mo_lev lv (r_Mo dm) q τ)
      have low : lv < 5 → ∀ (p e k L ops : Nat) (cd : Nat → Int32) (σ τ : sv_S), pa_I c len q base σ0 τ0 br no p e k L ops cd σ τ → pa_O c len q base σ0 τ0 br no 1 p L cd ((r_Ta d).1 (nI (lv + 1)) (nI br) (nI no) σ) (mo_lev (lv + 1) (r_Mo dm) q τ) := fun h5 p e k L ops cd σ τ h => ihS (lv + 1) br no dm p e k L ops cd σ τ (by omega) hbr hno (by omega) hdm h
      have sg : ∀ {p e k : Nat} {σ τ : sv_S} (s : Nat), s < 256 → pa_T c len p e k σ τ → f_Mo_isSign (nI s) τ = some (if k = 3 ∧ c p = s then 1 else 0, τ) := fun s hs h => mo_sign hc h hs
      have s124 : ∀ {p e k : Nat} {σ τ : sv_S}, pa_T c len p e k σ τ → f_Mo_isSign (124 : Int32) τ = some (if k = 3 ∧ c p = 124 then 1 else 0, τ) := fun h => sg 124 (by omega) h
      have s38 : ∀ {p e k : Nat} {σ τ : sv_S}, pa_T c len p e k σ τ → f_Mo_isSign (38 : Int32) τ = some (if k = 3 ∧ c p = 38 then 1 else 0, τ) := fun h => sg 38 (by omega) h
      have s60 : ∀ {p e k : Nat} {σ τ : sv_S}, pa_T c len p e k σ τ → f_Mo_isSign (60 : Int32) τ = some (if k = 3 ∧ c p = 60 then 1 else 0, τ) := fun h => sg 60 (by omega) h
      have s61 : ∀ {p e k : Nat} {σ τ : sv_S}, pa_T c len p e k σ τ → f_Mo_isSign (61 : Int32) τ = some (if k = 3 ∧ c p = 61 then 1 else 0, τ) := fun h => sg 61 (by omega) h
      have s62 : ∀ {p e k : Nat} {σ τ : sv_S}, pa_T c len p e k σ τ → f_Mo_isSign (62 : Int32) τ = some (if k = 3 ∧ c p = 62 then 1 else 0, τ) := fun h => sg 62 (by omega) h
      have s43 : ∀ {p e k : Nat} {σ τ : sv_S}, pa_T c len p e k σ τ → f_Mo_isSign (43 : Int32) τ = some (if k = 3 ∧ c p = 43 then 1 else 0, τ) := fun h => sg 43 (by omega) h
      have s45 : ∀ {p e k : Nat} {σ τ : sv_S}, pa_T c len p e k σ τ → f_Mo_isSign (45 : Int32) τ = some (if k = 3 ∧ c p = 45 then 1 else 0, τ) := fun h => sg 45 (by omega) h
      have s42 : ∀ {p e k : Nat} {σ τ : sv_S}, pa_T c len p e k σ τ → f_Mo_isSign (42 : Int32) τ = some (if k = 3 ∧ c p = 42 then 1 else 0, τ) := fun h => sg 42 (by omega) h
      have s47 : ∀ {p e k : Nat} {σ τ : sv_S}, pa_T c len p e k σ τ → f_Mo_isSign (47 : Int32) τ = some (if k = 3 ∧ c p = 47 then 1 else 0, τ) := fun h => sg 47 (by omega) h
      match lv, hlv with
      | 0, _ =>
        have g := pa_sideL hl hc hb (lv := 0) (by omega) (by omega) (C1 := (r_Ta d).1) (C2 := (r_Ta d).2) (M := fun τ => mo_lev 1 (r_Mo dm) q τ) (G := fun f τ => f_Mo_either_10 (r_Mo dm) f (nI q) τ) (low (by omega)) (fun p e k σ τ f hT hk => by
          show f_Mo_either_10 (r_Mo dm) (f + 1) (nI q) τ = _
          rw [f_Mo_either_10, s124 hT, pz_b, pz_if1, if_neg (fun z => hk (lk_0.1.mpr z)), pz_11]) (fun p e k σ τ f hT hk => by
          have hk := lk_0.1.mp hk
          show f_Mo_either_10 (r_Mo dm) (f + 1) (nI q) τ = _
          rw [f_Mo_either_10, s124 hT, pz_b, pz_if1, if_pos hk, hk.2]
          rfl) h
        exact g
      | 1, _ =>
        have g := pa_sideL hl hc hb (lv := 1) (by omega) (by omega) (C1 := (r_Ta d).1) (C2 := (r_Ta d).2) (M := fun τ => mo_lev 2 (r_Mo dm) q τ) (G := fun f τ => f_Mo_both_10 (r_Mo dm) f (nI q) τ) (low (by omega)) (fun p e k σ τ f hT hk => by
          show f_Mo_both_10 (r_Mo dm) (f + 1) (nI q) τ = _
          rw [f_Mo_both_10, s38 hT, pz_b, pz_if1, if_neg (fun z => hk (lk_0.2.1.mpr z)), pz_11]) (fun p e k σ τ f hT hk => by
          have hk := lk_0.2.1.mp hk
          show f_Mo_both_10 (r_Mo dm) (f + 1) (nI q) τ = _
          rw [f_Mo_both_10, s38 hT, pz_b, pz_if1, if_pos hk, hk.2]
          rfl) h
        exact g
      | 2, _ =>
        have g := pa_side2 hl hc hb (C1 := (r_Ta d).1) (C2 := (r_Ta d).2) (M := fun τ => mo_lev 3 (r_Mo dm) q τ) (G := fun τ => sv_b (f_Mo_isSign (60 : Int32) τ) (fun v3 σ4 => sv_if (v3 = 0) (sv_b (f_Mo_isSign (61 : Int32) σ4) (fun v5 σ6 => sv_if (v5 = 0) (sv_b (f_Mo_isSign (62 : Int32) σ6) (fun v7 σ8 => sv_if (v7 = 0) (sv_g ((1 : Int32) = 0 ∨ (1 : Int32) = 1) (some ((1 : Int32), σ8))) (f_Mo_test_37 (r_Mo dm) (nI q) σ8))) (f_Mo_test_37 (r_Mo dm) (nI q) σ6))) (f_Mo_test_37 (r_Mo dm) (nI q) σ4))) (low (by omega)) (fun p e k σ τ hT hk => by
          have n : ¬ (k = 3 ∧ (c p = 60 ∨ c p = 61 ∨ c p = 62)) := fun z => hk (lk_0.2.2.1.mpr z)
          rw [s60 hT, pz_b, pz_if1, if_neg (by omega), s61 hT, pz_b, pz_if1, if_neg (by omega), s62 hT, pz_b, pz_if1, if_neg (by omega), pz_11]) (fun p e k σ τ hT hk => by
          have n := lk_0.2.2.1.mp hk
          have E : f_Mo_test_37 (r_Mo dm) (nI q) τ = pa_stM (nI (c p)) (fun τ => mo_lev 3 (r_Mo dm) q τ) (fun σ4 => some (1, σ4)) τ := by
            unfold f_Mo_test_37
            rw [hT.2.2.2.2.2 n.1, show (fun σ4 : sv_S => sv_g ((1 : Int32) = 0 ∨ (1 : Int32) = 1) (some ((1 : Int32), σ4))) = fun σ4 => some (1, σ4) from funext fun _ => pz_11]
            rfl
          rw [s60 hT, pz_b, pz_if1, s61 hT, pz_b, pz_if1, s62 hT, pz_b, pz_if1, E]
          by_cases z1 : k = 3 ∧ c p = 60
          · rw [if_pos z1]
          · rw [if_neg z1]
            by_cases z2 : k = 3 ∧ c p = 61
            · rw [if_pos z2]
            · rw [if_neg z2, if_pos (by omega)]) h
        exact g
      | 3, _ =>
        have g := pa_sideL hl hc hb (lv := 3) (by omega) (by omega) (C1 := (r_Ta d).1) (C2 := (r_Ta d).2) (M := fun τ => mo_lev 4 (r_Mo dm) q τ) (G := fun f τ => f_Mo_sum_10 (r_Mo dm) f (nI q) τ) (low (by omega)) (fun p e k σ τ f hT hk => by
          have n : ¬ (k = 3 ∧ (c p = 43 ∨ c p = 45)) := fun z => hk (lk_0.2.2.2.1.mpr z)
          show f_Mo_sum_10 (r_Mo dm) (f + 1) (nI q) τ = _
          rw [f_Mo_sum_10, s43 hT, pz_b, pz_if1, if_neg (by omega), s45 hT, pz_b, pz_if1, if_neg (by omega), pz_11]) (fun p e k σ τ f hT hk => by
          have n := lk_0.2.2.2.1.mp hk
          have E : f_Mo_sum_28 (r_Mo dm) (f_Mo_sum_10 (r_Mo dm) f) (nI q) τ = pa_stM (nI (c p)) (fun τ => mo_lev 4 (r_Mo dm) q τ) (fun τ => f_Mo_sum_10 (r_Mo dm) f (nI q) τ) τ := by
            unfold f_Mo_sum_28
            rw [hT.2.2.2.2.2 n.1]
            rfl
          show f_Mo_sum_10 (r_Mo dm) (f + 1) (nI q) τ = _
          rw [f_Mo_sum_10, s43 hT, pz_b, pz_if1, s45 hT, pz_b, pz_if1, E]
          by_cases z1 : k = 3 ∧ c p = 43
          · rw [if_pos z1]
          · rw [if_neg z1, if_pos (by omega)]) h
        exact g
      | 4, _ =>
        have g := pa_sideL hl hc hb (lv := 4) (by omega) (by omega) (C1 := (r_Ta d).1) (C2 := (r_Ta d).2) (M := fun τ => mo_lev 5 (r_Mo dm) q τ) (G := fun f τ => f_Mo_term_10 (r_Mo dm) f (nI q) τ) (low (by omega)) (fun p e k σ τ f hT hk => by
          have n : ¬ (k = 3 ∧ (c p = 42 ∨ c p = 47)) := fun z => hk (lk_0.2.2.2.2.mpr z)
          show f_Mo_term_10 (r_Mo dm) (f + 1) (nI q) τ = _
          rw [f_Mo_term_10, s42 hT, pz_b, pz_if1, if_neg (by omega), s47 hT, pz_b, pz_if1, if_neg (by omega), pz_11]) (fun p e k σ τ f hT hk => by
          have n := lk_0.2.2.2.2.mp hk
          have E : f_Mo_term_28 (r_Mo dm) (f_Mo_term_10 (r_Mo dm) f) (nI q) τ = pa_stM (nI (c p)) (fun τ => mo_lev 5 (r_Mo dm) q τ) (fun τ => f_Mo_term_10 (r_Mo dm) f (nI q) τ) τ := by
            unfold f_Mo_term_28
            rw [hT.2.2.2.2.2 n.1]
            rfl
          show f_Mo_term_10 (r_Mo dm) (f + 1) (nI q) τ = _
          rw [f_Mo_term_10, s42 hT, pz_b, pz_if1, s47 hT, pz_b, pz_if1, E]
          by_cases z1 : k = 3 ∧ c p = 42
          · rw [if_pos z1]
          · rw [if_neg z1, if_pos (by omega)]) h
        exact g
      | 5, _ =>
        unfold f_Ta_isSide
        rw [sv_if_f (show ¬ nI 5 < (5 : Int32) by decide)]
        show pa_O c len q base σ0 τ0 br no 1 p L cd _ (r_Mo dm (nI q) τ)
        rcases ihP br no dm p e k L ops cd σ τ hbr hno (by omega) hdm h with ⟨σ', τ', a1, a2, a3⟩ | ⟨σ', τ', a1, a2, a3⟩
        · exact Or.inl ⟨σ', τ', by rw [a1, pz_b, pz_01], a2, a3⟩
        · exact Or.inr ⟨σ', τ', by rw [a1, pz_b, pz_11], a2, a3⟩
      | lv + 6, hlv => omega
    · obtain ⟨dm', rfl⟩ : ∃ x, dm = x + 1 := ⟨dm - 1, by omega⟩
      exact pa_piece hl hc hq hb hbr hno (fun hn p e k L ops cd σ τ h => ihP br (no + 1) dm' p e k L ops cd σ τ hbr (by omega) (by omega) (by omega) h) (fun hn p e k L ops cd σ τ h => ihS 0 (br + 1) no dm' p e k L ops cd σ τ (by omega) (by omega) hno (by omega) (by omega) h) h
/-- both on a whole tape -/
theorem pa_text {c : Nat → Nat} {len nt : Nat} (hl : len ≤ 96) (hc : ∀ i, c i < 256) (hnt : nt ≤ 14) {σ τ : sv_S} (hC : pa_C c len σ) (hM : pa_M c len τ) (h1 : τ 31 0 1 = nI nt) : ∃ (v : Int32) (σ1 τ1 : sv_S) (base : Nat), f_Ta_isText σ = some (v, σ1) ∧ pa_FC σ σ1 ∧ base = (if nt = 14 then 2886 else 90 + 200 * nt) ∧ pa_FM base τ τ1 ∧ τ1 30 0 17 = 0 ∧ ((v = 0 ∧ f_Mo_parse τ = some (-1, τ1) ∧ σ1 8 0 2 = τ1 30 0 18) ∨ ∃ (q ops L : Nat) (cd : Nat → Int32), v = 1 ∧ f_Mo_parse τ = some (nI q, τ1) ∧ tx_w q ops L cd ∧ pa_KC q L ops cd σ1 ∧ τ1 30 0 25 = nI L ∧ τ1 30 0 27 = nI ops ∧ ∀ j, j < L → τ1 31 0 (base + 2 * j) = tx_wh (cd j) ∧ τ1 31 0 (base + 2 * j + 1) = tx_vl q (cd j)) := by
  generalize hB : (if nt = 14 then 2886 else 90 + 200 * nt) = base
  have hb : base + 200 ≤ 3086 := by rw [← hB]; split <;> omega
  generalize hσ : sv_up (sv_up (sv_up (sv_up σ 8 0 3 0) 8 0 4 (-1)) 8 0 6 0) 8 0 7 0 = σa
  generalize hτ' : sv_up (sv_up (sv_up (sv_up (sv_up (sv_up τ 30 0 19 0) 30 0 20 3) 30 0 23 0) 30 0 24 0) 30 0 25 0) 30 0 27 0 = τa'
  generalize hτ : sv_up τa' 30 0 26 (nI base) = τa
  have aC : pa_C c len σa := by rw [← hσ]; exact (((hC.up (by decide)).up (by decide)).up (by decide)).up (by decide)
  have aM : pa_M c len τa := by rw [← hτ, ← hτ']; exact ((((((hM.up (by decide)).up (by decide)).up (by decide)).up (by decide)).up (by decide)).up (by decide)).up (by decide)
  have a3 : σa 8 0 3 = nI 0 := by rw [← hσ, pz_uk (by decide), pz_uk (by decide), pz_uk (by decide), pz_us]; rfl
  have a4 : σa 8 0 4 = -1 := by rw [← hσ, pz_uk (by decide), pz_uk (by decide), pz_us]
  have a6 : σa 8 0 6 = nI 0 := by rw [← hσ, pz_uk (by decide), pz_us]; rfl
  have a7 : σa 8 0 7 = nI 0 := by rw [← hσ, pz_us]; rfl
  have b19 : τa 30 0 19 = nI 0 := by rw [← hτ, ← hτ', pz_uk (by decide), pz_uk (by decide), pz_uk (by decide), pz_uk (by decide), pz_uk (by decide), pz_uk (by decide), pz_us]; rfl
  have b23 : τa 30 0 23 = nI 0 := by rw [← hτ, ← hτ', pz_uk (by decide), pz_uk (by decide), pz_uk (by decide), pz_uk (by decide), pz_us]; rfl
  have b24 : τa 30 0 24 = nI 0 := by rw [← hτ, ← hτ', pz_uk (by decide), pz_uk (by decide), pz_uk (by decide), pz_us]; rfl
  have b25 : τa 30 0 25 = nI 0 := by rw [← hτ, ← hτ', pz_uk (by decide), pz_uk (by decide), pz_us]; rfl
  have b26 : τa 30 0 26 = nI base := by rw [← hτ, pz_us]
  have b27 : τa 30 0 27 = nI 0 := by rw [← hτ, ← hτ', pz_uk (by decide), pz_us]; rfl
  have fC : ∀ r i, ¬ (r = 8 ∧ i = 0) → σa r i = σ r i := fun r i x => by rw [← hσ, pz_up x, pz_up x, pz_up x, pz_up x]
  have fM : ∀ r i, ¬ (r = 30 ∧ i = 0) → τa r i = τ r i := fun r i x => by rw [← hτ, ← hτ', pz_up x, pz_up x, pz_up x, pz_up x, pz_up x, pz_up x, pz_up x]
  have fj : ∀ j, j < 17 ∨ 27 < j → τa 30 0 j = τ 30 0 j := fun j x => by rw [← hτ, ← hτ', pz_uk (by omega), pz_uk (by omega), pz_uk (by omega), pz_uk (by omega), pz_uk (by omega), pz_uk (by omega), pz_uk (by omega)]
  obtain ⟨σ1, τ1, p1, e1, k1, y1, y2, y3, -, ⟨y4, y5⟩, ⟨y6, y7⟩⟩ := pa_next hl hc aC aM (Nat.zero_le len) a3 b19 false (by rw [a4]; exact ⟨fun z => absurd z (by decide), fun z => by rcases z with z | z <;> exact absurd z (by decide)⟩) ⟨fun z => absurd z (by decide), fun z => absurd z.1 (Nat.lt_irrefl 0)⟩
  have m31 : τa' 31 0 1 = nI nt := by rw [← hτ', pz_ur (by decide), pz_ur (by decide), pz_ur (by decide), pz_ur (by decide), pz_ur (by decide), pz_ur (by decide)]; exact h1
  have eP : f_Mo_parse τ = sv_b (f_Mo_key τ1) (fun v3 σ4 => sv_if (v3 < 0) (f_Mo_parse_81 v3 (0 : Int32) σ4) (f_Mo_parse_81 v3 (1 : Int32) σ4)) := by
    have e60 : ∀ y0, y0 = nI base → f_Mo_parse_60 y0 τa' = sv_b (f_Mo_key τ1) (fun v3 σ4 => sv_if (v3 < 0) (f_Mo_parse_81 v3 (0 : Int32) σ4) (f_Mo_parse_81 v3 (1 : Int32) σ4)) := by
      intro y0 hy
      unfold f_Mo_parse_60
      dsimp only
      rw [hy, hτ, y2, pz_b0]
    unfold f_Mo_parse
    dsimp only
    rw [hτ', sv_g_t (by exact ⟨by decide, by decide⟩), show τa' 31 0 ((1 : Int32).toNatClampNeg) = nI nt from m31]
    by_cases g : nt = 14
    · rw [sv_if_t (by rw [g]; decide)]
      exact e60 2886 (by rw [← hB, if_pos g]; rfl)
    · rw [sv_if_f (show ¬ (14 : Int32) ≤ nI nt from nI_ge (b := 14) (by omega) (by omega)), sv_g_t (by exact ⟨by decide, by decide⟩), mo_textAt, pz_b]
      exact e60 _ (by rw [← hB, if_neg g, show nI (86 + 200 * nt) + (4 : Int32) = nI (86 + 200 * nt + 4) from nI_add _ 4]; congr 1; omega)
  have eC : f_Ta_isText σ = sv_b (f_Ta_isKey σ1) (fun v6 σ7 => sv_if (v6 = 0) (sv_g ((0 : Int32) = 0 ∨ (0 : Int32) = 1) (some ((0 : Int32), σ7))) (sv_b0 (f_Ta_next σ7) (fun σ8 => sv_b ((r_Ta 80).1 (0 : Int32) (0 : Int32) (0 : Int32) σ8) (fun v9 σ10 => sv_if (v9 = 0) (sv_g ((0 : Int32) = 0 ∨ (0 : Int32) = 1) (some ((0 : Int32), σ10))) (sv_if ((σ10 8 0 4) = (-1 : Int32)) (sv_g ((1 : Int32) = 0 ∨ (1 : Int32) = 1) (some ((1 : Int32), σ10))) (sv_g ((0 : Int32) = 0 ∨ (0 : Int32) = 1) (some ((0 : Int32), σ10)))))))) := by
    unfold f_Ta_isText
    dsimp only
    rw [hσ, y1, pz_b0]
  -- how the reference ends
  have E111 : ∀ (x : Int32) (υ : sv_S), f_Mo_parse_111 x 0 υ = some (-1, sv_up υ 30 0 17 0) := fun x υ => by unfold f_Mo_parse_111; dsimp only; rw [sv_if_t rfl]
  have E112 : ∀ (x : Int32) (υ : sv_S), f_Mo_parse_111 x 1 υ = some (x, sv_up υ 30 0 17 0) := fun x υ => by unfold f_Mo_parse_111; dsimp only; rw [sv_if_f (by decide)]
  have FMu : ∀ υ, pa_FM base τ υ → pa_FM base τ (sv_up υ 30 0 17 0) := fun υ ⟨z1, z2, z3⟩ => ⟨fun r i a b => by rw [pz_up a]; exact z1 r i a b, fun j a => by rw [pz_uk (by omega)]; exact z2 j a, fun j a => by rw [pz_ur (by decide)]; exact z3 j a⟩
  have FC1 : pa_FC σ σ1 := fun r i a b => by rw [y5 r i a, fC r i a]
  have FM1 : pa_FM base τ τ1 := ⟨fun r i a b => by rw [y7 r i a, fM r i a], fun j a => by rw [y6 j (by omega), fj j a], fun j a => by rw [y7 31 0 (by omega), fM 31 0 (by omega)]⟩
  rcases ta_key hl hc y3 with ⟨k1', k2⟩ | ⟨q, hq, k1', k2, k3, k4⟩
  · rcases mo_key hl hc y3 with ⟨m1, m2⟩ | ⟨q, hq, m1, m2, m3, m4⟩
    · refine ⟨0, σ1, sv_up τ1 30 0 17 0, base, ?_, FC1, rfl, FMu _ FM1, pz_us _ _ _ _ _, Or.inl ⟨rfl, ?_, ?_⟩⟩
      · rw [eC, k1', pz_b, sv_if_t rfl, pz_01]
      · rw [eP, m1, pz_b, sv_if_t (by decide)]
        unfold f_Mo_parse_81
        rw [sv_if_t rfl, E111]
      · rw [pz_uk (by decide), y3.2.1.1, y3.2.2.1.1]
    · exact absurd ⟨m2, q, hq, m3⟩ k2
  · rcases mo_key hl hc y3 with ⟨m1, m2⟩ | ⟨q', hq', m1, m2, m3, m4⟩
    · exact absurd ⟨k2, q, hq, k3⟩ m2
    · have eq : q' = q := by
        rcases Nat.lt_trichotomy q' q with z | z | z
        · exact absurd m3 (k4 q' z)
        · exact z
        · exact absurd k3 (m4 q z)
      subst eq
      -- the state behind the key
      have I1 : pa_I c len q' base σ τ 0 0 p1 e1 k1 0 0 (fun _ => 0) (sv_up σ1 8 0 5 (nI q')) τ1 := by
        refine ⟨y3.frC (fun j hj => pz_uk (by omega)) (pz_up (by omega)), ⟨pz_us _ _ _ _ _, ?_, ?_, fun j hj => absurd hj (Nat.not_lt_zero j)⟩, ⟨?_, ?_, ?_, ?_, ?_, fun j hj => absurd hj (Nat.not_lt_zero j)⟩, ⟨Nat.le_refl 0, fun k hk => ?_, fun k hk => absurd hk (Nat.not_lt_zero k), fun k hk => absurd hk (Nat.not_lt_zero k)⟩, ⟨fun r i a b => by rw [pz_up a]; exact FC1 r i a b, FM1⟩, Nat.zero_le _⟩
        · rw [pz_uk (by decide), y4 6 (by decide) (by decide) (by decide)]; exact a6
        · rw [pz_uk (by decide), y4 7 (by decide) (by decide) (by decide)]; exact a7
        · rw [y6 23 (by omega)]; exact b23
        · rw [y6 24 (by omega)]; exact b24
        · rw [y6 25 (by omega)]; exact b25
        · rw [y6 26 (by omega)]; exact b26
        · rw [y6 27 (by omega)]; exact b27
        · rw [show k = 0 by omega]; exact Nat.le_refl 0
      obtain ⟨σ2, τ2, p2, e2, k2', z1, z2, z3, z4⟩ := I1.next hl hc
      have eP2 : f_Mo_parse τ = sv_b (f_Mo_either (r_Mo 20) (nI q') τ2) (fun v2 σ3 => sv_if (v2 = 0) (f_Mo_parse_111 (nI q') (0 : Int32) σ3) (sv_if ((σ3 30 0 20) = 0) (f_Mo_parse_111 (nI q') (1 : Int32) σ3) (f_Mo_parse_111 (nI q') (0 : Int32) σ3))) := by
        rw [eP, m1, pz_b, sv_if_f (nI_pos (by omega))]
        unfold f_Mo_parse_81
        rw [sv_if_f (by decide), z2, pz_b0]
      have eC2 : f_Ta_isText σ = sv_b ((r_Ta 80).1 (0 : Int32) (0 : Int32) (0 : Int32) σ2) (fun v9 σ10 => sv_if (v9 = 0) (sv_g ((0 : Int32) = 0 ∨ (0 : Int32) = 1) (some ((0 : Int32), σ10))) (sv_if ((σ10 8 0 4) = (-1 : Int32)) (sv_g ((1 : Int32) = 0 ∨ (1 : Int32) = 1) (some ((1 : Int32), σ10))) (sv_g ((0 : Int32) = 0 ∨ (0 : Int32) = 1) (some ((0 : Int32), σ10))))) := by
        rw [eC, k1', pz_b, sv_if_f (by decide), z1, pz_b0]
      rw [eC2, eP2]
      rcases (pa_main hl hc hq' hb σ τ 80).1 0 0 0 20 p2 e2 k2' 0 0 (fun _ => 0) σ2 τ2 (by omega) (by omega) (by omega) (by omega) (by omega) z3 with ⟨σ3, τ3, w1, w2, w3⟩ | ⟨σ3, τ3, w1, w2, p3, e3, k3', L3, ops3, cd3, w3, w4, w5, w6, w7, w8⟩
      · have w1 : (r_Ta 80).1 (0 : Int32) (0 : Int32) (0 : Int32) σ2 = some (0, σ3) := w1
        have w2 : f_Mo_either (r_Mo 20) (nI q') τ2 = some (0, τ3) := w2
        refine ⟨0, σ3, sv_up τ3 30 0 17 0, base, ?_, w3.1.1, rfl, FMu _ w3.1.2, pz_us _ _ _ _ _, Or.inl ⟨rfl, ?_, ?_⟩⟩
        · rw [w1, pz_b, sv_if_t rfl, pz_01]
        · rw [w2, pz_b, sv_if_t rfl, E111]
        · rw [pz_uk (by decide)]; exact w3.2
      · have w1 : (r_Ta 80).1 (0 : Int32) (0 : Int32) (0 : Int32) σ2 = some (1, σ3) := w1
        have w2 : f_Mo_either (r_Mo 20) (nI q') τ2 = some (1, τ3) := w2
        have hk4 : k3' ≤ 4 := w3.1.1.2.2.2.2.1
        have tC : σ3 8 0 4 = -1 ↔ k3' = 0 := by rw [w3.1.2.1.2.2]; exact (pt_t2 hc hk4).2.2.1
        have tM : τ3 30 0 20 = 0 ↔ k3' = 0 := by rw [w3.1.2.2.1.2.2]; exact nI_eq (b := 0) (by omega) (by omega)
        by_cases g : k3' = 0
        · refine ⟨1, σ3, sv_up τ3 30 0 17 0, base, ?_, w3.2.2.2.2.1.1, rfl, FMu _ w3.2.2.2.2.1.2, pz_us _ _ _ _ _, Or.inr ⟨q', ops3, L3, cd3, rfl, ?_, ?_, w3.2.1, ?_, ?_, fun j hj => ?_⟩⟩
          · rw [w1, pz_b, sv_if_f (c := (1 : Int32) = 0) (by decide), sv_if_t (tC.mpr g), pz_11]
          · rw [w2, pz_b, sv_if_f (c := (1 : Int32) = 0) (by decide), sv_if_t (tM.mpr g), E112]
          · obtain ⟨x1, x2, x3, x4⟩ := w3.2.2.2.1
            have l1 := w3.2.2.2.2.2
            have l2 := w3.1.1.2.2.1
            have l3 := w3.1.1.2.2.2.1
            refine ⟨hq', by omega, by omega, ?_, x2, x3, x4⟩
            rw [w8]
            omega
          · rw [pz_uk (by decide)]; exact w3.2.2.1.2.2.1
          · rw [pz_uk (by decide)]; exact w3.2.2.1.2.2.2.2.1
          · rw [pz_ur (by decide), pz_ur (by decide)]; exact w3.2.2.1.2.2.2.2.2 j hj
        · refine ⟨0, σ3, sv_up τ3 30 0 17 0, base, ?_, w3.2.2.2.2.1.1, rfl, FMu _ w3.2.2.2.2.1.2, pz_us _ _ _ _ _, Or.inl ⟨rfl, ?_, ?_⟩⟩
          · rw [w1, pz_b, sv_if_f (c := (1 : Int32) = 0) (by decide), sv_if_f (fun z => g (tC.mp z)), pz_01]
          · rw [w2, pz_b, sv_if_f (c := (1 : Int32) = 0) (by decide), sv_if_f (fun z => g (tM.mp z)), E111]
          · rw [pz_uk (by decide)]; exact w3.N.2
