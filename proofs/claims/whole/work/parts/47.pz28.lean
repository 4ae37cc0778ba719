/-! ===== pure: pieces and sides of both parsers ===== -/
theorem pt_sign {c : Nat → Nat} (hc : ∀ i, c i < 256) {p k s : Nat} (hk : k ≤ 4) (hs : s < 256) : (pt_t c p k = nI s ↔ k = 3 ∧ c p = s) ∧ ((pt_t c p k).toInt = (s : Int) ↔ k = 3 ∧ c p = s) := by
  obtain ⟨-, -, -, t4, t5⟩ := pt_t2 hc (p := p) hk
  have hcp := hc p
  have es : (nI s).toInt = s := pz_ti (by omega)
  by_cases g : k = 3
  · rw [t5 g, nI_eq (by omega) (by omega), pz_ti (by omega)]
    exact ⟨⟨fun z => ⟨g, z⟩, fun z => z.2⟩, ⟨fun z => ⟨g, by omega⟩, fun z => by omega⟩⟩
  · have := t4 g
    refine ⟨⟨fun z => ?_, fun z => absurd z.1 g⟩, ⟨fun z => ?_, fun z => absurd z.1 g⟩⟩
    · rw [pz_eq] at z; omega
    · omega
theorem pa_piece {c : Nat → Nat} {len : Nat} (hl : len ≤ 96) (hc : ∀ i, c i < 256) {q base : Nat} (hq : q < 3) (hb : base + 200 ≤ 3086) {σ0 τ0 : sv_S} {br no : Nat} (hbr : br ≤ 8) (hno : no ≤ 8) {C1 : Int32 → Int32 → Int32 → sv_S → Option (Int32 × sv_S)} {C2 : Int32 → Int32 → sv_S → Option (Int32 × sv_S)} {m : Int32 → sv_S → Option (Int32 × sv_S)}
    (hp : no < 8 → ∀ (p e k L ops : Nat) (cd : Nat → Int32) (σ τ : sv_S), pa_I c len q base σ0 τ0 br (no + 1) p e k L ops cd σ τ → pa_O c len q base σ0 τ0 br (no + 1) 1 p L cd (C2 (nI br) (nI (no + 1)) σ) (m (nI q) τ))
    (hs : br < 8 → ∀ (p e k L ops : Nat) (cd : Nat → Int32) (σ τ : sv_S), pa_I c len q base σ0 τ0 (br + 1) no p e k L ops cd σ τ → pa_O c len q base σ0 τ0 (br + 1) no 1 p L cd (C1 (0 : Int32) (nI (br + 1)) (nI no) σ) (f_Mo_either m (nI q) τ))
    {p e k L ops : Nat} {cd : Nat → Int32} {σ τ : sv_S} (h : pa_I c len q base σ0 τ0 br no p e k L ops cd σ τ) : pa_O c len q base σ0 τ0 br no 1 p L cd (f_Ta_isPiece C1 C2 (nI br) (nI no) σ) (f_Mo_part0 m (nI q) τ) := by
  have hT := h.1
  have hk4 : k ≤ 4 := hT.1.2.2.2.2.1
  have pe : p ≤ e := hT.1.2.2.1
  have el : e ≤ len := hT.1.2.2.2.1
  have tC : σ 8 0 4 = pt_t c p k := hT.2.1.2.2
  have tM : τ 30 0 20 = nI k := hT.2.2.1.2.2
  have hcp := hc p
  obtain ⟨t1, t2, t3, t4, t5⟩ := pt_t2 hc (p := p) hk4
  have s33 := (pt_sign hc (p := p) (s := 33) hk4 (by omega)).2
  have s40 := (pt_sign hc (p := p) (s := 40) hk4 (by omega)).2
  have m2 : (-2 : Int32).toInt = -2 := rfl
  have m3 : (-3 : Int32).toInt = -3 := rfl
  have c3 : (σ 8 0 4).toInt = (-3) ↔ k = 2 := by rw [tC, ← t2, pz_eq, m3]
  have c2 : (σ 8 0 4).toInt = (-2) ↔ k = 1 := by rw [tC, ← t1, pz_eq, m2]
  have c33 : (σ 8 0 4).toInt = 33 ↔ k = 3 ∧ c p = 33 := by rw [tC]; exact s33
  have c40 : (σ 8 0 4).toInt = 40 ↔ k = 3 ∧ c p = 40 := by rw [tC]; exact s40
  have k2 : τ 30 0 20 = 2 ↔ k = 2 := by rw [tM]; exact nI_eq (b := 2) (by omega) (by omega)
  have k1 : τ 30 0 20 = 1 ↔ k = 1 := by rw [tM]; exact nI_eq (b := 1) (by omega) (by omega)
  have M33 : f_Mo_isSign (33 : Int32) τ = some (if k = 3 ∧ c p = 33 then 1 else 0, τ) := mo_sign hc hT (s := 33) (by omega)
  have M40 : f_Mo_isSign (40 : Int32) τ = some (if k = 3 ∧ c p = 40 then 1 else 0, τ) := mo_sign hc hT (s := 40) (by omega)
  have hN : pa_N base σ0 τ0 σ τ := h.N
  have F145 : ¬ (k = 3 ∧ c p = 40) → f_Mo_part0_145 m (nI q) τ = some (0, τ) := by
    intro z
    unfold f_Mo_part0_145
    rw [M40, pz_b, pz_if1, if_neg z, pz_01]
  have F84 : k ≠ 3 → f_Mo_part0_84 m (nI q) τ = some (0, τ) := by
    intro z
    unfold f_Mo_part0_84
    rw [M33, pz_b, pz_if1, if_neg (fun y => z y.1)]
    exact F145 (fun y => z y.1)
  unfold f_Ta_isPiece f_Mo_part0
  by_cases g2 : k = 2
  · -- a number
    obtain ⟨n1, n2, n3⟩ := hT.2.2.2.2.1 g2
    obtain ⟨v, hv, ev⟩ := pa_num_n (c := c) (p := p) (e - p) n2 (fun i a b => n3 i a (by omega))
    have hv4 : v < 10000 := by
      have : 10 ^ (e - p) ≤ 10 ^ 4 := Nat.pow_le_pow_right (by omega) n2
      have e4 : 10 ^ 4 = 10000 := by decide
      omega
    have hx : nI v < (10000 : Int32) := nI_lt (b := 10000) hv4 (by omega)
    have hx2 : nI v < (20000 : Int32) := nI_lt (b := 20000) (by omega) (by omega)
    have w0 : tx_wh (nI v) = 0 := by unfold tx_wh; rw [if_pos hx]
    have w1 : tx_vl q (nI v) = nI v := by unfold tx_vl; rw [if_pos hx]
    obtain ⟨σ', τ', y1, y2, y3⟩ := pa_takes hl hc h hb (by omega) (x := nI v) hx2 (Or.inl ⟨v, hv4, rfl⟩)
    have en : f_Ta_number σ = some (nI v, σ) := by
      unfold f_Ta_number
      rw [hT.2.1.1]
      have g := ta_num hl hc hT.1.1 (p := p) el hT.2.1.2.1 (e - p) 0 sv_fu (by omega) (by unfold sv_fu; omega)
      rw [Nat.zero_add, ev] at g
      exact g
    refine Or.inr ⟨σ', τ', ?_, ?_, y3⟩
    · rw [sv_if_t (c3.mpr g2), en, pz_b, y1, pz_b, pz_11]
    · rw [sv_if_t (k2.mpr g2), n1, ev]
      rw [w0, w1] at y2
      exact y2
  rw [sv_if_f (fun z => g2 (c3.mp z)), sv_if_f (fun z => g2 (k2.mp z))]
  by_cases g1 : k = 1
  · -- a word
    obtain ⟨n1, n2⟩ := hT.2.2.2.1 g1
    have n2 := of_decide_eq_true n2
    rw [sv_if_t (c2.mpr g1), sv_if_t (k1.mpr g1)]
    have es : nI e - nI p = nI (e - p) := pk_sub pe
    unfold f_Ta_isName
    rw [hT.2.1.1, hT.2.1.2.1, es]
    by_cases ge : e - p = 1
    · rw [if_pos ge] at n1
      have kw : f_Te_namesOf (σ 8 0 5) σ = some (3 + q, σ) := by
        rw [h.2.1.1]
        unfold f_Te_namesOf
        rw [pz_ti (by omega)]
        match q, hq with
        | 0, _ => rw [sv_if_t (by decide)]
        | 1, _ => rw [sv_if_f (by decide), sv_if_t (by decide)]
        | 2, _ => rw [sv_if_f (by decide), sv_if_f (by decide)]
        | q + 3, hq => omega
      have ix : f_Js_indexOf (3 + q) (nI (c p)) σ = some (sv_ix (nI (c p)) (sv_tb.getD (3 + q) []) 0, σ) := by
        unfold f_Js_indexOf
        rw [sv_g_t ⟨nI_pos' (by omega), nI_lt (b := 65536) (by omega) (by omega)⟩]
      rw [sv_if_t (by rw [ge]; rfl), kw, pz_b, hT.2.1.1, ta_byte hl hc hT.1.1 (by have := hT.1.2.2.2.2.2 (by omega); omega), pz_b, ch_16 _ hcp, ix, pz_b, n1, sv_if_f (show ¬ nI (c p) = (0 : Int32) from fun z => by have := (nI_eq (b := 0) (by omega) (by omega)).mp z; omega)]
      unfold f_Ta_isName_36
      rcases pa_name hq hcp τ with ⟨i, i1, i2, i3, i4, i5⟩ | ⟨i4, i5⟩
      · have ok : tx_ok q ((10000 : Int32) + nI i) ∧ ((10000 : Int32) + nI i) < 20000 ∧ tx_wh ((10000 : Int32) + nI i) = 1 ∧ tx_vl q ((10000 : Int32) + nI i) = nI (tx_l q i) := by
          unfold tx_vl
          match i, i1 with
          | 0, _ => exact ⟨Or.inr (Or.inl rfl), by decide, by decide, by rw [if_neg (by decide), if_pos (by decide)]⟩
          | 1, _ => exact ⟨Or.inr (Or.inr (Or.inl rfl)), by decide, by decide, by rw [if_neg (by decide), if_neg (by decide), if_pos (by decide)]⟩
          | 2, _ => exact ⟨Or.inr (Or.inr (Or.inr (Or.inl ⟨rfl, i2 rfl⟩))), by decide, by decide, by rw [if_neg (by decide), if_neg (by decide), if_neg (by decide), if_pos (by decide)]⟩
          | i + 3, i1 => omega
        obtain ⟨σ', τ', y1, y2, y3⟩ := pa_takes hl hc h hb (by omega) (x := (10000 : Int32) + nI i) ok.2.1 ok.1
        refine Or.inr ⟨σ', τ', ?_, ?_, y3⟩
        · rw [i4, sv_if_f (nI_pos (by omega)), y1, pz_b, sv_if_f (by decide), pz_11, pz_b, pz_11]
        · rw [i5, pz_b, sv_if_f (by decide), n1, ← i3]
          rw [ok.2.2.1, ok.2.2.2] at y2
          exact y2
      · refine Or.inl ⟨σ, τ, ?_, ?_, hN⟩
        · rw [i4, sv_if_t (by decide), pz_01, pz_b, pz_01]
        · rw [i5, pz_b, sv_if_t rfl]
          exact F84 (by omega)
    · rw [if_neg ge] at n1
      rw [sv_if_f (show ¬ nI (e - p) = (1 : Int32) from fun z => ge ((nI_eq (b := 1) (by omega) (by omega)).mp z)), n1, sv_if_t rfl, F84 (by omega)]
      unfold f_Ta_isName_36
      rw [sv_if_t (by decide), pz_01, pz_b, pz_01]
      exact Or.inl ⟨σ, τ, rfl, rfl, hN⟩
  rw [sv_if_f (fun z => g1 (c2.mp z)), sv_if_f (fun z => g1 (k1.mp z))]
  by_cases g33 : k = 3 ∧ c p = 33
  · -- a not
    rw [sv_if_t (c33.mpr g33)]
    unfold f_Mo_part0_84
    rw [M33, pz_b, pz_if1, if_pos g33, h.2.2.1.2.1]
    by_cases gn : no < 8
    · rw [sv_if_t (show nI no < (8 : Int32) from nI_lt (b := 8) gn (by omega)), sv_if_f (show ¬ (8 : Int32) ≤ nI no from nI_ge (b := 8) gn (by omega)), nI_1]
      dsimp only
      have pe' : p < e := hT.1.2.2.2.2.2 (by omega)
      obtain ⟨σ1, τ1, p1, e1, k1', a1, a2, a3, a4⟩ := (h.turn (no + 1)).next hl hc
      rw [a1, pz_b0, a2, pz_b0]
      rcases hp gn p1 e1 k1' L ops cd σ1 τ1 a3 with ⟨σ2, τ2, b1, b2, b3⟩ | ⟨σ2, τ2, b1, b2, p2, e2, k2', L2, ops2, cd2, b3, b4, b5, b6, b7, b8⟩
      · refine Or.inl ⟨σ2, τ2, ?_, ?_, b3⟩
        · rw [b1, pz_b, sv_if_t rfl, pz_01]
        · rw [b2, pz_b, sv_if_t rfl, pz_01]
      · have el2 : e2 ≤ len := b3.1.1.2.2.2.1
        have pe2 : p2 ≤ e2 := b3.1.1.2.2.1
        have hLp := h.2.2.2.2.2
        have e24 : τ2 30 0 24 = nI (no + 1) := b3.2.2.1.2.1
        have es : nI (no + 1) - (1 : Int32) = nI no := pk_sub (a := no + 1) (b := 1) (by omega)
        have I2 := b3.turn no
        obtain ⟨σ3, τ3, d1, d2, d3, d4, d5, d6⟩ := pa_put I2 hb (by omega) 20033
        obtain ⟨kt, kh⟩ := b3.2.2.2.1.op (x := 20033) (by decide) (Or.inr (Or.inr (Or.inr (Or.inr (Or.inl rfl))))) (by rw [if_pos rfl]; omega)
        rw [if_pos rfl] at kh
        have w1 : tx_vl q 20033 = 33 := by unfold tx_vl; rw [if_neg (by decide), if_neg (by decide), if_neg (by decide), if_neg (by decide)]; decide
        rw [show tx_wh 20033 = 2 from by decide, w1] at d2
        refine Or.inr ⟨σ3, τ3, ?_, ?_, p2, e2, k2', L2 + 1, ops2, upd cd2 L2 20033, ⟨d3, d4, d5, kt, d6, by omega⟩, by omega, by omega, by omega, fun j hj => by rw [pk_un (by omega)]; exact b7 j hj, by rw [kh, b8]⟩
        · rw [b1, pz_b, sv_if_f (by decide), d1, pz_b0, pz_11]
        · rw [b2, pz_b, sv_if_f (by decide), e24, es, d2, pz_b0, pz_11]
    · rw [sv_if_f (show ¬ nI no < (8 : Int32) from fun z => gn ((nI_ltI (b := 8) (by omega) (by omega)).mp z)), sv_if_t (show (8 : Int32) ≤ nI no from nI_le (a := 8) (by omega) (by omega)), pz_01, F145 (by omega)]
      exact Or.inl ⟨σ, τ, rfl, rfl, hN⟩
  rw [sv_if_f (fun z => g33 (c33.mp z))]
  have E84 : f_Mo_part0_84 m (nI q) τ = f_Mo_part0_145 m (nI q) τ := by
    unfold f_Mo_part0_84
    rw [M33, pz_b, pz_if1, if_neg g33]
  rw [E84]
  by_cases g40 : k = 3 ∧ c p = 40
  · -- a bracket
    rw [sv_if_t (c40.mpr g40)]
    unfold f_Mo_part0_145
    rw [M40, pz_b, pz_if1, if_pos g40, h.2.2.1.1]
    by_cases gn : br < 8
    · rw [sv_if_t (show nI br < (8 : Int32) from nI_lt (b := 8) gn (by omega)), sv_if_f (show ¬ nI br = (8 : Int32) from fun z => by have := (nI_eq (b := 8) (by omega) (by omega)).mp z; omega), nI_1]
      dsimp only
      have pe' : p < e := hT.1.2.2.2.2.2 (by omega)
      obtain ⟨σ1, τ1, p1, e1, k1', a1, a2, a3, a4⟩ := (h.deep (br + 1)).next hl hc
      rw [a1, pz_b0, a2, pz_b0]
      rcases hs gn p1 e1 k1' L ops cd σ1 τ1 a3 with ⟨σ2, τ2, b1, b2, b3⟩ | ⟨σ2, τ2, b1, b2, p2, e2, k2', L2, ops2, cd2, b3, b4, b5, b6, b7, b8⟩
      · refine Or.inl ⟨σ2, τ2, ?_, ?_, b3⟩
        · rw [b1, pz_b, sv_if_t rfl, pz_01]
        · rw [b2, pz_b, sv_if_t rfl, pz_01]
      · have hk2 : k2' ≤ 4 := b3.1.1.2.2.2.2.1
        have s41 := (pt_sign hc (p := p2) (s := 41) hk2 (by omega)).1
        have M41 : f_Mo_isSign (41 : Int32) τ2 = some (if k2' = 3 ∧ c p2 = 41 then 1 else 0, τ2) := mo_sign hc b3.1 (s := 41) (by omega)
        have C41 : σ2 8 0 4 = (41 : Int32) ↔ k2' = 3 ∧ c p2 = 41 := by rw [b3.1.2.1.2.2]; exact s41
        have e23 : τ2 30 0 23 = nI (br + 1) := b3.2.2.1.1
        have es : nI (br + 1) - (1 : Int32) = nI br := pk_sub (a := br + 1) (b := 1) (by omega)
        rw [b1, pz_b, sv_if_f (c := (1 : Int32) = 0) (by decide), b2, pz_b, sv_if_f (c := (1 : Int32) = 0) (by decide), M41, pz_b, pz_if1]
        by_cases g41 : k2' = 3 ∧ c p2 = 41
        · rw [sv_if_t (C41.mpr g41), if_pos g41, e23, es]
          have pe2 : p2 < e2 := b3.1.1.2.2.2.2.2 (by omega)
          obtain ⟨σ3, τ3, p3, e3, k3', d1, d2, d3, d4⟩ := (b3.deep br).next hl hc
          rw [d1, pz_b0, pz_11, d2, pz_b0, pz_11]
          exact Or.inr ⟨σ3, τ3, rfl, rfl, p3, e3, k3', L2, ops2, cd2, d3, by omega, by omega, by omega, b7, b8⟩
        · rw [sv_if_f (fun z => g41 (C41.mp z)), if_neg g41, pz_01, pz_01]
          exact Or.inl ⟨σ2, τ2, rfl, rfl, b3.N⟩
    · rw [sv_if_f (show ¬ nI br < (8 : Int32) from fun z => gn ((nI_ltI (b := 8) (by omega) (by omega)).mp z)), sv_if_t (show nI br = (8 : Int32) by rw [show br = 8 by omega]; rfl), pz_01, pz_01]
      exact Or.inl ⟨σ, τ, rfl, rfl, hN⟩
  · rw [sv_if_f (fun z => g40 (c40.mp z)), pz_01, F145 g40]
    exact Or.inl ⟨σ, τ, rfl, rfl, hN⟩
/-! sides -/
def pa_lv (s : Nat) : Nat := if s = 38 then 1 else if s = 42 then 4 else if s = 43 then 3 else if s = 45 then 3 else if s = 47 then 4 else if s = 60 then 2 else if s = 61 then 2 else if s = 62 then 2 else if s = 124 then 0 else 5
def pa_lk (c : Nat → Nat) (p k : Nat) : Nat := if k = 3 then pa_lv (c p) else 5
theorem pa_lv5 (s : Nat) : pa_lv s ≤ 5 := by unfold pa_lv; (repeat' split) <;> decide
theorem ta_lev {c : Nat → Nat} (hc : ∀ i, c i < 256) {p k : Nat} (hk : k ≤ 4) (σ : sv_S) : f_Ta_levelOf (pt_t c p k) σ = some (nI (pa_lk c p k), σ) := by
  have S38 : (pt_t c p k).toInt = 38 ↔ k = 3 ∧ c p = 38 := (pt_sign hc (p := p) (s := 38) hk (by omega)).2
  have S42 : (pt_t c p k).toInt = 42 ↔ k = 3 ∧ c p = 42 := (pt_sign hc (p := p) (s := 42) hk (by omega)).2
  have S43 : (pt_t c p k).toInt = 43 ↔ k = 3 ∧ c p = 43 := (pt_sign hc (p := p) (s := 43) hk (by omega)).2
  have S45 : (pt_t c p k).toInt = 45 ↔ k = 3 ∧ c p = 45 := (pt_sign hc (p := p) (s := 45) hk (by omega)).2
  have S47 : (pt_t c p k).toInt = 47 ↔ k = 3 ∧ c p = 47 := (pt_sign hc (p := p) (s := 47) hk (by omega)).2
  have S60 : (pt_t c p k).toInt = 60 ↔ k = 3 ∧ c p = 60 := (pt_sign hc (p := p) (s := 60) hk (by omega)).2
  have S61 : (pt_t c p k).toInt = 61 ↔ k = 3 ∧ c p = 61 := (pt_sign hc (p := p) (s := 61) hk (by omega)).2
  have S62 : (pt_t c p k).toInt = 62 ↔ k = 3 ∧ c p = 62 := (pt_sign hc (p := p) (s := 62) hk (by omega)).2
  have S124 : (pt_t c p k).toInt = 124 ↔ k = 3 ∧ c p = 124 := (pt_sign hc (p := p) (s := 124) hk (by omega)).2
  unfold f_Ta_levelOf pa_lk
  by_cases g : k = 3
  · rw [if_pos g]
    unfold pa_lv
    by_cases c38 : c p = 38
    · rw [sv_if_t (S38.mpr ⟨g, c38⟩), if_pos c38]; rfl
    rw [sv_if_f (fun z => c38 (S38.mp z).2), if_neg c38]
    by_cases c42 : c p = 42
    · rw [sv_if_t (S42.mpr ⟨g, c42⟩), if_pos c42]; rfl
    rw [sv_if_f (fun z => c42 (S42.mp z).2), if_neg c42]
    by_cases c43 : c p = 43
    · rw [sv_if_t (S43.mpr ⟨g, c43⟩), if_pos c43]; rfl
    rw [sv_if_f (fun z => c43 (S43.mp z).2), if_neg c43]
    by_cases c45 : c p = 45
    · rw [sv_if_t (S45.mpr ⟨g, c45⟩), if_pos c45]; rfl
    rw [sv_if_f (fun z => c45 (S45.mp z).2), if_neg c45]
    by_cases c47 : c p = 47
    · rw [sv_if_t (S47.mpr ⟨g, c47⟩), if_pos c47]; rfl
    rw [sv_if_f (fun z => c47 (S47.mp z).2), if_neg c47]
    by_cases c60 : c p = 60
    · rw [sv_if_t (S60.mpr ⟨g, c60⟩), if_pos c60]; rfl
    rw [sv_if_f (fun z => c60 (S60.mp z).2), if_neg c60]
    by_cases c61 : c p = 61
    · rw [sv_if_t (S61.mpr ⟨g, c61⟩), if_pos c61]; rfl
    rw [sv_if_f (fun z => c61 (S61.mp z).2), if_neg c61]
    by_cases c62 : c p = 62
    · rw [sv_if_t (S62.mpr ⟨g, c62⟩), if_pos c62]; rfl
    rw [sv_if_f (fun z => c62 (S62.mp z).2), if_neg c62]
    by_cases c124 : c p = 124
    · rw [sv_if_t (S124.mpr ⟨g, c124⟩), if_pos c124]; rfl
    rw [sv_if_f (fun z => c124 (S124.mp z).2), if_neg c124]
    rfl
  · rw [if_neg g, sv_if_f (fun z => g (S38.mp z).1), sv_if_f (fun z => g (S42.mp z).1), sv_if_f (fun z => g (S43.mp z).1), sv_if_f (fun z => g (S45.mp z).1), sv_if_f (fun z => g (S47.mp z).1), sv_if_f (fun z => g (S60.mp z).1), sv_if_f (fun z => g (S61.mp z).1), sv_if_f (fun z => g (S62.mp z).1), sv_if_f (fun z => g (S124.mp z).1)]
    rfl
theorem pa_opc {s q : Nat} (h : pa_lv s < 5) : tx_ok q ((20000 : Int32) + nI s) ∧ ¬ ((20000 : Int32) + nI s) < 20000 ∧ ((20000 : Int32) + nI s) ≠ 20033 ∧ tx_wh ((20000 : Int32) + nI s) = 2 ∧ tx_vl q ((20000 : Int32) + nI s) = nI s := by
  have hs : s = 38 ∨ s = 42 ∨ s = 43 ∨ s = 45 ∨ s = 47 ∨ s = 60 ∨ s = 61 ∨ s = 62 ∨ s = 124 := by
    unfold pa_lv at h
    (repeat' split at h) <;> first | omega | exact absurd h (by decide)
  have sg : tx_sg (nI s) := by
    unfold tx_sg
    rcases hs with e | e | e | e | e | e | e | e | e <;> subst e <;> decide
  refine ⟨Or.inr (Or.inr (Or.inr (Or.inr (Or.inr ⟨nI s, sg, rfl⟩)))), ?_⟩
  unfold tx_vl
  rcases hs with e | e | e | e | e | e | e | e | e <;> subst e <;> exact ⟨by decide, by decide, by decide, by rw [if_neg (by decide), if_neg (by decide), if_neg (by decide), if_neg (by decide)]; decide⟩
noncomputable def pa_stC (C K : sv_S → Option (Int32 × sv_S)) (σ : sv_S) : Option (Int32 × sv_S) := sv_b0 (f_Ta_next σ) (fun σ3 => sv_b (C σ3) (fun v4 σ5 => sv_if (v4 = 0) (sv_g ((0 : Int32) = 0 ∨ (0 : Int32) = 1) (some ((0 : Int32), σ5))) (sv_b0 (f_Ta_write ((20000 : Int32) + (σ 8 0 4)) σ5) (fun σ6 => K σ6))))
noncomputable def pa_stM (s : Int32) (C K : sv_S → Option (Int32 × sv_S)) (τ : sv_S) : Option (Int32 × sv_S) := sv_b0 (f_Mo_nextToken τ) (fun σ3 => sv_b (C σ3) (fun v4 σ5 => sv_if (v4 = 0) (sv_g ((0 : Int32) = 0 ∨ (0 : Int32) = 1) (some ((0 : Int32), σ5))) (sv_b0 (f_Mo_step (2 : Int32) s σ5) (fun σ6 => K σ6))))
theorem pa_step {c : Nat → Nat} {len : Nat} (hl : len ≤ 96) (hc : ∀ i, c i < 256) {q base : Nat} (hb : base + 200 ≤ 3086) {σ0 τ0 : sv_S} {br no : Nat} {C M : sv_S → Option (Int32 × sv_S)}
    (hlow : ∀ (p e k L ops : Nat) (cd : Nat → Int32) (σ τ : sv_S), pa_I c len q base σ0 τ0 br no p e k L ops cd σ τ → pa_O c len q base σ0 τ0 br no 1 p L cd (C σ) (M τ))
    {p e k L ops : Nat} {cd : Nat → Int32} {σ τ : sv_S} (h : pa_I c len q base σ0 τ0 br no p e k L ops cd σ τ) (hk : pa_lk c p k < 5) (h1 : 1 ≤ tx_h cd L) :
    (∃ σ' τ', pa_N base σ0 τ0 σ' τ' ∧ ∀ KC KM, pa_stC C KC σ = some (0, σ') ∧ pa_stM (nI (c p)) M KM τ = some (0, τ')) ∨ ∃ (σ' τ' : sv_S) (p' e' k' L' ops' : Nat) (cd' : Nat → Int32), pa_I c len q base σ0 τ0 br no p' e' k' L' ops' cd' σ' τ' ∧ p < p' ∧ L' + p ≤ L + p' ∧ L ≤ L' ∧ (∀ j, j < L → cd' j = cd j) ∧ tx_h cd' L' = tx_h cd L ∧ ∀ KC KM, pa_stC C KC σ = KC σ' ∧ pa_stM (nI (c p)) M KM τ = KM τ' := by
  have k3 : k = 3 := by
    unfold pa_lk at hk
    by_cases g : k = 3
    · exact g
    · rw [if_neg g] at hk; exact absurd hk (by decide)
  rw [pa_lk, if_pos k3] at hk
  have hT := h.1
  have tC : σ 8 0 4 = nI (c p) := by rw [hT.2.1.2.2]; exact (pt_t2 hc hT.1.2.2.2.2.1).2.2.2.2 k3
  have pe : p < e := hT.1.2.2.2.2.2 (by omega)
  have hLp := h.2.2.2.2.2
  obtain ⟨σ1, τ1, p1, e1, k1, a1, a2, a3, a4⟩ := h.next hl hc
  rcases hlow p1 e1 k1 L ops cd σ1 τ1 a3 with ⟨σ2, τ2, b1, b2, b3⟩ | ⟨σ2, τ2, b1, b2, p2, e2, k2, L2, ops2, cd2, b3, b4, b5, b6, b7, b8⟩
  · refine Or.inl ⟨σ2, τ2, b3, fun KC KM => ⟨?_, ?_⟩⟩
    · unfold pa_stC; rw [a1, pz_b0, b1, pz_b, sv_if_t rfl, pz_01]
    · unfold pa_stM; rw [a2, pz_b0, b2, pz_b, sv_if_t rfl, pz_01]
  · have el2 : e2 ≤ len := b3.1.1.2.2.2.1
    have pe2 : p2 ≤ e2 := b3.1.1.2.2.1
    obtain ⟨o1, o2, o3, o4, o5⟩ := pa_opc (q := q) hk
    obtain ⟨σ3, τ3, d1, d2, d3, d4, d5, d6⟩ := pa_put b3 hb (by omega) ((20000 : Int32) + nI (c p))
    obtain ⟨kt, kh⟩ := b3.2.2.2.1.op o2 o1 (by rw [if_neg o3]; omega)
    rw [if_neg o3] at kh
    rw [o4, o5] at d2
    refine Or.inr ⟨σ3, τ3, p2, e2, k2, L2 + 1, ops2, upd cd2 L2 ((20000 : Int32) + nI (c p)), ⟨d3, d4, d5, kt, d6, by omega⟩, by omega, by omega, by omega, fun j hj => by rw [pk_un (by omega)]; exact b7 j hj, by rw [kh, b8]; omega, fun KC KM => ⟨?_, ?_⟩⟩
    · unfold pa_stC; rw [a1, pz_b0, b1, pz_b, sv_if_f (by decide), tC, d1, pz_b0]
    · unfold pa_stM; rw [a2, pz_b0, b2, pz_b, sv_if_f (by decide), d2, pz_b0]
theorem pa_loop {c : Nat → Nat} {len : Nat} (hl : len ≤ 96) (hc : ∀ i, c i < 256) {q base : Nat} (hb : base + 200 ≤ 3086) {σ0 τ0 : sv_S} {br no lv : Nat} (hlv : lv < 5) (h2 : lv ≠ 2) {C1 : Int32 → Int32 → Int32 → sv_S → Option (Int32 × sv_S)} {C2 : Int32 → Int32 → sv_S → Option (Int32 × sv_S)} {M : sv_S → Option (Int32 × sv_S)} {G : Nat → sv_S → Option (Int32 × sv_S)}
    (hlow : ∀ (p e k L ops : Nat) (cd : Nat → Int32) (σ τ : sv_S), pa_I c len q base σ0 τ0 br no p e k L ops cd σ τ → pa_O c len q base σ0 τ0 br no 1 p L cd (C1 (nI (lv + 1)) (nI br) (nI no) σ) (M τ))
    (H1 : ∀ (p e k : Nat) (σ τ : sv_S) (f : Nat), pa_T c len p e k σ τ → pa_lk c p k ≠ lv → G (f + 1) τ = some (1, τ))
    (H2 : ∀ (p e k : Nat) (σ τ : sv_S) (f : Nat), pa_T c len p e k σ τ → pa_lk c p k = lv → G (f + 1) τ = pa_stM (nI (c p)) M (G f) τ) :
    ∀ (r p e k L ops : Nat) (cd : Nat → Int32) (σ τ : sv_S) (kk fC fM : Nat), len - p ≤ r → r < fC → r < fM → kk ≤ p → pa_I c len q base σ0 τ0 br no p e k L ops cd σ τ → 1 ≤ tx_h cd L → pa_O c len q base σ0 τ0 br no 0 p L cd (f_Ta_isSide_29 C1 C2 fC (nI lv) (nI br) (nI no) (nI kk) σ) (G fM τ) := by
  intro r
  have stop : ∀ (p e k L ops : Nat) (cd : Nat → Int32) (σ τ : sv_S) (kk fC fM : Nat), pa_I c len q base σ0 τ0 br no p e k L ops cd σ τ → pa_lk c p k ≠ lv → pa_O c len q base σ0 τ0 br no 0 p L cd (f_Ta_isSide_29 C1 C2 (fC + 1) (nI lv) (nI br) (nI no) (nI kk) σ) (G (fM + 1) τ) := by
    intro p e k L ops cd σ τ kk fC fM h hk
    refine Or.inr ⟨σ, τ, ?_, H1 p e k σ τ fM h.1 hk, p, e, k, L, ops, cd, h, by omega, by omega, by omega, fun _ _ => rfl, rfl⟩
    rw [f_Ta_isSide_29]
    by_cases g : (96 : Int32) ≤ nI kk
    · rw [sv_if_t g, pz_11]
    · rw [sv_if_f g, h.1.2.1.2.2, ta_lev hc h.1.1.2.2.2.2.1, pz_b, sv_if_f (fun z => hk ?_), pz_11]
      have l5 : pa_lk c p k ≤ 5 := by
        unfold pa_lk
        split
        · exact pa_lv5 _
        · omega
      exact (nI_eq (by omega) (by omega)).mp z
  induction r with
  | zero =>
    intro p e k L ops cd σ τ kk fC fM hr h1 h2' hkk h ht
    obtain ⟨f, rfl⟩ : ∃ f, fC = f + 1 := ⟨fC - 1, by omega⟩
    obtain ⟨g, rfl⟩ : ∃ g, fM = g + 1 := ⟨fM - 1, by omega⟩
    refine stop p e k L ops cd σ τ kk f g h ?_
    have k0 : k = 0 := by
      by_cases z : k = 0
      · exact z
      · have := h.1.1.2.2.2.2.2 z
        have := h.1.1.2.2.2.1
        omega
    unfold pa_lk
    rw [if_neg (by omega)]
    omega
  | succ r ih =>
    intro p e k L ops cd σ τ kk fC fM hr h1 h2' hkk h ht
    obtain ⟨f, rfl⟩ : ∃ f, fC = f + 1 := ⟨fC - 1, by omega⟩
    obtain ⟨g, rfl⟩ : ∃ g, fM = g + 1 := ⟨fM - 1, by omega⟩
    by_cases hk : pa_lk c p k = lv
    · have k3 : k = 3 := by
        unfold pa_lk at hk
        by_cases z : k = 3
        · exact z
        · rw [if_neg z] at hk; omega
      have pe := h.1.1.2.2.2.2.2 (by omega)
      have el := h.1.1.2.2.2.1
      have eC : f_Ta_isSide_29 C1 C2 (f + 1) (nI lv) (nI br) (nI no) (nI kk) σ = pa_stC (C1 (nI (lv + 1)) (nI br) (nI no)) (fun σ6 => f_Ta_isSide_29 C1 C2 f (nI lv) (nI br) (nI no) (nI (kk + 1)) σ6) σ := by
        rw [f_Ta_isSide_29, sv_if_f (show ¬ (96 : Int32) ≤ nI kk from nI_ge (b := 96) (by omega) (by omega)), h.1.2.1.2.2, ta_lev hc h.1.1.2.2.2.2.1, pz_b, sv_if_t (by rw [hk]), nI_1, nI_1]
        unfold pa_stC
        rw [h.1.2.1.2.2]
        have n2 : ¬ nI lv = (2 : Int32) := fun z => h2 ((nI_eq (b := 2) (by omega) (by omega)).mp z)
        simp only [sv_if_f n2]
      rw [eC, H2 p e k σ τ g h.1 hk]
      rcases pa_step hl hc hb hlow h (by omega) ht with ⟨σ', τ', a1, a2⟩ | ⟨σ', τ', p', e', k', L', ops', cd', a1, a2, a3, a4, a5, a6, a7⟩
      · exact Or.inl ⟨σ', τ', (a2 _ (G g)).1, (a2 (fun _ => none) _).2, a1⟩
      · rw [(a7 _ (G g)).1, (a7 (fun _ => none) _).2]
        rcases ih p' e' k' L' ops' cd' σ' τ' (kk + 1) f g (by omega) (by omega) (by omega) (by omega) a1 (by omega) with z | ⟨σ2, τ2, b1, b2, p2, e2, k2, L2, ops2, cd2, b3, b4, b5, b6, b7, b8⟩
        · exact Or.inl z
        · exact Or.inr ⟨σ2, τ2, b1, b2, p2, e2, k2, L2, ops2, cd2, b3, by omega, by omega, by omega, fun j hj => by rw [b7 j (by omega)]; exact a5 j hj, by rw [b8, a6]⟩
    · exact stop p e k L ops cd σ τ kk f g h hk
theorem pa_sideL {c : Nat → Nat} {len : Nat} (hl : len ≤ 96) (hc : ∀ i, c i < 256) {q base : Nat} (hb : base + 200 ≤ 3086) {σ0 τ0 : sv_S} {br no lv : Nat} (hlv : lv < 5) (h2 : lv ≠ 2) {C1 : Int32 → Int32 → Int32 → sv_S → Option (Int32 × sv_S)} {C2 : Int32 → Int32 → sv_S → Option (Int32 × sv_S)} {M : sv_S → Option (Int32 × sv_S)} {G : Nat → sv_S → Option (Int32 × sv_S)}
    (hlow : ∀ (p e k L ops : Nat) (cd : Nat → Int32) (σ τ : sv_S), pa_I c len q base σ0 τ0 br no p e k L ops cd σ τ → pa_O c len q base σ0 τ0 br no 1 p L cd (C1 (nI (lv + 1)) (nI br) (nI no) σ) (M τ))
    (H1 : ∀ (p e k : Nat) (σ τ : sv_S) (f : Nat), pa_T c len p e k σ τ → pa_lk c p k ≠ lv → G (f + 1) τ = some (1, τ))
    (H2 : ∀ (p e k : Nat) (σ τ : sv_S) (f : Nat), pa_T c len p e k σ τ → pa_lk c p k = lv → G (f + 1) τ = pa_stM (nI (c p)) M (G f) τ)
    {p e k L ops : Nat} {cd : Nat → Int32} {σ τ : sv_S} (h : pa_I c len q base σ0 τ0 br no p e k L ops cd σ τ) : pa_O c len q base σ0 τ0 br no 1 p L cd (f_Ta_isSide C1 C2 (nI lv) (nI br) (nI no) σ) (sv_b (M τ) (fun v1 σ2 => sv_if (v1 = 0) (sv_g ((0 : Int32) = 0 ∨ (0 : Int32) = 1) (some ((0 : Int32), σ2))) (G sv_fu σ2))) := by
  unfold f_Ta_isSide
  rw [sv_if_t (show nI lv < (5 : Int32) from nI_lt (b := 5) hlv (by omega)), nI_1]
  rcases hlow p e k L ops cd σ τ h with ⟨σ2, τ2, b1, b2, b3⟩ | ⟨σ2, τ2, b1, b2, p2, e2, k2, L2, ops2, cd2, b3, b4, b5, b6, b7, b8⟩
  · refine Or.inl ⟨σ2, τ2, ?_, ?_, b3⟩
    · rw [b1, pz_b, sv_if_t rfl, pz_01]
    · rw [b2, pz_b, sv_if_t rfl, pz_01]
  · rw [b1, pz_b, sv_if_f (c := (1 : Int32) = 0) (by decide), b2, pz_b, sv_if_f (c := (1 : Int32) = 0) (by decide)]
    rcases pa_loop hl hc hb hlv h2 (C2 := C2) hlow H1 H2 len p2 e2 k2 L2 ops2 cd2 σ2 τ2 0 sv_fu sv_fu (by omega) (by unfold sv_fu; omega) (by unfold sv_fu; omega) (by omega) b3 (by omega) with z | ⟨σ3, τ3, d1, d2, p3, e3, k3, L3, ops3, cd3, d3, d4, d5, d6, d7, d8⟩
    · exact Or.inl z
    · exact Or.inr ⟨σ3, τ3, d1, d2, p3, e3, k3, L3, ops3, cd3, d3, by omega, by omega, by omega, fun j hj => by rw [d7 j (by omega)]; exact b7 j hj, by omega⟩
/-- the one test -/
theorem pa_side2 {c : Nat → Nat} {len : Nat} (hl : len ≤ 96) (hc : ∀ i, c i < 256) {q base : Nat} (hb : base + 200 ≤ 3086) {σ0 τ0 : sv_S} {br no : Nat} {C1 : Int32 → Int32 → Int32 → sv_S → Option (Int32 × sv_S)} {C2 : Int32 → Int32 → sv_S → Option (Int32 × sv_S)} {M G : sv_S → Option (Int32 × sv_S)}
    (hlow : ∀ (p e k L ops : Nat) (cd : Nat → Int32) (σ τ : sv_S), pa_I c len q base σ0 τ0 br no p e k L ops cd σ τ → pa_O c len q base σ0 τ0 br no 1 p L cd (C1 (nI (2 + 1)) (nI br) (nI no) σ) (M τ))
    (H1 : ∀ (p e k : Nat) (σ τ : sv_S), pa_T c len p e k σ τ → pa_lk c p k ≠ 2 → G τ = some (1, τ))
    (H2 : ∀ (p e k : Nat) (σ τ : sv_S), pa_T c len p e k σ τ → pa_lk c p k = 2 → G τ = pa_stM (nI (c p)) M (fun σ4 => some (1, σ4)) τ)
    {p e k L ops : Nat} {cd : Nat → Int32} {σ τ : sv_S} (h : pa_I c len q base σ0 τ0 br no p e k L ops cd σ τ) : pa_O c len q base σ0 τ0 br no 1 p L cd (f_Ta_isSide C1 C2 (nI 2) (nI br) (nI no) σ) (sv_b (M τ) (fun v1 σ2 => sv_if (v1 = 0) (sv_g ((0 : Int32) = 0 ∨ (0 : Int32) = 1) (some ((0 : Int32), σ2))) (G σ2))) := by
  unfold f_Ta_isSide
  rw [sv_if_t (show nI 2 < (5 : Int32) by decide), nI_1]
  rcases hlow p e k L ops cd σ τ h with ⟨σ2, τ2, b1, b2, b3⟩ | ⟨σ2, τ2, b1, b2, p2, e2, k2, L2, ops2, cd2, b3, b4, b5, b6, b7, b8⟩
  · refine Or.inl ⟨σ2, τ2, ?_, ?_, b3⟩
    · rw [b1, pz_b, sv_if_t rfl, pz_01]
    · rw [b2, pz_b, sv_if_t rfl, pz_01]
  · rw [b1, pz_b, sv_if_f (c := (1 : Int32) = 0) (by decide), b2, pz_b, sv_if_f (c := (1 : Int32) = 0) (by decide)]
    have e0 : f_Ta_isSide_29 C1 C2 sv_fu (nI 2) (nI br) (nI no) (0 : Int32) σ2 = if pa_lk c p2 k2 = 2 then pa_stC (C1 (nI (2 + 1)) (nI br) (nI no)) (fun σ6 => some (1, σ6)) σ2 else some (1, σ2) := by
      show f_Ta_isSide_29 C1 C2 (3999 + 1) (nI 2) (nI br) (nI no) (0 : Int32) σ2 = _
      rw [f_Ta_isSide_29, sv_if_f (show ¬ (96 : Int32) ≤ 0 by decide), b3.1.2.1.2.2, ta_lev hc b3.1.1.2.2.2.2.1, pz_b]
      have l5 : pa_lk c p2 k2 ≤ 5 := by
        unfold pa_lk
        split
        · exact pa_lv5 _
        · omega
      by_cases g : pa_lk c p2 k2 = 2
      · rw [sv_if_t (by rw [g]), if_pos g, nI_1]
        unfold pa_stC
        rw [b3.1.2.1.2.2]
        have n2 : nI 2 = (2 : Int32) := rfl
        have P' : ∀ (x : Option (Int32 × sv_S)), sv_g ((1 : Int32) = 0 ∨ True) x = x := fun x => sv_g_t (Or.inr trivial)
        simp only [sv_if_t n2, P']
      · rw [sv_if_f (fun z => g ((nI_eq (by omega) (by omega)).mp z)), if_neg g, pz_11]
    rw [e0]
    by_cases g : pa_lk c p2 k2 = 2
    · rw [if_pos g, H2 p2 e2 k2 σ2 τ2 b3.1 g]
      rcases pa_step hl hc hb hlow b3 (by omega) (by omega) with ⟨σ', τ', a1, a2⟩ | ⟨σ', τ', p', e', k', L', ops', cd', a1, a2, a3, a4, a5, a6, a7⟩
      · exact Or.inl ⟨σ', τ', (a2 _ (fun _ => none)).1, (a2 (fun _ => none) _).2, a1⟩
      · exact Or.inr ⟨σ', τ', (a7 _ (fun _ => none)).1, (a7 (fun _ => none) _).2, p', e', k', L', ops', cd', a1, by omega, by omega, by omega, fun j hj => by rw [a5 j (by omega)]; exact b7 j hj, by omega⟩
    · rw [if_neg g, H1 p2 e2 k2 σ2 τ2 b3.1 g]
      exact Or.inr ⟨σ2, τ2, rfl, rfl, p2, e2, k2, L2, ops2, cd2, b3, by omega, b5, b6, b7, b8⟩
