/-! ===== pure: text ===== -/
theorem li_C.grow {σ τ : sv_S} {a n nt : Nat} {b m z : Int32} {d : be_D} {T : Nat → tx_T} (h : li_C σ a n nt b m z d T) (hn : n ≤ 10) (h1 : τ 1 a = σ 1 a) (h2 : ∀ i, 10 * a ≤ i → i < 10 * a + 10 → τ 2 i = σ 2 i) (h4 : τ 4 a = σ 4 a) (h5 : τ 5 a = σ 5 a) (h18 : ∀ i, i < sv_ct σ → τ 18 i = σ 18 i) (h19 : ∀ i, i < sv_ct σ → τ 19 i = σ 19 i) (h22 : sv_ct σ ≤ sv_ct τ) : li_C τ a n nt b m z d T := by
  obtain ⟨⟨g1, g2, g3, g4, g5⟩, g6, g7, g8⟩ := h
  refine ⟨⟨by rw [h1]; exact g1, by rw [h1]; exact g2, by rw [h1]; exact g3, by rw [h1]; exact g4, fun k hk j hj => by rw [h2 _ (by omega) (by omega)]; exact g5 k hk j hj⟩, by rw [h1]; exact g6, fun t ht => ?_, fun q hq => by rw [h5]; exact g8 q hq⟩
  obtain ⟨id, y1, y2, y3⟩ := g7 t ht
  exact ⟨id, by rw [h4]; exact y1, by omega, by rw [h18 id y2, h19 id y2]; exact y3⟩
/-- what a text's call leaves as it was -/
def R_kT (σ τ : sv_S) : Prop := (∀ r i, r ≠ 8 → r ≠ 10 → r ≠ 18 → r ≠ 19 → r ≠ 20 → r ≠ 22 → ¬ ((r = 1 ∨ r = 4 ∨ r = 5) ∧ i = 0) → ¬ (r = 30 ∧ i = 0) → ¬ (r = 31 ∧ i = 0) → τ r i = σ r i) ∧ (∀ j, j < 17 ∨ 27 < j → τ 30 0 j = σ 30 0 j) ∧ (∀ i, i < sv_ct σ → τ 18 i = σ 18 i) ∧ (∀ i, i < sv_ct σ → τ 19 i = σ 19 i) ∧ sv_ct σ ≤ sv_ct τ
theorem R_X.T {σ τ : sv_S} (h : R_X σ) (k : R_kT σ τ) (hp : τ 8 0 1 = 0 ∧ τ 30 0 17 = 0) : R_X τ := by
  obtain ⟨k1, k2, k3, k4, k5⟩ := k
  obtain ⟨⟨hg0, hg1⟩, -, hh, hs, hw⟩ := h
  have e : ∀ r, r ≠ 8 → r ≠ 10 → r ≠ 18 → r ≠ 19 → r ≠ 20 → r ≠ 22 → r ≠ 1 → r ≠ 4 → r ≠ 5 → r ≠ 30 → r ≠ 31 → τ r = σ r := fun r a1 a2 a3 a4 a5 a6 a7 a8 a9 b1 b2 => funext fun i => k1 r i a1 a2 a3 a4 a5 a6 (by omega) (by omega) (by omega)
  have m : ∀ i, i ≠ 0 → τ 31 i = σ 31 i := fun i hi => k1 31 i (by omega) (by omega) (by omega) (by omega) (by omega) (by omega) (by omega) (by omega) (by omega)
  have e0 := e 0 (by omega) (by omega) (by omega) (by omega) (by omega) (by omega) (by omega) (by omega) (by omega) (by omega) (by omega)
  have e2 := e 2 (by omega) (by omega) (by omega) (by omega) (by omega) (by omega) (by omega) (by omega) (by omega) (by omega) (by omega)
  have e12 := e 12 (by omega) (by omega) (by omega) (by omega) (by omega) (by omega) (by omega) (by omega) (by omega) (by omega) (by omega)
  have e13 := e 13 (by omega) (by omega) (by omega) (by omega) (by omega) (by omega) (by omega) (by omega) (by omega) (by omega) (by omega)
  have e14 := e 14 (by omega) (by omega) (by omega) (by omega) (by omega) (by omega) (by omega) (by omega) (by omega) (by omega) (by omega)
  have e15 := e 15 (by omega) (by omega) (by omega) (by omega) (by omega) (by omega) (by omega) (by omega) (by omega) (by omega) (by omega)
  have e16 := e 16 (by omega) (by omega) (by omega) (by omega) (by omega) (by omega) (by omega) (by omega) (by omega) (by omega) (by omega)
  refine ⟨⟨by rw [e0, k2 3 (by omega)]; exact hg0, ?_⟩, ⟨0, by omega, hp.1, hp.2, fun i hi => absurd hi (Nat.not_lt_zero i)⟩, ?_, ?_, ?_⟩
  · rw [e0]
    rcases hg1 with h | ⟨h, n, nt, b, m', z, d, T, g1, g2, g3⟩
    · exact Or.inl h
    · refine Or.inr ⟨h, n, nt, b, m', z, d, T, g1.grow g3.1 (k1 1 1 (by omega) (by omega) (by omega) (by omega) (by omega) (by omega) (by omega) (by omega) (by omega)) (fun i _ _ => by rw [e2]) (k1 4 1 (by omega) (by omega) (by omega) (by omega) (by omega) (by omega) (by omega) (by omega) (by omega)) (k1 5 1 (by omega) (by omega) (by omega) (by omega) (by omega) (by omega) (by omega) (by omega) (by omega)) k3 k4 k5, by rw [m 1 (by omega)]; exact g2, g3⟩
  · unfold R_H at *; rw [e12, e13, m 4 (by omega), m 5 (by omega), m 6 (by omega)]; exact hh
  · unfold R_S at *; rw [e14, e15, e12, e13, e2, m 7 (by omega), m 8 (by omega), m 9 (by omega), m 10 (by omega), m 11 (by omega)]; exact hs
  · unfold R_W at *; rw [e0, e16, k2 32 (by omega), m 31 (by omega)]; exact hw
theorem li_V.low {v w : Nat → Int32} {n nt : Nat} {b m z : Int32} {d : be_D} {T : Nat → tx_T} (h : li_V v n nt b m z d T) (hn : n ≤ 10) (ok : ∀ t, t < nt → (T t).2.2.1 ≤ 96) (e : ∀ j, j < 86 + 200 * nt → w j = v j) : li_V w n nt b m z d T := by
  obtain ⟨⟨h1, h2, h3, h4, h5⟩, h6, h7⟩ := h
  refine ⟨⟨by rw [e 0 (by omega)]; exact h1, by rw [e 3 (by omega)]; exact h2, by rw [e 2 (by omega)]; exact h3, by rw [e 4 (by omega)]; exact h4, fun k hk j hj => by rw [e _ (by omega)]; exact h5 k hk j hj⟩, by rw [e 1 (by omega)]; exact h6, fun t ht => ?_⟩
  obtain ⟨g1, g2, g3, g4⟩ := h7 t ht
  have := ok t ht
  exact ⟨by rw [e _ (by omega)]; exact g1, by rw [e _ (by omega)]; exact g2, by rw [e _ (by omega)]; exact g3, fun j hj => by rw [e _ (by omega), e _ (by omega)]; exact g4 j hj⟩
/-- the store with one text more -/
def tx_is (σ τ : sv_S) (id L : Nat) : Prop := τ 18 id 0 = σ 8 0 5 ∧ τ 18 id 1 = σ 8 0 6 ∧ τ 18 id 9 = σ 8 0 7 ∧ (∀ j, j < L → τ 19 id j = σ 10 0 j) ∧ τ 22 0 0 = nI (id + 1) ∧ ∀ r i, ¬ ((r = 18 ∨ r = 19 ∨ r = 20) ∧ i = id) → r ≠ 22 → τ r i = σ r i
theorem R_text {σ : sv_S} (h : R_A σ) (hct : sv_ct σ < 1000) : ∃ (v : Int32) (σ1 : sv_S), f_Ta_isText σ = some (v, σ1) ∧ (∀ r i, ¬ (r = 8 ∧ i = 0) → ¬ (r = 10 ∧ i = 0) → σ1 r i = σ r i) ∧
    ((v = 0 ∧ ∃ τ, f_Mo_text (sv_up σ1 8 0 1 0) = some ((-100 : Int32) - σ1 8 0 2, τ) ∧ R_A τ) ∨
     (v = 1 ∧ σ1 1 0 8 = 14 ∧ ∃ τ, f_Mo_text (sv_up σ1 8 0 1 0) = some ((-1000000003 : Int32), τ) ∧ R_A τ) ∨
     (v = 1 ∧ ∃ nt L ops q : Nat, nt < 14 ∧ L ≤ 96 ∧ ops ≤ 96 ∧ q < 3 ∧ σ1 1 0 8 = nI nt ∧ σ1 8 0 5 = nI q ∧ σ1 8 0 6 = nI ops ∧ σ1 8 0 7 = nI L ∧ ∀ σ3, tx_is (sv_up σ1 8 0 1 0) σ3 (sv_ct σ) L → ∃ σ4 τ, f_Li_takeLaw 0 (sv_ct σ) σ3 = some (nI nt, σ4) ∧ f_Mo_text σ4 = some (nI nt, τ) ∧ R_A τ)) := by
  obtain ⟨⟨n, nt, b, m, z, d, T, hC, hV, ok⟩, hX⟩ := id h
  obtain ⟨len, hl, p1, p2, p3⟩ := hX.2.1
  have hn := ok.1
  have hnt := ok.2.1
  have okL : ∀ t, t < nt → (T t).2.2.1 ≤ 96 := fun t ht => (ok.2.2.2.2 t ht).2.2.1
  -- the tape's bytes
  let c : Nat → Nat := fun i => (σ 31 16 i).toNatClampNeg % 256
  have hc : ∀ i, c i < 256 := fun i => Nat.mod_lt _ (by omega)
  have cc : ∀ i, i < len → σ 31 16 i = nI (c i) ∧ σ 9 0 i &&& 255 = nI (c i) := by
    intro i hi
    obtain ⟨k, k1, k2, k3⟩ := p3 i hi
    have e : c i = k := by
      show (σ 31 16 i).toNatClampNeg % 256 = k
      rw [k2, pz_cl (by omega)]
      exact Nat.mod_eq_of_lt k1
    rw [e]
    exact ⟨k2, k3⟩
  have pC : pa_C c len σ := ⟨p1, fun i hi => (cc i hi).2⟩
  have pM : ∀ τ, τ 30 = σ 30 → τ 31 = σ 31 → pa_M c len τ ∧ τ 31 0 1 = nI nt := fun τ e30 e31 => ⟨⟨by rw [e30]; exact p2, fun i hi => by rw [e31]; exact (cc i hi).1⟩, by rw [e31]; exact hV.2.1⟩
  -- the class's half
  obtain ⟨v, σ1, -, -, a1, a2, -, -, -, a3⟩ := pa_text hl hc hnt pC (pM σ rfl rfl).1 (pM σ rfl rfl).2
  -- the reference's, from any store
  have P : ∀ τ, τ 30 = σ 30 → τ 31 = σ 31 → ∃ (τ1 : sv_S) (base : Nat), base = (if nt = 14 then 2886 else 90 + 200 * nt) ∧ pa_FM base τ τ1 ∧ τ1 30 0 17 = 0 ∧ ((v = 0 ∧ f_Mo_parse τ = some (-1, τ1) ∧ σ1 8 0 2 = τ1 30 0 18) ∨ ∃ (q ops L : Nat) (cd : Nat → Int32), v = 1 ∧ f_Mo_parse τ = some (nI q, τ1) ∧ tx_w q ops L cd ∧ pa_KC q L ops cd σ1 ∧ τ1 30 0 25 = nI L ∧ τ1 30 0 27 = nI ops ∧ ∀ j, j < L → τ1 31 0 (base + 2 * j) = tx_wh (cd j) ∧ τ1 31 0 (base + 2 * j + 1) = tx_vl q (cd j)) := by
    intro τ e30 e31
    obtain ⟨v', σ1', τ1, base, b1, b2, b3, b4, b5, b6⟩ := pa_text hl hc hnt pC (pM τ e30 e31).1 (pM τ e30 e31).2
    have e := Option.some.inj (a1.symm.trans b1)
    have ev : v' = v := (congrArg Prod.fst e).symm
    have es : σ1' = σ1 := (congrArg Prod.snd e).symm
    rw [ev, es] at b6
    exact ⟨τ1, base, b3, b4, b5, b6⟩
  refine ⟨v, σ1, a1, a2, ?_⟩
  have n14 : ∀ υ : sv_S, υ 31 0 1 = nI nt → (υ 31 0 ((1 : Int32).toNatClampNeg) = (14 : Int32) ↔ nt = 14) := fun υ e => by
    rw [show υ 31 0 ((1 : Int32).toNatClampNeg) = nI nt from e]
    exact nI_eq (b := 14) (by omega) (by omega)
  have s0 : ∀ r i, ¬ (r = 8 ∧ i = 0) → ¬ (r = 10 ∧ i = 0) → sv_up σ1 8 0 1 0 r i = σ r i := fun r i x y => by rw [pz_up x]; exact a2 r i x y
  -- no text, or no place for it: the relation
  have K : ∀ (τ1 : sv_S) (base : Nat), base = (if nt = 14 then 2886 else 90 + 200 * nt) → pa_FM base (sv_up σ1 8 0 1 0) τ1 → τ1 30 0 17 = 0 → R_A τ1 := by
    intro τ1 base hb ⟨f1, f2, f3⟩ f4
    have e : ∀ r i, ¬ (r = 8 ∧ i = 0) → ¬ (r = 10 ∧ i = 0) → ¬ (r = 30 ∧ i = 0) → ¬ (r = 31 ∧ i = 0) → τ1 r i = σ r i := fun r i x y z w => by rw [f1 r i z w, s0 r i x y]
    have ect : sv_ct τ1 = sv_ct σ := by unfold sv_ct; rw [e 22 0 (by omega) (by omega) (by omega) (by omega)]
    refine ⟨⟨n, nt, b, m, z, d, T, hC.to hn (e 1 0 (by omega) (by omega) (by omega) (by omega)) (fun i _ _ => e 2 i (by omega) (by omega) (by omega) (by omega)) (e 4 0 (by omega) (by omega) (by omega) (by omega)) (e 5 0 (by omega) (by omega) (by omega) (by omega)) (funext fun i => e 18 i (by omega) (by omega) (by omega) (by omega)) (funext fun i => e 19 i (by omega) (by omega) (by omega) (by omega)) (funext fun i => e 22 i (by omega) (by omega) (by omega) (by omega)), hV.low hn okL (fun j hj => ?_), ok⟩, hX.T ⟨fun r i x1 x2 x3 x4 x5 x6 x7 x8 x9 => e r i (fun q => x1 q.1) (fun q => x2 q.1) x8 x9, fun j hj => ?_, fun i _ => e 18 i (by omega) (by omega) (by omega) (by omega), fun i _ => e 19 i (by omega) (by omega) (by omega) (by omega), by omega⟩ ⟨?_, f4⟩⟩
    · rw [f3 j (by rw [hb]; split <;> omega), s0 31 0 (by omega) (by omega)]
    · rw [f2 j hj, s0 30 0 (by omega) (by omega)]
    · rw [f1 8 0 (by omega) (by omega), pz_us]
  obtain ⟨τ1, base, d1, d2, d3, d4⟩ := P (sv_up σ1 8 0 1 0) (funext fun i => s0 30 i (by omega) (by omega)) (funext fun i => s0 31 i (by omega) (by omega))
  have t1n : τ1 31 0 1 = nI nt := by rw [d2.2.2 1 (by rw [d1]; split <;> omega), s0 31 0 (by omega) (by omega)]; exact hV.2.1
  rcases d4 with ⟨v0, g1, g2⟩ | ⟨q, ops, L, cd, v1, g1, g2, g3, -⟩
  · refine Or.inl ⟨v0, τ1, ?_, K τ1 base d1 d2 d3⟩
    unfold f_Mo_text
    rw [g1, pz_b, sv_if_f (by decide), g2]
  · have c8 : σ1 1 0 8 = nI nt := by rw [a2 1 0 (by omega) (by omega)]; exact hC.2.1
    by_cases g : nt = 14
    · refine Or.inr (Or.inl ⟨v1, by rw [c8, g]; rfl, τ1, ?_, K τ1 base d1 d2 d3⟩)
      unfold f_Mo_text
      rw [g1, pz_b, sv_if_t (nI_pos' (by have := g2.1; omega)), sv_g_t (by exact ⟨by decide, by decide⟩), sv_if_t ((n14 τ1 t1n).mpr g)]
    · refine Or.inr (Or.inr ⟨v1, nt, L, ops, q, by omega, g2.2.2.1, g2.2.1, g2.1, c8, g3.1, g3.2.1, g3.2.2.1, fun σ3 hσ3 => ?_⟩)
      obtain ⟨i0, i1, i9, i19, i22, io⟩ := hσ3
      generalize hid : sv_ct σ = id at *
      have o3 : ∀ r i, ¬ (r = 8 ∧ i = 0) → ¬ (r = 10 ∧ i = 0) → ¬ ((r = 18 ∨ r = 19 ∨ r = 20) ∧ i = id) → r ≠ 22 → σ3 r i = σ r i := fun r i x y z w => by rw [io r i z w, s0 r i x y]
      have h18 : σ3 18 id 0 = nI q := by rw [i0, pz_uk (by decide)]; exact g3.1
      have h8 : σ3 1 0 8 = nI nt := by rw [o3 1 0 (by omega) (by omega) (by omega) (by omega)]; exact hC.2.1
      have hq := g2.1
      -- the class takes it
      generalize hσ4 : sv_up (sv_up (sv_up σ3 4 0 nt (nI (id + 1))) 5 0 q (nI nt)) 1 0 8 (nI (nt + 1)) = σ4
      have eT : f_Li_takeLaw 0 id σ3 = some (nI nt, σ4) := by
        unfold f_Li_takeLaw
        rw [h8, pz_in (by omega) (by omega), pz_cl (by omega), pz_ur (r := 4) (r' := 18) (by decide), h18, pz_in (by omega) (by omega), pz_cl (by omega), pz_ur (r := 4) (r' := 1) (by decide), h8]
        dsimp only
        rw [pz_ur (r := 5) (r' := 1) (by decide), pz_ur (r := 4) (r' := 1) (by decide), h8, nI_1, hσ4, show σ4 1 0 8 = nI (nt + 1) by rw [← hσ4, pz_us], show nI (nt + 1) - (1 : Int32) = nI nt from pk_sub (a := nt + 1) (b := 1) (by omega)]
      have o4 : ∀ r i, ¬ (r = 8 ∧ i = 0) → ¬ (r = 10 ∧ i = 0) → ¬ ((r = 18 ∨ r = 19 ∨ r = 20) ∧ i = id) → r ≠ 22 → ¬ ((r = 1 ∨ r = 4 ∨ r = 5) ∧ i = 0) → σ4 r i = σ r i := fun r i x y z w u => by rw [← hσ4, pz_up (by omega), pz_up (by omega), pz_up (by omega)]; exact o3 r i x y z w
      have o4' : ∀ r, r ≠ 1 → r ≠ 4 → r ≠ 5 → σ4 r = σ3 r := fun r x y z => funext fun i => by rw [← hσ4, pz_up (by omega), pz_up (by omega), pz_up (by omega)]
      -- the reference
      obtain ⟨υ, base', e1, e2, e3, e4⟩ := P σ4 (funext fun i => o4 30 i (by omega) (by omega) (by omega) (by omega) (by omega)) (funext fun i => o4 31 i (by omega) (by omega) (by omega) (by omega) (by omega))
      rw [if_neg g] at e1
      subst e1
      rcases e4 with ⟨v0, -⟩ | ⟨q', ops', L', cd', -, y1, y2, y3, y4, y5, y6⟩
      · rw [v1] at v0; exact absurd v0 (by decide)
      · have eq : q' = q := by have := y3.1.symm.trans g3.1; exact (nI_eq (by have := y2.1; omega) (by omega)).mp this
        have eo : ops' = ops := by have := y3.2.1.symm.trans g3.2.1; exact (nI_eq (by have := y2.2.1; omega) (by have := g2.2.1; omega)).mp this
        have eL : L' = L := by have := y3.2.2.1.symm.trans g3.2.2.1; exact (nI_eq (by have := y2.2.2.1; omega) (by have := g2.2.2.1; omega)).mp this
        subst eq eo eL
        have hL := y2.2.2.1
        have hops := y2.2.1
        have u1 : υ 31 0 1 = nI nt := by rw [e2.2.2 1 (by omega), o4 31 0 (by omega) (by omega) (by omega) (by omega) (by omega)]; exact hV.2.1
        generalize hω : sv_up (sv_up (sv_up (sv_up υ 31 0 (86 + 200 * nt) (nI q')) 31 0 (87 + 200 * nt) (nI ops')) 31 0 (88 + 200 * nt) (nI L')) 31 0 1 (nI (nt + 1)) = ω
        have eM : f_Mo_text σ4 = some (nI nt, ω) := by
          unfold f_Mo_text
          rw [y1, pz_b, sv_if_t (nI_pos' (by omega)), sv_g_t (by exact ⟨by decide, by decide⟩), sv_if_f (fun z => g ((n14 υ u1).mp z)), sv_g_t (by exact ⟨by decide, by decide⟩), show υ 31 0 ((1 : Int32).toNatClampNeg) = nI nt from u1, mo_textAt, pz_b, Int32.add_zero, nI_1, mo_tx2, show 86 + 200 * nt + 1 = 87 + 200 * nt by omega, pz_in (by omega) (by omega), pz_in (by omega) (by omega), pz_in (by omega) (by omega), sv_g_t (by exact ⟨by decide, by decide⟩), sv_g_t (by exact ⟨by decide, by decide⟩), sv_g_t (by exact ⟨by decide, by decide⟩), pz_cl (k := 86 + 200 * nt) (by omega), pz_cl (k := 87 + 200 * nt) (by omega), pz_cl (k := 88 + 200 * nt) (by omega), show ((1 : Int32).toNatClampNeg) = 1 from rfl]
          rw [pz_ur (r := 31) (r' := 30) (by decide), y5, pz_ur (r := 31) (r' := 30) (by decide), pz_ur (r := 31) (r' := 30) (by decide), y4, pz_uk (j := 1) (k := 88 + 200 * nt) (by omega), pz_uk (j := 1) (k := 87 + 200 * nt) (by omega), pz_uk (j := 1) (k := 86 + 200 * nt) (by omega), u1, nI_1, hω, show ω 31 0 1 = nI (nt + 1) by rw [← hω, pz_us], show nI (nt + 1) - (1 : Int32) = nI nt from pk_sub (a := nt + 1) (b := 1) (by omega)]
        refine ⟨σ4, ω, eT, eM, ?_⟩
        have w0 : ∀ r i, ¬ (r = 31 ∧ i = 0) → ω r i = υ r i := fun r i x => by rw [← hω, pz_up x, pz_up x, pz_up x, pz_up x]
        have wo : ∀ r i, ¬ (r = 8 ∧ i = 0) → ¬ (r = 10 ∧ i = 0) → ¬ ((r = 18 ∨ r = 19 ∨ r = 20) ∧ i = id) → r ≠ 22 → ¬ ((r = 1 ∨ r = 4 ∨ r = 5) ∧ i = 0) → ¬ (r = 30 ∧ i = 0) → ¬ (r = 31 ∧ i = 0) → ω r i = σ r i := fun r i x y z w u a b => by rw [w0 r i b, e2.1 r i a b, o4 r i x y z w u]
        have w4 : ∀ r, r ≠ 30 → r ≠ 31 → ω r = σ4 r := fun r x y => funext fun i => by rw [w0 r i (by omega), e2.1 r i (by omega) (by omega)]
        have w3 : ∀ r, r ≠ 30 → r ≠ 31 → r ≠ 1 → r ≠ 4 → r ≠ 5 → ω r = σ3 r := fun r x y a b c => by rw [w4 r x y, o4' r a b c]
        have wct : sv_ct ω = id + 1 := by unfold sv_ct; rw [w3 22 (by omega) (by omega) (by omega) (by omega) (by omega), i22, pz_cl (by omega)]
        have w31 : ∀ j, j ≠ 1 → (j < 86 + 200 * nt) → ω 31 0 j = σ 31 0 j := fun j x y => by rw [← hω, pz_uk x, pz_uk (by omega), pz_uk (by omega), pz_uk (by omega), e2.2.2 j (by omega), o4 31 0 (by omega) (by omega) (by omega) (by omega) (by omega)]
        have w4s : ∀ j, ω 4 0 j = if j = nt then nI (id + 1) else σ 4 0 j := fun j => by
          rw [w4 4 (by omega) (by omega), ← hσ4, pz_ur (by decide), pz_ur (by decide)]
          by_cases x : j = nt
          · rw [if_pos x, x, pz_us]
          · rw [if_neg x, pz_uk x, o3 4 0 (by omega) (by omega) (by omega) (by omega)]
        have w5s : ∀ j, ω 5 0 j = if j = q' then nI nt else σ 5 0 j := fun j => by
          rw [w4 5 (by omega) (by omega), ← hσ4, pz_ur (by decide)]
          by_cases x : j = q'
          · rw [if_pos x, x, pz_us]
          · rw [if_neg x, pz_uk x, pz_ur (by decide), o3 5 0 (by omega) (by omega) (by omega) (by omega)]
        have w1s : ω 1 0 8 = nI (nt + 1) ∧ ∀ j, j ≠ 8 → ω 1 0 j = σ 1 0 j := by
          rw [w4 1 (by omega) (by omega), ← hσ4]
          exact ⟨pz_us _ _ _ _ _, fun j x => by rw [pz_uk x, pz_ur (by decide), pz_ur (by decide), o3 1 0 (by omega) (by omega) (by omega) (by omega)]⟩
        have w18 : ∀ i, i < id → ω 18 i = σ 18 i := fun i hi => wo 18 i (by omega) (by omega) (by omega) (by omega) (by omega) (by omega) (by omega)
        have w19 : ∀ i, i < id → ω 19 i = σ 19 i := fun i hi => wo 19 i (by omega) (by omega) (by omega) (by omega) (by omega) (by omega) (by omega)
        let T' : Nat → tx_T := fun t => if t = nt then (q', (ops', (L', cd'))) else T t
        have T0 : T' nt = (q', (ops', (L', cd'))) := if_pos rfl
        have T1 : ∀ t, t ≠ nt → T' t = T t := fun t x => if_neg x
        have lt : ∀ q, ∀ u, u ≤ nt → li_t T' q u = li_t T q u := by
          intro q u
          induction u with
          | zero => intro _; rfl
          | succ u ih =>
            intro hu
            simp only [li_t]
            rw [T1 u (by omega), ih (by omega)]
        obtain ⟨⟨c1, c2, c3, c4, c5⟩, c6, c7, c8'⟩ := hC
        refine ⟨⟨n, nt + 1, b, m, z, d, T', ⟨⟨by rw [w1s.2 4 (by decide)]; exact c1, by rw [w1s.2 5 (by decide)]; exact c2, by rw [w1s.2 6 (by decide)]; exact c3, by rw [w1s.2 7 (by decide)]; exact c4, fun k hk j hj => by rw [wo 2 _ (by omega) (by omega) (by omega) (by omega) (by omega) (by omega) (by omega)]; exact c5 k hk j hj⟩, w1s.1, fun t ht => ?_, fun q hq => ?_⟩, ?_, ⟨hn, by omega, ok.2.2.1, ok.2.2.2.1, fun t ht => ?_⟩⟩, hX.T ⟨fun r i x1 x2 x3 x4 x5 x6 x7 x8 x9 => wo r i (fun q => x1 q.1) (fun q => x2 q.1) (by omega) x6 x7 x8 x9, fun j hj => ?_, fun i hi => w18 i (by rw [hid] at hi; exact hi), fun i hi => w19 i (by rw [hid] at hi; exact hi), by rw [hid, wct]; omega⟩ ⟨?_, ?_⟩⟩
        · by_cases x : t = nt
          · subst x
            refine ⟨id, by rw [w4s, if_pos rfl], ?_⟩
            rw [T0]
            refine ⟨by rw [wct]; omega, ?_, ?_, ?_, fun j hj => ?_⟩
            · rw [w3 18 (by omega) (by omega) (by omega) (by omega) (by omega)]; exact h18
            · rw [w3 18 (by omega) (by omega) (by omega) (by omega) (by omega), i1, pz_uk (by decide)]; exact y3.2.1
            · rw [w3 18 (by omega) (by omega) (by omega) (by omega) (by omega), i9, pz_uk (by decide)]; exact y3.2.2.1
            · rw [w3 19 (by omega) (by omega) (by omega) (by omega) (by omega), i19 j hj, pz_ur (by decide)]; exact y3.2.2.2 j hj
          · obtain ⟨id', x1, x2, x3⟩ := c7 t (by omega)
            rw [hid] at x2
            exact ⟨id', by rw [w4s, if_neg x]; exact x1, by rw [wct]; omega, by rw [w18 id' x2, w19 id' x2, T1 t x]; exact x3⟩
        · rw [w5s]
          simp only [li_t]
          rw [T0]
          by_cases x : q = q'
          · rw [if_pos x, if_pos x.symm]
          · rw [if_neg x, if_neg (fun y => x y.symm), lt q nt (Nat.le_refl nt)]; exact c8' q hq
        · obtain ⟨⟨v1', v2, v3, v4, v5⟩, v6, v7⟩ := hV
          refine ⟨⟨by rw [w31 0 (by omega) (by omega)]; exact v1', by rw [w31 3 (by omega) (by omega)]; exact v2, by rw [w31 2 (by omega) (by omega)]; exact v3, by rw [w31 4 (by omega) (by omega)]; exact v4, fun k hk j hj => by rw [w31 _ (by omega) (by omega)]; exact v5 k hk j hj⟩, by rw [← hω, pz_us], fun t ht => ?_⟩
          by_cases x : t = nt
          · subst x
            rw [T0]
            refine ⟨?_, ?_, ?_, fun j hj => ?_⟩
            · rw [← hω, pz_uk (by omega), pz_uk (by omega), pz_uk (by omega), pz_us]
            · rw [← hω, pz_uk (by omega), pz_uk (by omega), pz_us]
            · rw [← hω, pz_uk (by omega), pz_us]
            · have hj' : j < L' := hj
              have := y6 j hj
              rw [show 91 + 200 * t + 2 * j = 90 + 200 * t + 2 * j + 1 by omega, ← hω, pz_uk (by omega), pz_uk (by omega), pz_uk (by omega), pz_uk (by omega), pz_uk (by omega), pz_uk (by omega), pz_uk (by omega), pz_uk (by omega)]
              exact this
          · obtain ⟨x1, x2, x3, x4⟩ := v7 t (by omega)
            have := okL t (by omega)
            rw [T1 t x]
            exact ⟨by rw [w31 _ (by omega) (by omega)]; exact x1, by rw [w31 _ (by omega) (by omega)]; exact x2, by rw [w31 _ (by omega) (by omega)]; exact x3, fun j hj => by rw [w31 _ (by omega) (by omega), w31 _ (by omega) (by omega)]; exact x4 j hj⟩
        · by_cases x : t = nt
          · rw [x, T0]; exact y2
          · rw [T1 t x]; exact ok.2.2.2.2 t (by omega)
        · rw [w0 30 0 (by omega), e2.2.1 j hj, o4 30 0 (by omega) (by omega) (by omega) (by omega) (by omega)]
        · rw [w3 8 (by omega) (by omega) (by omega) (by omega) (by omega), io 8 0 (by omega) (by omega), pz_us]
        · rw [w0 30 0 (by omega)]; exact e3
