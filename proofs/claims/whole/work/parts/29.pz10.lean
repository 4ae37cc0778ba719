/-! ===== pure: the relation of class and reference; guards ===== -/
def wo_q (q : Nat) (v : Int32) : Int32 := if q = 1 then v + 4 else if q = 2 then 20 - v else if q = 3 then 2 * (v + 4) else if q = 4 then 15 - v else if q = 5 then 6 else v
def R_L (σ : sv_S) : Prop := ∃ (n nt : Nat) (b m z : Int32) (d : be_D) (T : Nat → tx_T), li_C σ 0 n nt b m z d T ∧ li_V (σ 31 0) n nt b m z d T ∧ li_ok n nt b d T
def R_I (σ : sv_S) : Prop := ∃ (n nt : Nat) (b m z : Int32) (d : be_D) (T : Nat → tx_T), li_C σ 1 n nt b m z d T ∧ li_V (σ 31 1) n nt b m z d T ∧ li_ok n nt b d T
def R_G (σ : sv_S) : Prop := σ 30 0 3 = σ 0 0 3 ∧ (σ 0 0 3 = 0 ∨ σ 0 0 3 = 1 ∧ R_I σ)
def R_P (σ : sv_S) : Prop := ∃ len : Nat, len ≤ 96 ∧ σ 8 0 1 = nI len ∧ σ 30 0 17 = nI len ∧ ∀ i, i < len → ∃ c : Nat, c < 256 ∧ σ 31 16 i = nI c ∧ σ 9 0 i &&& 255 = nI c
def R_H (σ : sv_S) : Prop := ∀ s, s < 4 → σ 31 4 s = σ 12 s 0 ∧ (σ 12 s 0 = -1 ∨ σ 12 s 0 = 0 ∨ σ 12 s 0 = 1) ∧ (∃ k : Nat, k ≤ 24 ∧ σ 12 s 1 = nI k ∧ σ 31 5 s = nI k) ∧ (∀ i, i < 24 → σ 31 6 (24 * s + i) = σ 13 s i) ∧ ∀ i, i < 24 → σ 13 s i = -1000000005 ∨ -99999 ≤ (σ 13 s i).toInt ∧ (σ 13 s i).toInt ≤ 99999
def R_S (σ : sv_S) : Prop := ∀ s, s < 5 → σ 31 7 s = σ 14 0 s ∧ (σ 14 0 s = 0 ∨ (σ 14 0 s = 1 ∧ ∃ q : Nat, q < 6 ∧ σ 2 (30 + s) 0 = nI q ∧ σ 31 8 s = nI q ∧ σ 31 9 s = wo_q q (σ 2 (30 + s) 1)) ∨ (σ 14 0 s = 2 ∧ ∃ k : Nat, k ≤ 24 ∧ σ 12 (4 + s) 1 = nI k ∧ σ 31 10 s = nI k ∧ ∀ i, i < 24 → σ 31 11 (24 * s + i) = σ 13 (4 + s) i) ∨ (σ 14 0 s = 3 ∧ σ 31 8 s = σ 15 0 s))
def R_W (σ : sv_S) : Prop := ∃ w : Nat, w ≤ 60 ∧ σ 0 0 11 = nI w ∧ σ 30 0 32 = nI w ∧ ∀ i, i < w → σ 31 31 i = σ 16 0 i
def R_X (σ : sv_S) : Prop := R_G σ ∧ R_P σ ∧ R_H σ ∧ R_S σ ∧ R_W σ
def R_A (σ : sv_S) : Prop := R_L σ ∧ R_X σ
theorem li_C.to {σ τ : sv_S} {a n nt : Nat} {b m z : Int32} {d : be_D} {T : Nat → tx_T} (h : li_C σ a n nt b m z d T) (hn : n ≤ 10) (h1 : τ 1 a = σ 1 a) (h2 : ∀ i, 10 * a ≤ i → i < 10 * a + 10 → τ 2 i = σ 2 i) (h4 : τ 4 a = σ 4 a) (h5 : τ 5 a = σ 5 a) (h18 : τ 18 = σ 18) (h19 : τ 19 = σ 19) (h22 : τ 22 = σ 22) : li_C τ a n nt b m z d T := by
  obtain ⟨⟨g1, g2, g3, g4, g5⟩, g6, g7, g8⟩ := h
  refine ⟨⟨by rw [h1]; exact g1, by rw [h1]; exact g2, by rw [h1]; exact g3, by rw [h1]; exact g4, fun k hk j hj => by rw [h2 _ (by omega) (by omega)]; exact g5 k hk j hj⟩, by rw [h1]; exact g6, fun t ht => ?_, fun q hq => by rw [h5]; exact g8 q hq⟩
  obtain ⟨id, y1, y2⟩ := g7 t ht
  refine ⟨id, by rw [h4]; exact y1, ?_⟩
  unfold li_tC sv_ct at *
  rw [h18, h19, h22]
  exact y2
theorem R_I.to {σ τ : sv_S} (h : R_I σ) (h1 : τ 1 1 = σ 1 1) (h2 : ∀ i, 10 ≤ i → i < 20 → τ 2 i = σ 2 i) (h4 : τ 4 1 = σ 4 1) (h5 : τ 5 1 = σ 5 1) (h18 : τ 18 = σ 18) (h19 : τ 19 = σ 19) (h22 : τ 22 = σ 22) (hs : τ 31 1 = σ 31 1) : R_I τ := by
  obtain ⟨n, nt, b, m, z, d, T, g1, g2, g3⟩ := h
  exact ⟨n, nt, b, m, z, d, T, g1.to g3.1 h1 (fun i p q => h2 i (by omega) (by omega)) h4 h5 h18 h19 h22, by rw [hs]; exact g2, g3⟩
/-- only the class's line 0, its thoughts and scratch are others -/
def R_kC (σ τ : sv_S) : Prop := ∀ r i, r ≠ 20 → r ≠ 17 → ¬ (r = 2 ∧ i < 10) → ¬ (r = 2 ∧ 20 ≤ i ∧ i < 30) → ¬ ((r = 1 ∨ r = 4 ∨ r = 5) ∧ (i = 0 ∨ i = 2)) → τ r i = σ r i
theorem R_kC.rfl' (σ : sv_S) : R_kC σ σ := fun _ _ _ _ _ _ _ => rfl
theorem R_kC.tr {σ τ υ : sv_S} (h : R_kC σ τ) (g : R_kC τ υ) : R_kC σ υ := fun r i a b c d e => (g r i a b c d e).trans (h r i a b c d e)
theorem R_X.C {σ τ : sv_S} (h : R_X σ) (k : R_kC σ τ) : R_X τ := by
  have e : ∀ r, r ≠ 20 → r ≠ 17 → r ≠ 2 → r ≠ 1 → r ≠ 4 → r ≠ 5 → τ r = σ r := fun r a b c d e f => funext fun i => k r i a b (fun q => c q.1) (fun q => c q.1) (fun q => by rcases q.1 with q | q | q; exact d q; exact e q; exact f q)
  have e0 := e 0 (by decide) (by decide) (by decide) (by decide) (by decide) (by decide)
  have e8 := e 8 (by decide) (by decide) (by decide) (by decide) (by decide) (by decide)
  have e9 := e 9 (by decide) (by decide) (by decide) (by decide) (by decide) (by decide)
  have e12 := e 12 (by decide) (by decide) (by decide) (by decide) (by decide) (by decide)
  have e13 := e 13 (by decide) (by decide) (by decide) (by decide) (by decide) (by decide)
  have e14 := e 14 (by decide) (by decide) (by decide) (by decide) (by decide) (by decide)
  have e15 := e 15 (by decide) (by decide) (by decide) (by decide) (by decide) (by decide)
  have e16 := e 16 (by decide) (by decide) (by decide) (by decide) (by decide) (by decide)
  have e18 := e 18 (by decide) (by decide) (by decide) (by decide) (by decide) (by decide)
  have e19 := e 19 (by decide) (by decide) (by decide) (by decide) (by decide) (by decide)
  have e22 := e 22 (by decide) (by decide) (by decide) (by decide) (by decide) (by decide)
  have e30 := e 30 (by decide) (by decide) (by decide) (by decide) (by decide) (by decide)
  have e31 := e 31 (by decide) (by decide) (by decide) (by decide) (by decide) (by decide)
  obtain ⟨⟨hg0, hg1⟩, hp, hh, hs, hw⟩ := h
  have e2 : ∀ s, s < 5 → τ 2 (30 + s) = σ 2 (30 + s) := fun s hs => k 2 _ (by decide) (by decide) (by omega) (by omega) (by omega)
  refine ⟨⟨by rw [e30, e0]; exact hg0, ?_⟩, ?_, ?_, ?_, ?_⟩
  · rw [e0]
    rcases hg1 with h | ⟨h, hi⟩
    · exact Or.inl h
    · exact Or.inr ⟨h, hi.to (k 1 1 (by decide) (by decide) (by omega) (by omega) (by omega)) (fun i p q => k 2 i (by decide) (by decide) (by omega) (by omega) (by omega)) (k 4 1 (by decide) (by decide) (by omega) (by omega) (by omega)) (k 5 1 (by decide) (by decide) (by omega) (by omega) (by omega)) e18 e19 e22 (by rw [e31])⟩
  · unfold R_P at *; rw [e8, e9, e30, e31]; exact hp
  · unfold R_H at *; rw [e12, e13, e31]; exact hh
  · intro s hs5
    have g := hs s hs5
    rw [e14, e15, e12, e13, e31, e2 s hs5]
    exact g
  · unfold R_W at *; rw [e0, e16, e30, e31]; exact hw
/-- only the reference's s and scratch are others -/
def R_kM (σ τ : sv_S) : Prop := (∀ r i, ¬ (r = 31 ∧ (i = 0 ∨ i = 2 ∨ i = 12 ∨ i = 13 ∨ i = 14 ∨ i = 28 ∨ i = 29 ∨ i = 33)) → ¬ (r = 30 ∧ i = 0) → τ r i = σ r i) ∧ ∀ j, j ≠ 15 → τ 30 0 j = σ 30 0 j
theorem R_kM.rfl' (σ : sv_S) : R_kM σ σ := ⟨fun _ _ _ _ => rfl, fun _ _ => rfl⟩
theorem R_kM.tr {σ τ υ : sv_S} (h : R_kM σ τ) (g : R_kM τ υ) : R_kM σ υ := ⟨fun r i a b => (g.1 r i a b).trans (h.1 r i a b), fun j a => (g.2 j a).trans (h.2 j a)⟩
theorem R_X.M {σ τ : sv_S} (h : R_X σ) (k : R_kM σ τ) : R_X τ := by
  have e : ∀ r, r ≠ 30 → r ≠ 31 → τ r = σ r := fun r a b => funext fun i => k.1 r i (fun q => b q.1) (fun q => a q.1)
  have e3 : ∀ i, i ≠ 0 → i ≠ 2 → i ≠ 12 → i ≠ 13 → i ≠ 14 → i ≠ 28 → i ≠ 29 → i ≠ 33 → τ 31 i = σ 31 i := fun i a b c d e f g h => k.1 31 i (by omega) (by omega)
  have e0 := e 0 (by decide) (by decide)
  obtain ⟨⟨hg0, hg1⟩, hp, hh, hs, hw⟩ := h
  refine ⟨⟨by rw [e0, k.2 3 (by decide)]; exact hg0, ?_⟩, ?_, ?_, ?_, ?_⟩
  · rw [e0]
    rcases hg1 with h | ⟨h, hi⟩
    · exact Or.inl h
    · exact Or.inr ⟨h, hi.to (by rw [e 1 (by decide) (by decide)]) (fun i _ _ => by rw [e 2 (by decide) (by decide)]) (by rw [e 4 (by decide) (by decide)]) (by rw [e 5 (by decide) (by decide)]) (e 18 (by decide) (by decide)) (e 19 (by decide) (by decide)) (e 22 (by decide) (by decide)) (e3 1 (by decide) (by decide) (by decide) (by decide) (by decide) (by decide) (by decide) (by decide))⟩
  · unfold R_P at *; rw [e 8 (by decide) (by decide), e 9 (by decide) (by decide), k.2 17 (by decide), e3 16 (by decide) (by decide) (by decide) (by decide) (by decide) (by decide) (by decide) (by decide)]; exact hp
  · unfold R_H at *; rw [e 12 (by decide) (by decide), e 13 (by decide) (by decide), e3 4 (by decide) (by decide) (by decide) (by decide) (by decide) (by decide) (by decide) (by decide), e3 5 (by decide) (by decide) (by decide) (by decide) (by decide) (by decide) (by decide) (by decide), e3 6 (by decide) (by decide) (by decide) (by decide) (by decide) (by decide) (by decide) (by decide)]; exact hh
  · unfold R_S at *
    rw [e 14 (by decide) (by decide), e 15 (by decide) (by decide), e 12 (by decide) (by decide), e 13 (by decide) (by decide), e 2 (by decide) (by decide), e3 7 (by decide) (by decide) (by decide) (by decide) (by decide) (by decide) (by decide) (by decide), e3 8 (by decide) (by decide) (by decide) (by decide) (by decide) (by decide) (by decide) (by decide), e3 9 (by decide) (by decide) (by decide) (by decide) (by decide) (by decide) (by decide) (by decide), e3 10 (by decide) (by decide) (by decide) (by decide) (by decide) (by decide) (by decide) (by decide), e3 11 (by decide) (by decide) (by decide) (by decide) (by decide) (by decide) (by decide) (by decide)]
    exact hs
  · unfold R_W at *; rw [e0, e 16 (by decide) (by decide), k.2 32 (by decide), e3 31 (by decide) (by decide) (by decide) (by decide) (by decide) (by decide) (by decide) (by decide)]; exact hw
/-! a place of a line -/
def be_u (d : be_D) (k j : Nat) (v : Int32) : be_D := fun k' j' => if k' = k ∧ j' = j then v else d k' j'
theorem be_u_s (d : be_D) (k j : Nat) (v : Int32) : be_u d k j v k j = v := by unfold be_u; rw [if_pos ⟨rfl, rfl⟩]
theorem be_u_o {d : be_D} {k j k' j' : Nat} {v : Int32} (h : ¬ (k' = k ∧ j' = j)) : be_u d k j v k' j' = d k' j' := by unfold be_u; rw [if_neg h]
theorem be_p_i {i j : Nat} (hi : i < 8) (hj : j < 8) (h : be_p i = be_p j) : i = j := by
  unfold be_p at h
  split at h <;> split at h <;> (try split at h) <;> (try split at h) <;> omega
theorem li_C.up {σ : sv_S} {a n nt : Nat} {b m z : Int32} {d : be_D} {T : Nat → tx_T} (h : li_C σ a n nt b m z d T) {k j : Nat} {v : Int32} (hj : j < 8) : li_C (sv_up σ 2 (10 * a + k) (be_p j) v) a n nt b m z (be_u d k j v) T := by
  obtain ⟨⟨g1, g2, g3, g4, g5⟩, g6, g7, g8⟩ := h
  refine ⟨⟨by rw [pz_ur (by decide)]; exact g1, by rw [pz_ur (by decide)]; exact g2, by rw [pz_ur (by decide)]; exact g3, by rw [pz_ur (by decide)]; exact g4, fun k' hk' j' hj' => ?_⟩, by rw [pz_ur (by decide)]; exact g6, fun t ht => ?_, fun q hq => by rw [pz_ur (by decide)]; exact g8 q hq⟩
  · by_cases e : k' = k ∧ j' = j
    · obtain ⟨rfl, rfl⟩ := e
      rw [pz_us, be_u_s]
    · rw [be_u_o e]
      by_cases ek : k' = k
      · subst ek
        rw [pz_uk (fun q => e ⟨rfl, be_p_i hj' hj q⟩)]
        exact g5 k' hk' j' hj'
      · rw [pz_ui (by omega)]
        exact g5 k' hk' j' hj'
  · obtain ⟨id, y1, y2⟩ := g7 t ht
    refine ⟨id, by rw [pz_ur (by decide)]; exact y1, ?_⟩
    unfold li_tC at *
    rw [sv_ct_up (by decide), pz_ur (by decide), pz_ur (by decide), pz_ur (by decide), pz_up (by omega)]
    exact y2
theorem li_V.up {σ : sv_S} {n nt : Nat} {b m z : Int32} {d : be_D} {T : Nat → tx_T} (h : li_V (σ 31 0) n nt b m z d T) {k j : Nat} {v : Int32} (hk : k < 10) (hj : j < 8) (hn : n ≤ 10) : li_V (sv_up σ 31 0 (6 + 8 * k + j) v 31 0) n nt b m z (be_u d k j v) T := by
  obtain ⟨⟨h1, h2, h3, h4, h5⟩, h6, h7⟩ := h
  refine ⟨⟨by rw [pz_uk (by omega)]; exact h1, by rw [pz_uk (by omega)]; exact h2, by rw [pz_uk (by omega)]; exact h3, by rw [pz_uk (by omega)]; exact h4, fun k' hk' j' hj' => ?_⟩, by rw [pz_uk (by omega)]; exact h6, fun t ht => ?_⟩
  · by_cases e : k' = k ∧ j' = j
    · obtain ⟨rfl, rfl⟩ := e
      rw [pz_us, be_u_s]
    · rw [be_u_o e, pz_uk (by omega)]
      exact h5 k' hk' j' hj'
  · obtain ⟨g1, g2, g3, g4⟩ := h7 t ht
    exact ⟨by rw [pz_uk (by omega)]; exact g1, by rw [pz_uk (by omega)]; exact g2, by rw [pz_uk (by omega)]; exact g3, fun j hj => ⟨by rw [pz_uk (by omega)]; exact (g4 j hj).1, by rw [pz_uk (by omega)]; exact (g4 j hj).2⟩⟩
/-! guards -/
theorem pz_nat {a : Int32} (h : 0 ≤ a.toInt) : ∃ k : Nat, a = nI k ∧ (k : Int) = a.toInt ∧ k < 2147483648 := by
  have h1 := Int32.toInt_lt a
  refine ⟨a.toInt.toNat, ?_, by omega, by omega⟩
  rw [pz_eq, pz_ti (by omega)]
  omega
theorem on_within (a l h : Int32) (σ : sv_S) : f_On_isWithin a l h σ = some (if l.toInt ≤ a.toInt ∧ a.toInt ≤ h.toInt then 1 else 0, σ) := by
  unfold f_On_isWithin
  by_cases h1 : a < l
  · rw [sv_if_t h1, pz_01, if_neg (fun q => by rw [pz_lt] at h1; omega)]
  · rw [sv_if_f h1]
    by_cases h2 : h < a
    · rw [sv_if_t h2, pz_01, if_neg (fun q => by rw [pz_lt] at h2; omega)]
    · rw [sv_if_f h2, pz_11, if_pos (by rw [pz_lt] at h1 h2; omega)]
theorem mo_isIn (a : Int32) (l h : Int64) (σ : sv_S) : f_Mo_isIn a.toInt64 l h σ = some (if l.toInt ≤ a.toInt ∧ a.toInt ≤ h.toInt then 1 else 0, σ) := by
  unfold f_Mo_isIn
  have e : a.toInt64.toInt = a.toInt := Int32.toInt_toInt64 a
  have c1 : lg_cmp a.toInt64 l < 0 ↔ a.toInt < l.toInt := by
    unfold lg_cmp
    by_cases g1 : a.toInt64 > l
    · rw [if_pos g1]
      have : l.toInt < a.toInt64.toInt := Int64.lt_iff_toInt_lt.mp g1
      exact ⟨fun q => absurd q (by decide), fun q => by omega⟩
    · rw [if_neg g1]
      have g1 : ¬ l.toInt < a.toInt64.toInt := fun q => g1 (Int64.lt_iff_toInt_lt.mpr q)
      by_cases g2 : a.toInt64 = l
      · rw [if_pos g2]
        rw [← g2]
        exact ⟨fun q => absurd q (by decide), fun q => by omega⟩
      · rw [if_neg g2]
        have g2 : a.toInt64.toInt ≠ l.toInt := fun q => g2 (Int64.toInt_inj.mp q)
        exact ⟨fun _ => by omega, fun _ => by decide⟩
  have c2 : 0 < lg_cmp a.toInt64 h ↔ h.toInt < a.toInt := by
    unfold lg_cmp
    by_cases g1 : a.toInt64 > h
    · rw [if_pos g1]
      have : h.toInt < a.toInt64.toInt := Int64.lt_iff_toInt_lt.mp g1
      exact ⟨fun q => by omega, fun q => by decide⟩
    · rw [if_neg g1]
      have g1 : ¬ h.toInt < a.toInt64.toInt := fun q => g1 (Int64.lt_iff_toInt_lt.mpr q)
      by_cases g2 : a.toInt64 = h
      · rw [if_pos g2]
        exact ⟨fun q => absurd q (by decide), fun q => by omega⟩
      · rw [if_neg g2]
        exact ⟨fun q => absurd q (by decide), fun q => by omega⟩
  by_cases h1 : a.toInt < l.toInt
  · rw [sv_if_t (c1.mpr h1), pz_01, if_neg (by omega)]
  · rw [sv_if_f (fun q => h1 (c1.mp q))]
    by_cases h2 : h.toInt < a.toInt
    · rw [sv_if_t (c2.mpr h2), pz_01, if_neg (by omega)]
    · rw [sv_if_f (fun q => h2 (c2.mp q)), pz_11, if_pos (by omega)]
theorem on_kind (a : Int32) (σ : sv_S) : f_On_isKind a σ = some (if 0 ≤ a.toInt ∧ a.toInt ≤ 5 then 1 else 0, σ) := by
  unfold f_On_isKind
  by_cases h1 : a < 0
  · rw [sv_if_t h1, pz_01, if_neg (fun q => by rw [pz_lt] at h1; have e : (0 : Int32).toInt = 0 := rfl; omega)]
  · rw [sv_if_f h1]
    have e : (0 : Int32).toInt = 0 := rfl
    have e6 : (nI 6).toInt = 6 := rfl
    rw [pz_lt] at h1
    by_cases h2 : nI 6 ≤ a
    · rw [sv_if_t h2, pz_01, if_neg (fun q => by rw [pz_le] at h2; omega)]
    · rw [sv_if_f h2, pz_11, if_pos (by rw [pz_le] at h2; omega)]
theorem on_dr {σ : sv_S} {n : Nat} (h : σ 1 0 4 = nI n) (hn : n ≤ 10) (a : Int32) : f_On_isDrummer a σ = some (if 0 ≤ a.toInt ∧ a.toInt ≤ (n : Int) - 1 then 1 else 0, σ) := by
  unfold f_On_isDrummer
  have e : (0 : Int32).toInt = 0 := rfl
  by_cases h1 : a < 0
  · rw [sv_if_t h1, pz_01, if_neg (fun q => by rw [pz_lt] at h1; omega)]
  · rw [sv_if_f h1, h]
    rw [pz_lt] at h1
    have en : (nI n).toInt = n := pz_ti (by omega)
    by_cases h2 : nI n ≤ a
    · rw [sv_if_t h2, pz_01, if_neg (fun q => by rw [pz_le] at h2; omega)]
    · rw [sv_if_f h2, pz_11, if_pos (by rw [pz_le] at h2; omega)]
theorem pz_m1 {n : Nat} (hn : n ≤ 1000) : (nI n - (1 : Int32)).toInt = (n : Int) - 1 := pk_sub_toInt (a := n) (b := 1) (by omega) (by omega)
theorem pz_bool {β : Type} {c : Prop} [Decidable c] {x : Option β} : sv_g ((if c then (1 : Int32) else 0) = 0 ∨ (if c then (1 : Int32) else 0) = 1) x = x := by
  by_cases h : c
  · rw [if_pos h]; exact pz_11
  · rw [if_neg h]; exact pz_01
theorem mo_dr {σ : sv_S} {n : Nat} (h : σ 31 0 0 = nI n) (hn : n ≤ 10) (a : Int32) : f_Mo_isDrummer a σ = some (if 0 ≤ a.toInt ∧ a.toInt ≤ (n : Int) - 1 then 1 else 0, σ) := by
  unfold f_Mo_isDrummer
  rw [pz_i0 _ (by omega), show σ 31 0 ((0 : Int32).toNatClampNeg) = nI n from h, mo_isIn, pz_b, Int32.toInt_toInt64, pz_m1 (by omega)]
  rw [pz_bool]
  rfl
theorem on_sheet (a : Int32) (σ : sv_S) : f_On_isSheet a σ = some (if 0 ≤ a.toInt ∧ a.toInt ≤ 3 then 1 else 0, σ) := by
  unfold f_On_isSheet
  have e : (0 : Int32).toInt = 0 := rfl
  have e4 : (4 : Int32).toInt = 4 := rfl
  by_cases h1 : a < 0
  · rw [sv_if_t h1, pz_01, if_neg (fun q => by rw [pz_lt] at h1; omega)]
  · rw [sv_if_f h1]
    rw [pz_lt] at h1
    by_cases h2 : 4 ≤ a
    · rw [sv_if_t h2, pz_01, if_neg (fun q => by rw [pz_le] at h2; omega)]
    · rw [sv_if_f h2, pz_11, if_pos (by rw [pz_le] at h2; omega)]
theorem on_slot (a : Int32) (σ : sv_S) : f_On_isSlot a σ = some (if 0 ≤ a.toInt ∧ a.toInt ≤ 4 then 1 else 0, σ) := by
  unfold f_On_isSlot
  have e : (0 : Int32).toInt = 0 := rfl
  have e4 : (5 : Int32).toInt = 5 := rfl
  by_cases h1 : a < 0
  · rw [sv_if_t h1, pz_01, if_neg (fun q => by rw [pz_lt] at h1; omega)]
  · rw [sv_if_f h1]
    rw [pz_lt] at h1
    by_cases h2 : 5 ≤ a
    · rw [sv_if_t h2, pz_01, if_neg (fun q => by rw [pz_le] at h2; omega)]
    · rw [sv_if_f h2, pz_11, if_pos (by rw [pz_le] at h2; omega)]
theorem mo_sheet' (a : Int32) (σ : sv_S) : f_Mo_isSheet a σ = some (if 0 ≤ a.toInt ∧ a.toInt ≤ 3 then 1 else 0, σ) := by
  unfold f_Mo_isSheet
  rw [mo_isIn, pz_b, pz_bool]
  rfl
theorem mo_slot (a : Int32) (σ : sv_S) : f_Mo_isSlot a σ = some (if 0 ≤ a.toInt ∧ a.toInt ≤ 4 then 1 else 0, σ) := by
  unfold f_Mo_isSlot
  rw [mo_isIn, pz_b, pz_bool]
  rfl
theorem pz_if1 {β : Type} {c : Prop} [Decidable c] {x y : β} : sv_if ((if c then (1 : Int32) else 0) = 0) x y = if c then y else x := by
  by_cases h : c
  · rw [if_pos h, if_pos h, sv_if_f (by decide)]
  · rw [if_neg h, if_neg h, sv_if_t rfl]
theorem on_w (a : Int32) {l h : Int32} (L H : Int) (hl : l.toInt = L) (hh : h.toInt = H) (σ : sv_S) : f_On_isWithin a l h σ = some (if L ≤ a.toInt ∧ a.toInt ≤ H then 1 else 0, σ) := by rw [on_within, hl, hh]
theorem mo_w (a : Int32) {l h : Int64} (L H : Int) (hl : l.toInt = L) (hh : h.toInt = H) (σ : sv_S) : f_Mo_isIn a.toInt64 l h σ = some (if L ≤ a.toInt ∧ a.toInt ≤ H then 1 else 0, σ) := by rw [mo_isIn, hl, hh]
theorem on_w1_9 (a : Int32) (σ : sv_S) : f_On_isWithin a (1 : Int32) (9 : Int32) σ = some (if 1 ≤ a.toInt ∧ a.toInt ≤ 9 then 1 else 0, σ) := on_w a 1 9 rfl rfl σ
theorem mo_w1_9 (a : Int32) (σ : sv_S) : f_Mo_isIn a.toInt64 (1 : Int64) (9 : Int64) σ = some (if 1 ≤ a.toInt ∧ a.toInt ≤ 9 then 1 else 0, σ) := mo_w a 1 9 rfl rfl σ
theorem on_w0_5 (a : Int32) (σ : sv_S) : f_On_isWithin a (0 : Int32) (5 : Int32) σ = some (if 0 ≤ a.toInt ∧ a.toInt ≤ 5 then 1 else 0, σ) := on_w a (0) 5 rfl rfl σ
theorem mo_w0_5 (a : Int32) (σ : sv_S) : f_Mo_isIn a.toInt64 (0 : Int64) (5 : Int64) σ = some (if 0 ≤ a.toInt ∧ a.toInt ≤ 5 then 1 else 0, σ) := mo_w a (0) 5 rfl rfl σ
theorem on_w0_9 (a : Int32) (σ : sv_S) : f_On_isWithin a (0 : Int32) (9 : Int32) σ = some (if 0 ≤ a.toInt ∧ a.toInt ≤ 9 then 1 else 0, σ) := on_w a (0) 9 rfl rfl σ
theorem mo_w0_9 (a : Int32) (σ : sv_S) : f_Mo_isIn a.toInt64 (0 : Int64) (9 : Int64) σ = some (if 0 ≤ a.toInt ∧ a.toInt ≤ 9 then 1 else 0, σ) := mo_w a (0) 9 rfl rfl σ
theorem on_w1_3 (a : Int32) (σ : sv_S) : f_On_isWithin a (1 : Int32) (3 : Int32) σ = some (if 1 ≤ a.toInt ∧ a.toInt ≤ 3 then 1 else 0, σ) := on_w a (1) 3 rfl rfl σ
theorem mo_w1_3 (a : Int32) (σ : sv_S) : f_Mo_isIn a.toInt64 (1 : Int64) (3 : Int64) σ = some (if 1 ≤ a.toInt ∧ a.toInt ≤ 3 then 1 else 0, σ) := mo_w a (1) 3 rfl rfl σ
theorem on_w0_100 (a : Int32) (σ : sv_S) : f_On_isWithin a (0 : Int32) (100 : Int32) σ = some (if 0 ≤ a.toInt ∧ a.toInt ≤ 100 then 1 else 0, σ) := on_w a (0) 100 rfl rfl σ
theorem mo_w0_100 (a : Int32) (σ : sv_S) : f_Mo_isIn a.toInt64 (0 : Int64) (100 : Int64) σ = some (if 0 ≤ a.toInt ∧ a.toInt ≤ 100 then 1 else 0, σ) := mo_w a (0) 100 rfl rfl σ
theorem on_w1_10 (a : Int32) (σ : sv_S) : f_On_isWithin a (1 : Int32) (10 : Int32) σ = some (if 1 ≤ a.toInt ∧ a.toInt ≤ 10 then 1 else 0, σ) := on_w a (1) 10 rfl rfl σ
theorem mo_w1_10 (a : Int32) (σ : sv_S) : f_Mo_isIn a.toInt64 (1 : Int64) (10 : Int64) σ = some (if 1 ≤ a.toInt ∧ a.toInt ≤ 10 then 1 else 0, σ) := mo_w a (1) 10 rfl rfl σ
theorem on_w1_100 (a : Int32) (σ : sv_S) : f_On_isWithin a (1 : Int32) (100 : Int32) σ = some (if 1 ≤ a.toInt ∧ a.toInt ≤ 100 then 1 else 0, σ) := on_w a (1) 100 rfl rfl σ
theorem mo_w1_100 (a : Int32) (σ : sv_S) : f_Mo_isIn a.toInt64 (1 : Int64) (100 : Int64) σ = some (if 1 ≤ a.toInt ∧ a.toInt ≤ 100 then 1 else 0, σ) := mo_w a (1) 100 rfl rfl σ
theorem on_w0_2 (a : Int32) (σ : sv_S) : f_On_isWithin a (0 : Int32) (2 : Int32) σ = some (if 0 ≤ a.toInt ∧ a.toInt ≤ 2 then 1 else 0, σ) := on_w a (0) 2 rfl rfl σ
theorem mo_w0_2 (a : Int32) (σ : sv_S) : f_Mo_isIn a.toInt64 (0 : Int64) (2 : Int64) σ = some (if 0 ≤ a.toInt ∧ a.toInt ≤ 2 then 1 else 0, σ) := mo_w a (0) 2 rfl rfl σ
theorem on_w1_60 (a : Int32) (σ : sv_S) : f_On_isWithin a (1 : Int32) (60 : Int32) σ = some (if 1 ≤ a.toInt ∧ a.toInt ≤ 60 then 1 else 0, σ) := on_w a (1) 60 rfl rfl σ
theorem mo_w1_60 (a : Int32) (σ : sv_S) : f_Mo_isIn a.toInt64 (1 : Int64) (60 : Int64) σ = some (if 1 ≤ a.toInt ∧ a.toInt ≤ 60 then 1 else 0, σ) := mo_w a (1) 60 rfl rfl σ
theorem on_w1_40 (a : Int32) (σ : sv_S) : f_On_isWithin a (1 : Int32) (40 : Int32) σ = some (if 1 ≤ a.toInt ∧ a.toInt ≤ 40 then 1 else 0, σ) := on_w a (1) 40 rfl rfl σ
theorem mo_w1_40 (a : Int32) (σ : sv_S) : f_Mo_isIn a.toInt64 (1 : Int64) (40 : Int64) σ = some (if 1 ≤ a.toInt ∧ a.toInt ≤ 40 then 1 else 0, σ) := mo_w a (1) 40 rfl rfl σ
theorem on_w0_30 (a : Int32) (σ : sv_S) : f_On_isWithin a (0 : Int32) (30 : Int32) σ = some (if 0 ≤ a.toInt ∧ a.toInt ≤ 30 then 1 else 0, σ) := on_w a (0) 30 rfl rfl σ
theorem mo_w0_30 (a : Int32) (σ : sv_S) : f_Mo_isIn a.toInt64 (0 : Int64) (30 : Int64) σ = some (if 0 ≤ a.toInt ∧ a.toInt ≤ 30 then 1 else 0, σ) := mo_w a (0) 30 rfl rfl σ
theorem on_w0_1 (a : Int32) (σ : sv_S) : f_On_isWithin a (0 : Int32) (1 : Int32) σ = some (if 0 ≤ a.toInt ∧ a.toInt ≤ 1 then 1 else 0, σ) := on_w a (0) 1 rfl rfl σ
theorem mo_w0_1 (a : Int32) (σ : sv_S) : f_Mo_isIn a.toInt64 (0 : Int64) (1 : Int64) σ = some (if 0 ≤ a.toInt ∧ a.toInt ≤ 1 then 1 else 0, σ) := mo_w a (0) 1 rfl rfl σ
theorem on_wm1_1 (a : Int32) (σ : sv_S) : f_On_isWithin a (-1 : Int32) (1 : Int32) σ = some (if -1 ≤ a.toInt ∧ a.toInt ≤ 1 then 1 else 0, σ) := on_w a (-1) 1 rfl rfl σ
theorem mo_wm1_1 (a : Int32) (σ : sv_S) : f_Mo_isIn a.toInt64 (-1 : Int64) (1 : Int64) σ = some (if -1 ≤ a.toInt ∧ a.toInt ≤ 1 then 1 else 0, σ) := mo_w a (-1) 1 rfl rfl σ
theorem on_w1_30 (a : Int32) (σ : sv_S) : f_On_isWithin a (1 : Int32) (30 : Int32) σ = some (if 1 ≤ a.toInt ∧ a.toInt ≤ 30 then 1 else 0, σ) := on_w a (1) 30 rfl rfl σ
theorem mo_w1_30 (a : Int32) (σ : sv_S) : f_Mo_isIn a.toInt64 (1 : Int64) (30 : Int64) σ = some (if 1 ≤ a.toInt ∧ a.toInt ≤ 30 then 1 else 0, σ) := mo_w a (1) 30 rfl rfl σ
theorem on_wm99999_99999 (a : Int32) (σ : sv_S) : f_On_isWithin a (-99999 : Int32) (99999 : Int32) σ = some (if -99999 ≤ a.toInt ∧ a.toInt ≤ 99999 then 1 else 0, σ) := on_w a (-99999) 99999 rfl rfl σ
theorem mo_wm99999_99999 (a : Int32) (σ : sv_S) : f_Mo_isIn a.toInt64 (-99999 : Int64) (99999 : Int64) σ = some (if -99999 ≤ a.toInt ∧ a.toInt ≤ 99999 then 1 else 0, σ) := mo_w a (-99999) 99999 rfl rfl σ
theorem on_w0_3 (a : Int32) (σ : sv_S) : f_On_isWithin a (0 : Int32) (3 : Int32) σ = some (if 0 ≤ a.toInt ∧ a.toInt ≤ 3 then 1 else 0, σ) := on_w a (0) 3 rfl rfl σ
theorem mo_w0_3 (a : Int32) (σ : sv_S) : f_Mo_isIn a.toInt64 (0 : Int64) (3 : Int64) σ = some (if 0 ≤ a.toInt ∧ a.toInt ≤ 3 then 1 else 0, σ) := mo_w a (0) 3 rfl rfl σ
