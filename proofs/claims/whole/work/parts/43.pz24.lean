/-! ===== pure: tell, trim, feed, slots ===== -/
theorem R_WP.A {σ τ : sv_S} (hP : R_P τ) (hW : R_W τ) (h : R_A σ) (e : ∀ r i, r ≠ 8 → r ≠ 9 → r ≠ 10 → ¬ (r = 0 ∧ i = 0) → r ≠ 16 → ¬ (r = 30 ∧ i = 0) → ¬ (r = 31 ∧ (i = 16 ∨ i = 31)) → τ r i = σ r i) (e0 : τ 0 0 3 = σ 0 0 3) (e30 : τ 30 0 3 = σ 30 0 3) : R_A τ := by
  have f : ∀ r, r ≠ 8 → r ≠ 9 → r ≠ 10 → r ≠ 0 → r ≠ 16 → r ≠ 30 → r ≠ 31 → τ r = σ r := fun r a b c d e' f g => funext fun i => e r i a b c (fun q => d q.1) e' (fun q => f q.1) (fun q => g q.1)
  have g : ∀ i, i ≠ 16 → i ≠ 31 → τ 31 i = σ 31 i := fun i a b => e 31 i (by omega) (by omega) (by omega) (by omega) (by omega) (by omega) (by omega)
  obtain ⟨a1, a2⟩ := R_all4 h (τ := τ) (fun r hr h0 => f r (by omega) (by omega) (by omega) h0 (by omega) (by omega) (by omega)) (fun i _ => by rw [f 2 (by omega) (by omega) (by omega) (by omega) (by omega) (by omega) (by omega)]) e0 e30 (g 0 (by omega) (by omega)) (g 1 (by omega) (by omega))
  obtain ⟨-, -, -, hh, hs, -⟩ := h
  refine ⟨a1, a2, hP, ?_, ?_, hW⟩
  · unfold R_H at *; rw [f 12 (by omega) (by omega) (by omega) (by omega) (by omega) (by omega) (by omega), f 13 (by omega) (by omega) (by omega) (by omega) (by omega) (by omega) (by omega), g 4 (by omega) (by omega), g 5 (by omega) (by omega), g 6 (by omega) (by omega)]; exact hh
  · unfold R_S at *; rw [f 14 (by omega) (by omega) (by omega) (by omega) (by omega) (by omega) (by omega), f 15 (by omega) (by omega) (by omega) (by omega) (by omega) (by omega) (by omega), f 12 (by omega) (by omega) (by omega) (by omega) (by omega) (by omega) (by omega), f 13 (by omega) (by omega) (by omega) (by omega) (by omega) (by omega) (by omega), f 2 (by omega) (by omega) (by omega) (by omega) (by omega) (by omega) (by omega), g 7 (by omega) (by omega), g 8 (by omega) (by omega), g 9 (by omega) (by omega), g 10 (by omega) (by omega), g 11 (by omega) (by omega)]; exact hs
theorem R_tell (x : Int32) : R_m (f_On_tell x) (f_Mo_tell x) := by
  intro σ h
  obtain ⟨w, hw, w1, w2, w3⟩ := h.2.2.2.2.2
  have hp := h.2.2.1
  by_cases e : w = 60
  · subst e
    exact R_o (v := -1000000003) (σ1 := σ) (σ2 := σ) (by unfold f_On_tell; rw [w1, sv_if_f (by decide)]) (by unfold f_Mo_tell; rw [w2, sv_if_t (by decide)]) h
  · generalize hτ : sv_up (sv_up σ 16 0 w x) 0 0 11 (nI (w + 1)) = τ
    generalize hυ : sv_up (sv_up τ 31 31 w x) 30 0 32 (nI (w + 1)) = υ
    have t0 : τ 0 0 11 = nI (w + 1) := by rw [← hτ, pz_us]
    have tw : τ 30 0 32 = nI w := by rw [← hτ, pz_ur (by decide), pz_ur (by decide)]; exact w2
    have u1 : υ 30 0 32 = nI (w + 1) := by rw [← hυ, pz_us]
    have o : ∀ r i, r ≠ 16 → ¬ (r = 0 ∧ i = 0) → ¬ (r = 30 ∧ i = 0) → ¬ (r = 31 ∧ i = 31) → υ r i = σ r i := fun r i a b c d => by rw [← hυ, pz_up c, pz_up d, ← hτ, pz_up b, pz_up (fun q => a q.1)]
    refine R_o (v := nI (w + 1)) (σ1 := τ) (σ2 := υ) ?_ ?_ (R_WP.A (σ := σ) ?_ ⟨w + 1, by omega, ?_, u1, fun i hi => ?_⟩ h (fun r i a b c d e f g => o r i e d f (fun q => g ⟨q.1, Or.inr q.2⟩)) ?_ ?_)
    · unfold f_On_tell
      rw [w1, sv_if_t (show nI w < (60 : Int32) from (by rw [pz_lt, pz_ti (by omega)]; have : (60 : Int32).toInt = 60 := rfl; omega)), pz_in (by omega) (by omega), pz_cl (by omega)]
      dsimp only
      rw [pz_ur (r := 16) (r' := 0) (by decide), w1, nI_1, hτ, t0]
    · unfold f_Mo_tell
      rw [tw, sv_if_f (fun q => by rw [pz_eq, pz_ti (by omega)] at q; have : (60 : Int32).toInt = 60 := rfl; omega), pz_in (by omega) (by omega), pz_cl (by omega)]
      dsimp only
      rw [pz_ur (r := 31) (r' := 30) (by decide), tw, nI_1, hυ, u1]
    · unfold R_P at *
      rw [o 8 0 (by omega) (by omega) (by omega) (by omega), o 9 0 (by omega) (by omega) (by omega) (by omega), o 31 16 (by omega) (by omega) (by omega) (by omega), ← hυ, pz_uk (by decide), pz_ur (by decide), ← hτ, pz_ur (by decide), pz_ur (by decide)]
      exact hp
    · rw [← hυ, pz_ur (by decide), pz_ur (by decide)]; exact t0
    · rw [← hυ, pz_ur (by decide), pz_ur (r' := 16) (by decide), pz_ur (r' := 16) (by decide), ← hτ, pz_ur (r' := 16) (by decide)]
      by_cases e2 : i = w
      · subst e2; rw [pz_us, pz_us]
      · rw [pz_uk e2, pz_uk e2, pz_ur (by decide), pz_ur (by decide)]; exact w3 i (by omega)
    · rw [← hυ, pz_ur (by decide), pz_ur (by decide), ← hτ, pz_uk (by decide), pz_ur (by decide)]
    · rw [← hυ, pz_uk (by decide), pz_ur (by decide), ← hτ, pz_ur (by decide), pz_ur (by decide)]
theorem R_trim (x : Int32) : R_m (f_On_trim x) (f_Mo_trim x) := by
  intro σ h
  obtain ⟨len, hl, p1, p2, p3⟩ := h.2.2.1
  have hw := h.2.2.2.2.2
  have el : (nI len).toInt = len := pz_ti (by omega)
  by_cases hg : 0 ≤ x.toInt ∧ x.toInt ≤ (len : Int)
  · obtain ⟨k, rfl, hk, hk2⟩ := pz_nat hg.1
    generalize hυ : sv_up (sv_up σ 8 0 1 (nI k)) 30 0 17 (nI k) = υ
    have o : ∀ r i, ¬ (r = 8 ∧ i = 0) → ¬ (r = 30 ∧ i = 0) → υ r i = σ r i := fun r i a b => by rw [← hυ, pz_up b, pz_up a]
    refine R_o (v := nI k) (σ1 := sv_up σ 8 0 1 (nI k)) (σ2 := υ) ?_ ?_ (R_WP.A (σ := σ) ⟨k, by omega, ?_, ?_, fun i hi => ?_⟩ ?_ h (fun r i a b c d e f g => o r i (fun q => a q.1) f) ?_ ?_)
    · unfold f_On_trim
      rw [p1, on_w (nI k) 0 len rfl el, pz_b, pz_if1, if_pos hg]
    · unfold f_Mo_trim
      rw [pz_ur (by decide), p2, mo_w (nI k) 0 len rfl (by rw [Int32.toInt_toInt64]; exact el), pz_b, pz_if1, if_pos hg]
      dsimp only
      rw [hυ]
    · rw [← hυ, pz_ur (by decide), pz_us]
    · rw [← hυ, pz_us]
    · rw [o 31 16 (by omega) (by omega), o 9 0 (by omega) (by omega)]; exact p3 i (by omega)
    · unfold R_W at *
      rw [o 0 0 (by omega) (by omega), o 16 0 (by omega) (by omega), o 31 31 (by omega) (by omega), ← hυ, pz_uk (by decide), pz_ur (by decide)]
      exact hw
    · rw [o 0 0 (by omega) (by omega)]
    · rw [← hυ, pz_uk (by decide), pz_ur (by decide)]
  · exact R_o (σ1 := σ) (σ2 := σ) (by unfold f_On_trim; rw [p1, on_w x 0 len rfl el, pz_b, pz_if1, if_neg hg]) (by unfold f_Mo_trim; rw [p2, mo_w x 0 len rfl (by rw [Int32.toInt_toInt64]; exact el), pz_b, pz_if1, if_neg hg]) h
/-! feed -/
theorem b_8 (v : Int32) {i : Nat} (hi : i < 8) : bt v.toInt8.toInt32 i = bt v i := by
  show ((v.toBitVec.signExtend 8).signExtend 32).getLsbD i = v.toBitVec.getLsbD i
  rw [BitVec.getLsbD_signExtend, if_pos hi, BitVec.getLsbD_signExtend]
  simp [hi, show i < 32 by omega]
theorem b_255 : ∀ i, i < 32 → bt 255 i = decide (i < 8) := by decide +kernel
theorem pz_byte (v : Int32) : v.toInt8.toInt32.toInt8.toInt32 &&& 255 = v &&& 255 := by
  apply b_ext
  intro i hi
  rw [b_and, b_and, b_255 i hi]
  by_cases h : i < 8
  · rw [b_8 _ h, b_8 _ h]
  · simp [h]
theorem pz_255 (v : Int32) : ∃ c : Nat, c < 256 ∧ v &&& 255 = nI c := by
  have hb : (v &&& 255).toBitVec.toNat < 256 := by
    rw [Int32.toBitVec_and, BitVec.toNat_and]
    have : v.toBitVec.toNat &&& (255 : Int32).toBitVec.toNat ≤ (255 : Int32).toBitVec.toNat := Nat.and_le_right
    have e : (255 : Int32).toBitVec.toNat = 255 := rfl
    omega
  refine ⟨(v &&& 255).toBitVec.toNat, hb, ?_⟩
  rw [pz_eq, pz_ti (by omega)]
  show (v &&& 255).toBitVec.toInt = _
  rw [BitVec.toInt_eq_toNat_of_lt (by omega)]
def ta_fb (x sh : Int32) : Int32 := ((x >>> (sh &&& 31)).toInt8.toInt32).toInt8.toInt32
theorem ta_step {len f : Nat} {x sh : Int32} {σ : sv_S} (hl : len < 96) (h : σ 8 0 1 = nI len) (hs : ¬ sh < 0) : f_Ta_takeIn_3 (f + 1) x sh σ = f_Ta_takeIn_3 f x (sh + (-8 : Int32)) (sv_up (sv_up σ 9 0 len (ta_fb x sh)) 8 0 1 (nI (len + 1))) := by
  rw [f_Ta_takeIn_3, sv_if_f hs, h, sv_if_f (show ¬ (96 : Int32) ≤ nI len from nI_ge (b := 96) (by omega) (by omega)), pz_in (by omega) (by omega), pz_cl (by omega)]
  dsimp only
  rw [pz_ur (by decide), h, nI_1]
  rfl
theorem ta_in {len : Nat} {σ : sv_S} (x : Int32) (hl : len + 4 ≤ 96) (h : σ 8 0 1 = nI len) : ∃ σ', f_Ta_takeIn x σ = some σ' ∧ σ' 8 0 1 = nI (len + 4) ∧ σ' 9 0 len = ta_fb x 24 ∧ σ' 9 0 (len + 1) = ta_fb x 16 ∧ σ' 9 0 (len + 2) = ta_fb x 8 ∧ σ' 9 0 (len + 3) = ta_fb x 0 ∧ (∀ i, i < len → σ' 9 0 i = σ 9 0 i) ∧ ∀ r i, ¬ (r = 9 ∧ i = 0) → ¬ (r = 8 ∧ i = 0) → σ' r i = σ r i := by
  have e1 : f_Ta_takeIn x σ = f_Ta_takeIn_3 3999 x 16 (sv_up (sv_up σ 9 0 len (ta_fb x 24)) 8 0 1 (nI (len + 1))) := ta_step (f := 3999) (by omega) h (by decide)
  generalize hσ1 : sv_up (sv_up σ 9 0 len (ta_fb x 24)) 8 0 1 (nI (len + 1)) = σ1 at e1
  have k1 : σ1 8 0 1 = nI (len + 1) := by rw [← hσ1, pz_us]
  have e2 : f_Ta_takeIn_3 3999 x 16 σ1 = f_Ta_takeIn_3 3998 x 8 (sv_up (sv_up σ1 9 0 (len + 1) (ta_fb x 16)) 8 0 1 (nI (len + 2))) := ta_step (f := 3998) (by omega) k1 (by decide)
  generalize hσ2 : sv_up (sv_up σ1 9 0 (len + 1) (ta_fb x 16)) 8 0 1 (nI (len + 2)) = σ2 at e2
  have k2 : σ2 8 0 1 = nI (len + 2) := by rw [← hσ2, pz_us]
  have e3 : f_Ta_takeIn_3 3998 x 8 σ2 = f_Ta_takeIn_3 3997 x 0 (sv_up (sv_up σ2 9 0 (len + 2) (ta_fb x 8)) 8 0 1 (nI (len + 3))) := ta_step (f := 3997) (by omega) k2 (by decide)
  generalize hσ3 : sv_up (sv_up σ2 9 0 (len + 2) (ta_fb x 8)) 8 0 1 (nI (len + 3)) = σ3 at e3
  have k3 : σ3 8 0 1 = nI (len + 3) := by rw [← hσ3, pz_us]
  have e4 : f_Ta_takeIn_3 3997 x 0 σ3 = f_Ta_takeIn_3 3996 x (-8) (sv_up (sv_up σ3 9 0 (len + 3) (ta_fb x 0)) 8 0 1 (nI (len + 4))) := ta_step (f := 3996) (by omega) k3 (by decide)
  generalize hσ4 : sv_up (sv_up σ3 9 0 (len + 3) (ta_fb x 0)) 8 0 1 (nI (len + 4)) = σ4 at e4
  have e5 : f_Ta_takeIn_3 3996 x (-8) σ4 = some σ4 := by rw [f_Ta_takeIn_3, sv_if_t (by decide)]
  refine ⟨σ4, by rw [e1, e2, e3, e4, e5], by rw [← hσ4, pz_us], ?_, ?_, ?_, ?_, fun i hi => ?_, fun r i a b => by rw [← hσ4, pz_up b, pz_up a, ← hσ3, pz_up b, pz_up a, ← hσ2, pz_up b, pz_up a, ← hσ1, pz_up b, pz_up a]⟩
  · rw [← hσ4, pz_ur (by decide), pz_uk (by omega), ← hσ3, pz_ur (by decide), pz_uk (by omega), ← hσ2, pz_ur (by decide), pz_uk (by omega), ← hσ1, pz_ur (by decide), pz_us]
  · rw [← hσ4, pz_ur (by decide), pz_uk (by omega), ← hσ3, pz_ur (by decide), pz_uk (by omega), ← hσ2, pz_ur (by decide), pz_us]
  · rw [← hσ4, pz_ur (by decide), pz_uk (by omega), ← hσ3, pz_ur (by decide), pz_us]
  · rw [← hσ4, pz_ur (by decide), pz_us]
  · rw [← hσ4, pz_ur (by decide), pz_uk (by omega), ← hσ3, pz_ur (by decide), pz_uk (by omega), ← hσ2, pz_ur (by decide), pz_uk (by omega), ← hσ1, pz_ur (by decide), pz_uk (by omega)]
def mo_fy (x y w : Int32) (k : Nat) : Int32 := if k < 4 then x else if k < 8 then y else w
def mo_fb (x y w : Int32) (k : Nat) : Int32 := (mo_fy x y w k >>> (((24 : Int32) - ((8 : Int32) * (nI k - nI k / (4 : Int32) * (4 : Int32)))) &&& 31)) &&& (255 : Int32)
theorem mo_feed18 {x y w : Int32} {len : Nat} (hl : len + 12 ≤ 96) {σ0 : sv_S} : ∀ (r k fuel : Nat) (σ : sv_S), k + r = 12 → r < fuel → σ 30 0 17 = nI (len + k) → (∀ j, j < k → σ 31 16 (len + j) = mo_fb x y w j) → (∀ i, i < len → σ 31 16 i = σ0 31 16 i) → (∀ r i, ¬ (r = 31 ∧ i = 16) → ¬ (r = 30 ∧ i = 0) → σ r i = σ0 r i) → (∀ j, j ≠ 17 → σ 30 0 j = σ0 30 0 j) → ∃ σ', f_Mo_feed_18 fuel x y w (nI k) σ = some (nI (len + 12), σ') ∧ σ' 30 0 17 = nI (len + 12) ∧ (∀ j, j < 12 → σ' 31 16 (len + j) = mo_fb x y w j) ∧ (∀ i, i < len → σ' 31 16 i = σ0 31 16 i) ∧ (∀ r i, ¬ (r = 31 ∧ i = 16) → ¬ (r = 30 ∧ i = 0) → σ' r i = σ0 r i) ∧ (∀ j, j ≠ 17 → σ' 30 0 j = σ0 30 0 j) := by
  intro r
  induction r with
  | zero =>
    intro k fuel σ hk hf h0 h1 h2 h3 h4
    obtain ⟨f, rfl⟩ : ∃ f, fuel = f + 1 := ⟨fuel - 1, by omega⟩
    have hk : k = 12 := by omega
    subst hk
    exact ⟨σ, by rw [f_Mo_feed_18, sv_if_t (by decide), h0], h0, h1, h2, h3, h4⟩
  | succ r ih =>
    intro k fuel σ hk hf h0 h1 h2 h3 h4
    obtain ⟨f, rfl⟩ : ∃ f, fuel = f + 1 := ⟨fuel - 1, by omega⟩
    have st : f_Mo_feed_18 (f + 1) x y w (nI k) σ = f_Mo_feed_47 (f_Mo_feed_18 f) x y w (nI k) (mo_fy x y w k) σ := by
      rw [f_Mo_feed_18, sv_if_f (show ¬ (12 : Int32) ≤ nI k from nI_ge (b := 12) (by omega) (by omega))]
      unfold mo_fy
      by_cases c4 : k < 4
      · rw [sv_if_f (show ¬ (4 : Int32) ≤ nI k from nI_ge (b := 4) (by omega) (by omega)), if_pos c4]
      · rw [sv_if_t (show (4 : Int32) ≤ nI k from nI_le (a := 4) (by omega) (by omega)), if_neg c4]
        by_cases c8 : k < 8
        · rw [sv_if_f (show ¬ (8 : Int32) ≤ nI k from nI_ge (b := 8) (by omega) (by omega)), if_pos c8]
        · rw [sv_if_t (show (8 : Int32) ≤ nI k from nI_le (a := 8) (by omega) (by omega)), if_neg c8]
    obtain ⟨σ', y0, y1⟩ := ih (k + 1) f (sv_up (sv_up σ 31 16 (len + k) (mo_fb x y w k)) 30 0 17 (nI (len + (k + 1)))) (by omega) (by omega) (by rw [pz_us]) (fun j hj => by
      rw [pz_ur (by decide)]
      by_cases e : j = k
      · subst e; rw [pz_us]
      · rw [pz_uk (by omega)]; exact h1 j (by omega)) (fun i hi => by rw [pz_ur (by decide), pz_uk (by omega)]; exact h2 i hi) (fun r i a b => by rw [pz_up b, pz_up a]; exact h3 r i a b) (fun j hj => by rw [pz_uk hj, pz_ur (by decide)]; exact h4 j hj)
    refine ⟨σ', ?_, y1⟩
    rw [st]
    unfold f_Mo_feed_47
    rw [sv_g_t (by decide), h0, pz_in (by omega) (by omega), pz_cl (by omega)]
    dsimp only
    rw [pz_ur (by decide), h0, nI_1, nI_1]
    exact y0
theorem R_feed (x y w : Int32) : R_m (f_On_feed x y w) (f_Mo_feed x y w) := by
  intro σ h
  obtain ⟨len, hl, p1, p2, p3⟩ := h.2.2.1
  have hw := h.2.2.2.2.2
  have e12 : nI len + (12 : Int32) = nI (len + 12) := nI_add len 12
  by_cases e : len + 12 ≤ 96
  · have c : nI len + (12 : Int32) ≤ (96 : Int32) := by rw [e12]; exact nI_le (b := 96) e (by omega)
    obtain ⟨σ1, a0, a1, a2, a3, a4, a5, a6, a7⟩ := ta_in (σ := σ) x (by omega) p1
    obtain ⟨σ2, b0, b1, b2, b3, b4, b5, b6, b7⟩ := ta_in (σ := σ1) y (by omega) a1
    obtain ⟨σ3, c0, c1, c2, c3, c4, c5, c6, c7⟩ := ta_in (σ := σ2) w (by omega) b1
    have o : ∀ r i, ¬ (r = 9 ∧ i = 0) → ¬ (r = 8 ∧ i = 0) → σ3 r i = σ r i := fun r i q1 q2 => by rw [c7 r i q1 q2, b7 r i q1 q2, a7 r i q1 q2]
    have q17 : σ3 30 0 17 = nI len := by rw [o 30 0 (by omega) (by omega)]; exact p2
    obtain ⟨υ, d0, d1, d2, d3, d4, d5⟩ := mo_feed18 (x := x) (y := y) (w := w) e (σ0 := σ3) 12 0 sv_fu σ3 (by omega) (by unfold sv_fu; omega) (by rw [Nat.add_zero]; exact q17) (fun j hj => absurd hj (Nat.not_lt_zero j)) (fun _ _ => rfl) (fun _ _ _ _ => rfl) (fun _ _ => rfl)
    have u9 : υ 9 0 = σ3 9 0 := d4 9 0 (by omega) (by omega)
    have by' : ∀ j, j < 12 → σ3 9 0 (len + j) &&& 255 = mo_fb x y w j := by
      intro j hj
      have f1 : ∀ i, i < len + 4 → σ3 9 0 i = σ2 9 0 i ∧ σ2 9 0 i = σ1 9 0 i := fun i hi => ⟨c6 i (by omega), b6 i hi⟩
      have f2 : ∀ i, i < len + 8 → σ3 9 0 i = σ2 9 0 i := fun i hi => c6 i (by omega)
      have F : ∀ v s : Int32, ta_fb v s &&& 255 = (v >>> (s &&& 31)) &&& 255 := fun v s => pz_byte _
      match j, hj with
      | 0, _ => rw [(f1 (len + 0) (by omega)).1, (f1 (len + 0) (by omega)).2]; show σ1 9 0 len &&& 255 = _; rw [a2, F]; rfl
      | 1, _ => rw [(f1 (len + 1) (by omega)).1, (f1 (len + 1) (by omega)).2, a3, F]; rfl
      | 2, _ => rw [(f1 (len + 2) (by omega)).1, (f1 (len + 2) (by omega)).2, a4, F]; rfl
      | 3, _ => rw [(f1 (len + 3) (by omega)).1, (f1 (len + 3) (by omega)).2, a5, F]; rfl
      | 4, _ => rw [f2 (len + 4) (by omega), b2, F]; rfl
      | 5, _ => rw [f2 (len + 5) (by omega)]; show σ2 9 0 (len + 4 + 1) &&& 255 = _; rw [b3, F]; rfl
      | 6, _ => rw [f2 (len + 6) (by omega)]; show σ2 9 0 (len + 4 + 2) &&& 255 = _; rw [b4, F]; rfl
      | 7, _ => rw [f2 (len + 7) (by omega)]; show σ2 9 0 (len + 4 + 3) &&& 255 = _; rw [b5, F]; rfl
      | 8, _ => show σ3 9 0 (len + 4 + 4) &&& 255 = _; rw [c2, F]; rfl
      | 9, _ => show σ3 9 0 (len + 4 + 4 + 1) &&& 255 = _; rw [c3, F]; rfl
      | 10, _ => show σ3 9 0 (len + 4 + 4 + 2) &&& 255 = _; rw [c4, F]; rfl
      | 11, _ => show σ3 9 0 (len + 4 + 4 + 3) &&& 255 = _; rw [c5, F]; rfl
      | j + 12, hj => omega
    refine R_o (v := nI (len + 12)) (σ1 := σ3) (σ2 := υ) ?_ ?_ (R_WP.A (σ := σ) ⟨len + 12, e, ?_, d1, fun i hi => ?_⟩ ?_ h (fun r i q1 q2 q3 q4 q5 q6 q7 => by rw [d4 r i (fun q => q7 ⟨q.1, Or.inl q.2⟩) q6, o r i (fun q => q2 q.1) (fun q => q1 q.1)]) ?_ ?_)
    · unfold f_On_feed
      rw [p1, sv_if_t c, a0, pz_b0, b0, pz_b0, c0, pz_b0, c1]
    · unfold f_Mo_feed
      rw [q17, sv_if_t c]
      exact d0
    · rw [d4 8 0 (by omega) (by omega)]; exact c1
    · rw [u9]
      by_cases hi2 : i < len
      · obtain ⟨cc, g1, g2, g3⟩ := p3 i hi2
        exact ⟨cc, g1, by rw [d3 i hi2, o 31 16 (by omega) (by omega)]; exact g2, by rw [c6 i (by omega), b6 i (by omega), a6 i hi2]; exact g3⟩
      · obtain ⟨j, rfl⟩ : ∃ j, i = len + j := ⟨i - len, by omega⟩
        rw [d2 j (by omega), by' j (by omega)]
        obtain ⟨cc, g1, g2⟩ := pz_255 (mo_fy x y w j >>> (((24 : Int32) - ((8 : Int32) * (nI j - nI j / (4 : Int32) * (4 : Int32)))) &&& 31))
        exact ⟨cc, g1, g2, g2⟩
    · unfold R_W at *
      rw [d4 0 0 (by omega) (by omega), d4 16 0 (by omega) (by omega), d4 31 31 (by omega) (by omega), d5 32 (by decide), o 0 0 (by omega) (by omega), o 16 0 (by omega) (by omega), o 31 31 (by omega) (by omega), o 30 0 (by omega) (by omega)]
      exact hw
    · rw [d4 0 0 (by omega) (by omega), o 0 0 (by omega) (by omega)]
    · rw [d5 3 (by decide), o 30 0 (by omega) (by omega)]
  · have c : ¬ nI len + (12 : Int32) ≤ (96 : Int32) := by rw [e12]; exact nI_ge (a := 96) (by omega) (by omega)
    exact R_o (σ1 := σ) (σ2 := σ) (by unfold f_On_feed; rw [p1, sv_if_f c]) (by unfold f_Mo_feed; rw [p2, sv_if_f c]) h
/-! slots -/
theorem R_S.A {σ τ : sv_S} (hS : R_S τ) (h : R_A σ) (e : ∀ r i, r ≠ 14 → r ≠ 15 → ¬ (r = 2 ∧ 30 ≤ i) → ¬ ((r = 12 ∨ r = 13) ∧ 4 ≤ i) → ¬ (r = 31 ∧ 7 ≤ i ∧ i ≤ 11) → τ r i = σ r i) : R_A τ := by
  obtain ⟨a1, a2⟩ := R_all4 h (τ := τ) (fun r hr h0 => funext fun i => e r i (by omega) (by omega) (by omega) (by omega) (by omega)) (fun i _ => e 2 i (by omega) (by omega) (by omega) (by omega) (by omega)) (by rw [e 0 0 (by omega) (by omega) (by omega) (by omega) (by omega)]) (by rw [e 30 0 (by omega) (by omega) (by omega) (by omega) (by omega)]) (e 31 0 (by omega) (by omega) (by omega) (by omega) (by omega)) (e 31 1 (by omega) (by omega) (by omega) (by omega) (by omega))
  obtain ⟨-, -, hp, hh, -, hw⟩ := h
  refine ⟨a1, a2, ?_, fun s hs => ?_, hS, ?_⟩
  · unfold R_P at *; rw [e 8 0 (by omega) (by omega) (by omega) (by omega) (by omega), e 9 0 (by omega) (by omega) (by omega) (by omega) (by omega), e 30 0 (by omega) (by omega) (by omega) (by omega) (by omega), e 31 16 (by omega) (by omega) (by omega) (by omega) (by omega)]; exact hp
  · rw [e 12 s (by omega) (by omega) (by omega) (by omega) (by omega), e 13 s (by omega) (by omega) (by omega) (by omega) (by omega), e 31 4 (by omega) (by omega) (by omega) (by omega) (by omega), e 31 5 (by omega) (by omega) (by omega) (by omega) (by omega), e 31 6 (by omega) (by omega) (by omega) (by omega) (by omega)]; exact hh s hs
  · unfold R_W at *; rw [e 0 0 (by omega) (by omega) (by omega) (by omega) (by omega), e 16 0 (by omega) (by omega) (by omega) (by omega) (by omega), e 30 0 (by omega) (by omega) (by omega) (by omega) (by omega), e 31 31 (by omega) (by omega) (by omega) (by omega) (by omega)]; exact hw
def R_S1 (σ : sv_S) (s : Nat) : Prop := σ 31 7 s = σ 14 0 s ∧ (σ 14 0 s = 0 ∨ (σ 14 0 s = 1 ∧ ∃ q : Nat, q < 6 ∧ σ 2 (30 + s) 0 = nI q ∧ σ 31 8 s = nI q ∧ σ 31 9 s = wo_q q (σ 2 (30 + s) 1)) ∨ (σ 14 0 s = 2 ∧ ∃ k : Nat, k ≤ 24 ∧ σ 12 (4 + s) 1 = nI k ∧ σ 31 10 s = nI k ∧ ∀ i, i < 24 → σ 31 11 (24 * s + i) = σ 13 (4 + s) i) ∨ (σ 14 0 s = 3 ∧ σ 31 8 s = σ 15 0 s))
theorem R_S.one {σ τ : sv_S} (h : R_S σ) {s : Nat} (e14 : ∀ i, i ≠ s → τ 14 0 i = σ 14 0 i) (e15 : ∀ i, i ≠ s → τ 15 0 i = σ 15 0 i) (e2 : ∀ i, i ≠ s → τ 2 (30 + i) = σ 2 (30 + i)) (e12 : ∀ i, i ≠ s → τ 12 (4 + i) = σ 12 (4 + i)) (e13 : ∀ i, i ≠ s → τ 13 (4 + i) = σ 13 (4 + i)) (em : ∀ r i, 7 ≤ r → r ≤ 10 → i ≠ s → τ 31 r i = σ 31 r i) (e11 : ∀ j, (j < 24 * s ∨ 24 * s + 24 ≤ j) → τ 31 11 j = σ 31 11 j) (hn : R_S1 τ s) : R_S τ := by
  intro u hu
  by_cases e : u = s
  · subst e; exact hn
  · have g := h u hu
    rw [e14 u e, e15 u e, e2 u e, e12 u e, e13 u e, em 7 u (by omega) (by omega) e, em 8 u (by omega) (by omega) e, em 9 u (by omega) (by omega) e, em 10 u (by omega) (by omega) e]
    refine ⟨g.1, ?_⟩
    rcases g.2 with g | g | ⟨g1, k, g2, g3, g4, g5⟩ | g
    · exact Or.inl g
    · exact Or.inr (Or.inl g)
    · exact Or.inr (Or.inr (Or.inl ⟨g1, k, g2, g3, g4, fun i hi => by rw [e11 _ (by omega)]; exact g5 i hi⟩))
    · exact Or.inr (Or.inr (Or.inr g))
theorem R_rest (x y : Int32) : R_m (f_On_rest x y) (f_Mo_rest x y) := by
  intro σ h
  by_cases hg : 0 ≤ x.toInt ∧ x.toInt ≤ 4
  · obtain ⟨s, rfl, hs, hs2⟩ := pz_nat hg.1
    have hs5 : s < 5 := by omega
    obtain ⟨g1, g2⟩ := h.2.2.2.2.1 s hs5
    by_cases c0 : σ 14 0 s = 0
    · exact R_o (v := -1000000011) (σ1 := σ) (σ2 := σ) (by unfold f_On_rest; rw [on_slot, pz_b, pz_if1, if_pos hg, pz_in (by omega) (by omega), pz_cl (by omega), sv_if_t c0]) (by unfold f_Mo_rest; rw [mo_slot, pz_b, pz_if1, if_pos hg, pz_in (by omega) (by omega), pz_cl (by omega), g1, c0, sv_if_f (by decide), pz_in (by omega) (by omega), sv_if_t rfl]) h
    · by_cases c3 : σ 14 0 s = 3
      · have e8 : σ 31 8 s = σ 15 0 s := by
          rcases g2 with q | q | q | q
          · exact absurd q c0
          · rw [q.1] at c3; exact absurd c3 (by decide)
          · rw [q.1] at c3; exact absurd c3 (by decide)
          · exact q.2
        by_cases y0 : y = 0
        · exact R_o (v := -1000000002) (σ1 := σ) (σ2 := σ) (by unfold f_On_rest; rw [on_slot, pz_b, pz_if1, if_pos hg, pz_in (by omega) (by omega), pz_cl (by omega), sv_if_f c0, pz_in (by omega) (by omega), sv_if_t c3, sv_if_t y0]) (by unfold f_Mo_rest; rw [mo_slot, pz_b, pz_if1, if_pos hg, pz_in (by omega) (by omega), pz_cl (by omega), g1, sv_if_t c3, sv_if_t y0]) h
        · exact R_o (v := σ 15 0 s - σ 15 0 s / y * y) (σ1 := σ) (σ2 := σ) (by unfold f_On_rest; rw [on_slot, pz_b, pz_if1, if_pos hg, pz_in (by omega) (by omega), pz_cl (by omega), sv_if_f c0, pz_in (by omega) (by omega), sv_if_t c3, sv_if_f y0, pz_in (by omega) (by omega), sv_g_t y0]) (by unfold f_Mo_rest; rw [mo_slot, pz_b, pz_if1, if_pos hg, pz_in (by omega) (by omega), pz_cl (by omega), g1, sv_if_t c3, sv_if_f y0, pz_in (by omega) (by omega), sv_g_t y0, e8]) h
      · exact R_o (v := -1000000012) (σ1 := σ) (σ2 := σ) (by unfold f_On_rest; rw [on_slot, pz_b, pz_if1, if_pos hg, pz_in (by omega) (by omega), pz_cl (by omega), sv_if_f c0, pz_in (by omega) (by omega), sv_if_f c3]) (by unfold f_Mo_rest; rw [mo_slot, pz_b, pz_if1, if_pos hg, pz_in (by omega) (by omega), pz_cl (by omega), g1, sv_if_f c3, pz_in (by omega) (by omega), sv_if_f c0]) h
  · exact R_o (σ1 := σ) (by unfold f_On_rest; rw [on_slot, pz_b, pz_if1, if_neg hg]) (by unfold f_Mo_rest; rw [mo_slot, pz_b, pz_if1, if_neg hg]) h
theorem R_item (x y : Int32) : R_m (f_On_item x y) (f_Mo_item x y) := by
  intro σ h
  by_cases hg : 0 ≤ x.toInt ∧ x.toInt ≤ 4
  · obtain ⟨s, rfl, hs, hs2⟩ := pz_nat hg.1
    have hs5 : s < 5 := by omega
    have e4 : 4 * 1 + s = 4 + s := by omega
    obtain ⟨g1, g2⟩ := h.2.2.2.2.1 s hs5
    by_cases c0 : σ 14 0 s = 0
    · exact R_o (v := -1000000011) (σ1 := σ) (σ2 := σ) (by unfold f_On_item; rw [on_slot, pz_b, pz_if1, if_pos hg, pz_in (by omega) (by omega), pz_cl (by omega), sv_if_t c0]) (by unfold f_Mo_item; rw [mo_slot, pz_b, pz_if1, if_pos hg, pz_in (by omega) (by omega), pz_cl (by omega), g1, c0, sv_if_f (by decide), pz_in (by omega) (by omega), sv_if_t rfl]) h
    · by_cases c3 : σ 14 0 s = 2
      · have e8 : ∃ k : Nat, k ≤ 24 ∧ σ 12 (4 + s) 1 = nI k ∧ σ 31 10 s = nI k ∧ ∀ i, i < 24 → σ 31 11 (24 * s + i) = σ 13 (4 + s) i := by
          rcases g2 with q | q | q | q
          · exact absurd q c0
          · rw [q.1] at c3; exact absurd c3 (by decide)
          · exact q.2
          · rw [q.1] at c3; exact absurd c3 (by decide)
        obtain ⟨S, hS, k1, k2, k3⟩ := e8
        by_cases hy : 0 ≤ y.toInt ∧ y.toInt ≤ (S : Int) - 1
        · obtain ⟨i, rfl, hi, hi2⟩ := pz_nat hy.1
          have hiS : i < S := by omega
          by_cases e5 : σ 13 (4 + s) i = -1000000005
          · exact R_o (v := -1000000012) (σ1 := σ) (σ2 := σ) (by unfold f_On_item; rw [on_slot, pz_b, pz_if1, if_pos hg, pz_in (by omega) (by omega), pz_cl (by omega), sv_if_f c0, pz_in (by omega) (by omega), sv_if_t c3, pz_in (by omega) (by omega), e4, sh_place hS k1, pz_b, pz_if1, if_pos hy, sh_has hS k1 hiS, pz_b, if_pos e5, sv_if_t rfl]) (by unfold f_Mo_item; rw [mo_slot, pz_b, pz_if1, if_pos hg, pz_in (by omega) (by omega), pz_cl (by omega), g1, sv_if_t c3, pz_in (by omega) (by omega), k2, mo_place hS, pz_b, pz_if1, if_pos hy, mo_ix24, pz_in (by omega) (by omega), pz_cl (by omega), k3 i (by omega), sv_if_t e5]) h
          · exact R_o (v := σ 13 (4 + s) i) (σ1 := σ) (σ2 := σ) (by unfold f_On_item; rw [on_slot, pz_b, pz_if1, if_pos hg, pz_in (by omega) (by omega), pz_cl (by omega), sv_if_f c0, pz_in (by omega) (by omega), sv_if_t c3, pz_in (by omega) (by omega), e4, sh_place hS k1, pz_b, pz_if1, if_pos hy, sh_has hS k1 hiS, pz_b, if_neg e5, sv_if_f (by decide), pz_in (by omega) (by omega), pz_cl (by omega)]) (by unfold f_Mo_item; rw [mo_slot, pz_b, pz_if1, if_pos hg, pz_in (by omega) (by omega), pz_cl (by omega), g1, sv_if_t c3, pz_in (by omega) (by omega), k2, mo_place hS, pz_b, pz_if1, if_pos hy, mo_ix24, pz_in (by omega) (by omega), pz_cl (by omega), k3 i (by omega), sv_if_f e5]) h
        · exact R_o (v := -1000000013) (σ1 := σ) (σ2 := σ) (by unfold f_On_item; rw [on_slot, pz_b, pz_if1, if_pos hg, pz_in (by omega) (by omega), pz_cl (by omega), sv_if_f c0, pz_in (by omega) (by omega), sv_if_t c3, pz_in (by omega) (by omega), e4, sh_place hS k1, pz_b, pz_if1, if_neg hy]) (by unfold f_Mo_item; rw [mo_slot, pz_b, pz_if1, if_pos hg, pz_in (by omega) (by omega), pz_cl (by omega), g1, sv_if_t c3, pz_in (by omega) (by omega), k2, mo_place hS, pz_b, pz_if1, if_neg hy]) h
      · exact R_o (v := -1000000012) (σ1 := σ) (σ2 := σ) (by unfold f_On_item; rw [on_slot, pz_b, pz_if1, if_pos hg, pz_in (by omega) (by omega), pz_cl (by omega), sv_if_f c0, pz_in (by omega) (by omega), sv_if_f c3]) (by unfold f_Mo_item; rw [mo_slot, pz_b, pz_if1, if_pos hg, pz_in (by omega) (by omega), pz_cl (by omega), g1, sv_if_f c3, pz_in (by omega) (by omega), sv_if_f c0]) h
  · exact R_o (σ1 := σ) (by unfold f_On_item; rw [on_slot, pz_b, pz_if1, if_neg hg]) (by unfold f_Mo_item; rw [mo_slot, pz_b, pz_if1, if_neg hg]) h
theorem R_ask (x y : Int32) : R_m (f_On_ask x y) (f_Mo_ask x y) := by
  intro σ h
  by_cases hg : 0 ≤ x.toInt ∧ x.toInt ≤ 4
  · by_cases hy : 0 ≤ y.toInt ∧ y.toInt ≤ 5
    · obtain ⟨s, rfl, hs, hs2⟩ := pz_nat hg.1
      obtain ⟨k, rfl, hk, hk2⟩ := pz_nat hy.1
      have hs5 : s < 5 := by omega
      have e3 : 10 * 3 + s = 30 + s := by omega
      obtain ⟨g1, g2⟩ := h.2.2.2.2.1 s hs5
      by_cases c0 : σ 14 0 s = 0
      · exact R_o (v := -1000000011) (σ1 := σ) (σ2 := σ) (by unfold f_On_ask; rw [on_slot, pz_b, pz_if1, if_pos hg, on_kind, pz_b, pz_if1, if_pos hy, pz_in (by omega) (by omega), pz_cl (by omega), sv_if_t c0]) (by unfold f_Mo_ask; rw [mo_slot, pz_b, pz_if1, if_pos hg, mo_w0_5, pz_b, pz_if1, if_pos hy, pz_in (by omega) (by omega), pz_cl (by omega), g1, sv_if_t c0]) h
      · by_cases c3 : σ 14 0 s = 1
        · have e8 : ∃ q : Nat, q < 6 ∧ σ 2 (30 + s) 0 = nI q ∧ σ 31 8 s = nI q ∧ σ 31 9 s = wo_q q (σ 2 (30 + s) 1) := by
            rcases g2 with q | q | q | q
            · exact absurd q c0
            · exact q.2
            · rw [q.1] at c3; exact absurd c3 (by decide)
            · rw [q.1] at c3; exact absurd c3 (by decide)
          obtain ⟨q, hq, k1, k2, k3⟩ := e8
          by_cases e5 : of_q q k = true
          · exact R_o (v := wo_q q (σ 2 (30 + s) 1)) (σ1 := σ) (σ2 := σ) (by unfold f_On_ask f_Li_kindOf; rw [on_slot, pz_b, pz_if1, if_pos hg, on_kind, pz_b, pz_if1, if_pos hy, pz_in (by omega) (by omega), pz_cl (by omega), sv_if_f c0, pz_in (by omega) (by omega), pz_in (by omega) (by omega), sv_if_t c3, e3, k1, of_C hq (by omega), pz_b, pz_if1, if_pos e5, k1, pz_in (by omega) (by omega), pz_cl (by omega), pz_b, wo_C hq, pz_b]) (by unfold f_Mo_ask; rw [mo_slot, pz_b, pz_if1, if_pos hg, mo_w0_5, pz_b, pz_if1, if_pos hy, pz_in (by omega) (by omega), pz_cl (by omega), g1, sv_if_f c0, pz_in (by omega) (by omega), sv_if_t c3, pz_in (by omega) (by omega), k2, of_M hq (by omega), pz_b, pz_if1, if_pos e5, pz_in (by omega) (by omega), k3]) h
          · exact R_o (v := -1000000012) (σ1 := σ) (σ2 := σ) (by unfold f_On_ask; rw [on_slot, pz_b, pz_if1, if_pos hg, on_kind, pz_b, pz_if1, if_pos hy, pz_in (by omega) (by omega), pz_cl (by omega), sv_if_f c0, pz_in (by omega) (by omega), pz_in (by omega) (by omega), sv_if_t c3, e3, k1, of_C hq (by omega), pz_b, pz_if1, if_neg e5]) (by unfold f_Mo_ask; rw [mo_slot, pz_b, pz_if1, if_pos hg, mo_w0_5, pz_b, pz_if1, if_pos hy, pz_in (by omega) (by omega), pz_cl (by omega), g1, sv_if_f c0, pz_in (by omega) (by omega), sv_if_t c3, pz_in (by omega) (by omega), k2, of_M hq (by omega), pz_b, pz_if1, if_neg e5]) h
        · exact R_o (v := -1000000012) (σ1 := σ) (σ2 := σ) (by unfold f_On_ask; rw [on_slot, pz_b, pz_if1, if_pos hg, on_kind, pz_b, pz_if1, if_pos hy, pz_in (by omega) (by omega), pz_cl (by omega), sv_if_f c0, pz_in (by omega) (by omega), pz_in (by omega) (by omega), sv_if_f c3]) (by unfold f_Mo_ask; rw [mo_slot, pz_b, pz_if1, if_pos hg, mo_w0_5, pz_b, pz_if1, if_pos hy, pz_in (by omega) (by omega), pz_cl (by omega), g1, sv_if_f c0, pz_in (by omega) (by omega), sv_if_f c3]) h
    · exact R_o (σ1 := σ) (by unfold f_On_ask; rw [on_slot, pz_b, pz_if1, if_pos hg, on_kind, pz_b, pz_if1, if_neg hy]) (by unfold f_Mo_ask; rw [mo_slot, pz_b, pz_if1, if_pos hg, mo_w0_5, pz_b, pz_if1, if_neg hy]) h
  · exact R_o (σ1 := σ) (by unfold f_On_ask; rw [on_slot, pz_b, pz_if1, if_neg hg]) (by unfold f_Mo_ask; rw [mo_slot, pz_b, pz_if1, if_neg hg]) h
/-! lay -/
theorem ml_8 : sv_ml 8 = 5 := rfl
theorem ml_9 : sv_ml 9 = 5 := rfl
theorem lay_0 {σ : sv_S} (h : R_A σ) {s : Nat} (hs : s < 5) {y w : Int32} (h1 : y ≠ 1) (h2 : y ≠ 2) (h3 : y = 0 ∨ y = 3) : ∃ (v : Int32) (σ1 σ2 : sv_S), f_On_lay_64 (nI s) y w σ = some (v, σ1) ∧ f_Mo_lay_74 (nI s) y w σ1 = some (v, σ2) ∧ R_A σ2 := by
  have hS := h.2.2.2.2.1
  generalize hτ : sv_up (sv_up σ 14 0 s y) 15 0 s w = τ
  generalize hυ : sv_up (sv_up (sv_up τ 31 7 s y) 31 8 s w) 31 9 s 0 = υ
  have o : ∀ r i, ¬ (r = 14 ∧ i = 0) → ¬ (r = 15 ∧ i = 0) → τ r i = σ r i := fun r i a b => by rw [← hτ, pz_up b, pz_up a]
  have p : ∀ r i, ¬ (r = 31 ∧ 7 ≤ i ∧ i ≤ 9) → υ r i = τ r i := fun r i a => by rw [← hυ, pz_up (by omega), pz_up (by omega), pz_up (by omega)]
  have t14 : ∀ i, τ 14 0 i = if i = s then y else σ 14 0 i := fun i => by
    rw [← hτ, pz_ur (by decide)]
    by_cases e : i = s
    · rw [if_pos e, e, pz_us]
    · rw [if_neg e, pz_uk e]
  have t15 : ∀ i, τ 15 0 i = if i = s then w else σ 15 0 i := fun i => by
    rw [← hτ]
    by_cases e : i = s
    · rw [if_pos e, e, pz_us]
    · rw [if_neg e, pz_uk e, pz_ur (by decide)]
  refine ⟨σ 14 0 s, τ, υ, ?_, ?_, R_S.A (σ := σ) (hS.one (s := s) (fun i hi => ?_) (fun i hi => ?_) (fun i _ => ?_) (fun i _ => ?_) (fun i _ => ?_) (fun r i a b hi => ?_) (fun j _ => ?_) ⟨?_, ?_⟩) h (fun r i a b c d e => ?_)⟩
  · unfold f_On_lay_64
    rw [pz_in (by omega) (by omega), pz_in (by omega) (by omega), sv_if_f h1, sv_if_f h2, pz_in (by omega) (by omega), pz_cl (by omega), hτ]
  · unfold f_Mo_lay_74 f_Mo_lay_109 f_Mo_lay_129
    rw [pz_in (by omega) (by omega), pz_in (by omega) (by omega), sv_if_f h1, pz_in (by rw [ml_8]; omega) (by rw [ml_8]; omega), sv_if_f h1, pz_in (by rw [ml_9]; omega) (by rw [ml_9]; omega), sv_if_f h2, pz_cl (by omega), hυ, o 31 7 (by omega) (by omega), (hS s hs).1]
  · rw [p 14 0 (by omega), t14, if_neg hi]
  · rw [p 15 0 (by omega), t15, if_neg hi]
  · rw [p _ _ (by omega), o _ _ (by omega) (by omega)]
  · rw [p _ _ (by omega), o _ _ (by omega) (by omega)]
  · rw [p _ _ (by omega), o _ _ (by omega) (by omega)]
  · by_cases e7 : r = 7
    · subst e7; rw [← hυ, pz_ui (by decide), pz_ui (by decide), pz_uk hi, o 31 7 (by omega) (by omega)]
    · by_cases e8 : r = 8
      · subst e8; rw [← hυ, pz_ui (by decide), pz_uk hi, pz_ui (by decide), o 31 8 (by omega) (by omega)]
      · by_cases e9 : r = 9
        · subst e9; rw [← hυ, pz_uk hi, pz_ui (by decide), pz_ui (by decide), o 31 9 (by omega) (by omega)]
        · rw [p 31 r (by omega), o 31 r (by omega) (by omega)]
  · rw [p _ _ (by omega), o _ _ (by omega) (by omega)]
  · rw [p 14 0 (by omega), t14, if_pos rfl, ← hυ, pz_ui (by decide), pz_ui (by decide), pz_us]
  · rw [p 14 0 (by omega), t14, if_pos rfl]
    rcases h3 with e | e
    · exact Or.inl e
    · refine Or.inr (Or.inr (Or.inr ⟨e, ?_⟩))
      rw [p 15 0 (by omega), t15, if_pos rfl, ← hυ, pz_ui (by decide), pz_us]
  · rw [p r i (by omega), o r i (by omega) (by omega)]
theorem lay_1 {σ : sv_S} (h : R_A σ) {s k : Nat} (hs : s < 5) (hk : ∃ n : Nat, n ≤ 10 ∧ σ 1 0 4 = nI n ∧ k < n) : ∃ (v : Int32) (σ1 σ2 : sv_S), f_On_lay_64 (nI s) 1 (nI k) σ = some (v, σ1) ∧ f_Mo_lay_74 (nI s) 1 (nI k) σ1 = some (v, σ2) ∧ R_A σ2 ∧ σ1 31 = σ 31 := by
  have hS := h.2.2.2.2.1
  obtain ⟨⟨n, nt, b, m, z, d, T, hC, hV, ok⟩, hX⟩ := id h
  have hn := ok.1
  have hkn : k < n := by
    obtain ⟨n', a1, a2, a3⟩ := hk
    have := hC.1.1.symm.trans a2
    rw [pz_eq, pz_ti (by omega), pz_ti (by omega)] at this
    omega
  obtain ⟨q, hq, eq⟩ := (ok.2.2.1 k hkn).1
  obtain ⟨τ, g1, g2, g3⟩ := cl_setAs (i := 30 + s) (j := 10 * 0 + k) (by omega) (sv_up σ 14 0 s 1)
  have d0 : σ 2 (10 * 0 + k) 0 = d k 0 := hC.1.at hkn 0 (by omega)
  have d1 : σ 2 (10 * 0 + k) 1 = d k 1 := hC.1.at hkn 1 (by omega)
  have t0 : τ 2 (30 + s) 0 = nI q := by rw [g2 0 (by omega), pz_ur (by decide), d0, eq]
  have t1 : τ 2 (30 + s) 1 = d k 1 := by rw [g2 1 (by omega), pz_ur (by decide), d1]
  generalize hυ : sv_up (sv_up (sv_up τ 31 7 s 1) 31 8 s (nI q)) 31 9 s (wo_q q (d k 1)) = υ
  have o : ∀ r i, ¬ (r = 14 ∧ i = 0) → ¬ (r = 2 ∧ i = 30 + s) → τ r i = σ r i := fun r i a b => by rw [g3 r i b, pz_up a]
  have p : ∀ r i, ¬ (r = 31 ∧ 7 ≤ i ∧ i ≤ 9) → υ r i = τ r i := fun r i a => by rw [← hυ, pz_up (by omega), pz_up (by omega), pz_up (by omega)]
  have t14 : ∀ i, τ 14 0 i = if i = s then 1 else σ 14 0 i := fun i => by
    rw [g3 14 0 (by omega)]
    by_cases e : i = s
    · rw [if_pos e, e, pz_us]
    · rw [if_neg e, pz_uk e]
  have m0 : τ 31 0 (6 + 8 * k + 0) = nI q := by rw [o 31 0 (by omega) (by omega), hV.1.2.2.2.2 k hkn 0 (by omega), eq]
  have m1 : τ 31 0 (6 + 8 * k + 1) = d k 1 := by rw [o 31 0 (by omega) (by omega), hV.1.2.2.2.2 k hkn 1 (by omega)]
  refine ⟨σ 14 0 s, τ, υ, ?_, ?_, R_S.A (σ := σ) (hS.one (s := s) (fun i hi => ?_) (fun i hi => ?_) (fun i hi => ?_) (fun i _ => ?_) (fun i _ => ?_) (fun r i a b hi => ?_) (fun j _ => ?_) ⟨?_, ?_⟩) h (fun r i a b c d e => ?_), funext fun i => o 31 i (by omega) (by omega)⟩
  · unfold f_On_lay_64
    rw [pz_in (by omega) (by omega), pz_in (by omega) (by omega), sv_if_t rfl, pz_in (by omega) (by omega), pz_in (by omega) (by omega), pz_cl (k := s) (by omega), pz_cl (by omega), show 10 * 3 + s = 30 + s by omega, g1, pz_b0]
  · unfold f_Mo_lay_74 f_Mo_lay_109 f_Mo_lay_129
    rw [pz_in (by omega) (by omega), pz_in (by omega) (by omega), sv_if_t rfl, pz_cl (by omega), mo_of0 (by omega), pz_b, pz_ui (by decide), m0, pz_in (by rw [ml_8]; omega) (by rw [ml_8]; omega), sv_if_t rfl, wo_M (q := q) (v := d k 1) (by omega) hq (by rw [pz_ui (by decide), pz_ui (by decide)]; exact m0) (by rw [pz_ui (by decide), pz_ui (by decide)]; exact m1), pz_b, pz_in (by rw [ml_9]; omega) (by rw [ml_9]; omega), sv_if_f (by decide), hυ, o 31 7 (by omega) (by omega), (hS s hs).1]
  · rw [p 14 0 (by omega), t14, if_neg hi]
  · rw [p 15 0 (by omega), o 15 0 (by omega) (by omega)]
  · rw [p _ _ (by omega), o _ _ (by omega) (by omega)]
  · rw [p _ _ (by omega), o _ _ (by omega) (by omega)]
  · rw [p _ _ (by omega), o _ _ (by omega) (by omega)]
  · by_cases e7 : r = 7
    · subst e7; rw [← hυ, pz_ui (by decide), pz_ui (by decide), pz_uk hi, o 31 7 (by omega) (by omega)]
    · by_cases e8 : r = 8
      · subst e8; rw [← hυ, pz_ui (by decide), pz_uk hi, pz_ui (by decide), o 31 8 (by omega) (by omega)]
      · by_cases e9 : r = 9
        · subst e9; rw [← hυ, pz_uk hi, pz_ui (by decide), pz_ui (by decide), o 31 9 (by omega) (by omega)]
        · rw [p 31 r (by omega), o 31 r (by omega) (by omega)]
  · rw [p _ _ (by omega), o _ _ (by omega) (by omega)]
  · rw [p 14 0 (by omega), t14, if_pos rfl, ← hυ, pz_ui (by decide), pz_ui (by decide), pz_us]
  · rw [p 14 0 (by omega), t14, if_pos rfl, p 2 (30 + s) (by omega), t0, t1]
    exact Or.inr (Or.inl ⟨rfl, q, hq, rfl, by rw [← hυ, pz_ui (by decide), pz_us], by rw [← hυ, pz_us]⟩)
  · rw [p r i (by omega), o r i (by omega) (by omega)]
theorem mo_lay150 {s t : Nat} (hs : s < 5) (ht : t < 4) {v : Int32} {σ0 : sv_S} : ∀ (r k fuel : Nat) (σ : sv_S), k + r = 24 → r < fuel → σ 31 6 = σ0 31 6 → (∀ j, j < k → σ 31 11 (24 * s + j) = σ0 31 6 (24 * t + j)) → ∃ σ', f_Mo_lay_150 fuel (nI s) (nI t) v (nI k) σ = some (v, σ') ∧ (∀ j, j < 24 → σ' 31 11 (24 * s + j) = σ0 31 6 (24 * t + j)) ∧ (∀ j, (j < 24 * s ∨ 24 * s + 24 ≤ j) → σ' 31 11 j = σ 31 11 j) ∧ ∀ r i, ¬ (r = 31 ∧ i = 11) → σ' r i = σ r i := by
  intro r
  induction r with
  | zero =>
    intro k fuel σ hk hf h6 hI
    obtain ⟨f, rfl⟩ : ∃ f, fuel = f + 1 := ⟨fuel - 1, by omega⟩
    have hk : k = 24 := by omega
    subst hk
    exact ⟨σ, by rw [f_Mo_lay_150, sv_if_t (by decide)], hI, fun _ _ => rfl, fun _ _ _ => rfl⟩
  | succ r ih =>
    intro k fuel σ hk hf h6 hI
    obtain ⟨f, rfl⟩ : ∃ f, fuel = f + 1 := ⟨fuel - 1, by omega⟩
    rw [f_Mo_lay_150, sv_if_f (show ¬ (24 : Int32) ≤ nI k from nI_ge (b := 24) (by omega) (by omega)), mo_ix24, mo_ix24, pz_in (by omega) (by omega), pz_in (by omega) (by omega), pz_cl (by omega), pz_cl (by omega), nI_1]
    obtain ⟨σ', y1, y2, y3, y4⟩ := ih (k + 1) f (sv_up σ 31 11 (24 * s + k) (σ 31 6 (24 * t + k))) (by omega) (by omega) (by rw [pz_up (by omega)]; exact h6) (fun j hj => by
      by_cases e : j = k
      · subst e; rw [pz_us, h6]
      · rw [pz_uk (by omega)]; exact hI j (by omega))
    exact ⟨σ', y1, y2, fun j hj => by rw [y3 j hj, pz_uk (by omega)], fun r i h => by rw [y4 r i h, pz_up h]⟩
theorem lay_2 {σ : sv_S} (h : R_A σ) {s t : Nat} (hs : s < 5) (ht : t < 4) : ∃ (v : Int32) (σ1 σ2 : sv_S), f_On_lay_64 (nI s) 2 (nI t) σ = some (v, σ1) ∧ f_Mo_lay_74 (nI s) 2 (nI t) σ1 = some (v, σ2) ∧ R_A σ2 ∧ σ1 31 = σ 31 := by
  have hS := h.2.2.2.2.1
  obtain ⟨H1, H2, ⟨S, hSS, H3, H4⟩, H5, H6⟩ := h.2.2.2.1 t ht
  generalize hτ1 : sv_up (sv_up (sv_up σ 14 0 s 2) 12 (4 + s) 0 (σ 12 t 0)) 12 (4 + s) 1 (σ 12 t 1) = τ1
  generalize hτ : sv_cp τ1 13 t (4 + s) 0 0 24 = τ
  have o1 : ∀ r i, ¬ (r = 14 ∧ i = 0) → ¬ (r = 12 ∧ i = 4 + s) → τ1 r i = σ r i := fun r i a b => by rw [← hτ1, pz_up b, pz_up b, pz_up a]
  have o2 : ∀ r i, ¬ (r = 13 ∧ i = 4 + s) → τ r i = τ1 r i := fun r i hri => by
    rw [← hτ]; funext j; show (if r = 13 ∧ i = 4 + s then _ else τ1 r i j) = _; rw [if_neg hri]
  have o : ∀ r i, ¬ (r = 14 ∧ i = 0) → ¬ (r = 12 ∧ i = 4 + s) → ¬ (r = 13 ∧ i = 4 + s) → τ r i = σ r i := fun r i a b c => by rw [o2 r i c, o1 r i a b]
  have t13 : ∀ j, j < 24 → τ 13 (4 + s) j = σ 13 t j := fun j hj => by
    rw [← hτ]; show (if (13 : Nat) = 13 ∧ 4 + s = 4 + s then va_cpy (τ1 13 t) (τ1 13 (4 + s)) 0 0 24 j else _) = _
    rw [if_pos ⟨rfl, rfl⟩, pk_cpy_in (by omega) (by omega), o1 13 t (by omega) (by omega)]; congr 1; omega
  have t12 : τ 12 (4 + s) 1 = nI S := by rw [o2 12 _ (by omega), ← hτ1, pz_us]; exact H3
  have t14 : ∀ i, τ 14 0 i = if i = s then 2 else σ 14 0 i := fun i => by
    rw [o2 14 0 (by omega), ← hτ1, pz_ur (by decide), pz_ur (by decide)]
    by_cases e : i = s
    · rw [if_pos e, e, pz_us]
    · rw [if_neg e, pz_uk e]
  generalize hυ0 : sv_up (sv_up (sv_up (sv_up τ 31 7 s 2) 31 8 s (nI t)) 31 9 s 0) 31 10 s (nI S) = υ0
  have u6 : υ0 31 6 = σ 31 6 := by rw [← hυ0, pz_up (by decide), pz_up (by decide), pz_up (by decide), pz_up (by decide), o 31 6 (by omega) (by omega) (by omega)]
  obtain ⟨υ, y1, y2, y3, y4⟩ := mo_lay150 hs ht (v := σ 14 0 s) (σ0 := σ) 24 0 sv_fu υ0 (by omega) (by unfold sv_fu; omega) u6 (fun j hj => absurd hj (Nat.not_lt_zero j))
  have p0 : ∀ r i, ¬ (r = 31 ∧ 7 ≤ i ∧ i ≤ 10) → υ0 r i = τ r i := fun r i a => by rw [← hυ0, pz_up (by omega), pz_up (by omega), pz_up (by omega), pz_up (by omega)]
  have p : ∀ r i, ¬ (r = 31 ∧ 7 ≤ i ∧ i ≤ 11) → υ r i = τ r i := fun r i a => by rw [y4 r i (by omega), p0 r i (by omega)]
  refine ⟨σ 14 0 s, τ, υ, ?_, ?_, R_S.A (σ := σ) (hS.one (s := s) (fun i hi => ?_) (fun i hi => ?_) (fun i hi => ?_) (fun i _ => ?_) (fun i _ => ?_) (fun r i a b hi => ?_) (fun j hj => ?_) ⟨?_, ?_⟩) h (fun r i a b c d e => ?_), funext fun i => o 31 i (by omega) (by omega) (by omega)⟩
  · unfold f_On_lay_64 f_Sh_fillAs f_ac13 f_ac
    dsimp only
    rw [pz_in (by omega) (by omega), pz_in (by omega) (by omega), sv_if_f (by decide), sv_if_t rfl, pz_in (by omega) (by omega), pz_in (by omega) (by omega), pz_cl (k := s) (by omega), pz_cl (by omega), show 4 * 1 + s = 4 + s by omega, show 4 * 0 + t = t by omega, pz_ur (r' := 12) (r := 14) (by decide), pz_ui (i' := t) (i := 4 + s) (by omega), pz_ur (r' := 12) (r := 14) (by decide), hτ1]
    rw [sv_g_t ⟨by decide, by decide, by decide, Nat.le_refl 24, Nat.le_refl 24⟩, show ((0 : Int32).toNatClampNeg) = 0 from rfl, show ((24 : Int32).toNatClampNeg) = 24 from rfl, hτ, pz_b0, pz_b0]
  · unfold f_Mo_lay_74 f_Mo_lay_109 f_Mo_lay_129
    rw [pz_in (by omega) (by omega), pz_in (by omega) (by omega), sv_if_f (by decide), pz_in (by rw [ml_8]; omega) (by rw [ml_8]; omega), sv_if_f (by decide), pz_in (by rw [ml_9]; omega) (by rw [ml_9]; omega), sv_if_t rfl, pz_in (by omega) (by omega), pz_in (by omega) (by omega), pz_cl (k := s) (by omega), pz_cl (by omega), pz_ui (i' := 5) (i := 9) (by decide), pz_ui (i' := 5) (i := 8) (by decide), pz_ui (i' := 5) (i := 7) (by decide), o 31 5 (by omega) (by omega) (by omega), H4, hυ0, o 31 7 (by omega) (by omega) (by omega), (hS s hs).1]
    exact y1
  · rw [p 14 0 (by omega), t14, if_neg hi]
  · rw [p 15 0 (by omega), o 15 0 (by omega) (by omega) (by omega)]
  · rw [p _ _ (by omega), o _ _ (by omega) (by omega) (by omega)]
  · rw [p _ _ (by omega), o _ _ (by omega) (by omega) (by omega)]
  · rw [p _ _ (by omega), o _ _ (by omega) (by omega) (by omega)]
  · rw [y4 31 r (by omega)]
    by_cases e7 : r = 7
    · subst e7; rw [← hυ0, pz_ui (by decide), pz_ui (by decide), pz_ui (by decide), pz_uk hi, o 31 7 (by omega) (by omega) (by omega)]
    · by_cases e8 : r = 8
      · subst e8; rw [← hυ0, pz_ui (by decide), pz_ui (by decide), pz_uk hi, pz_ui (by decide), o 31 8 (by omega) (by omega) (by omega)]
      · by_cases e9 : r = 9
        · subst e9; rw [← hυ0, pz_ui (by decide), pz_uk hi, pz_ui (by decide), pz_ui (by decide), o 31 9 (by omega) (by omega) (by omega)]
        · have e10 : r = 10 := by omega
          subst e10
          rw [← hυ0, pz_uk hi, pz_ui (by decide), pz_ui (by decide), pz_ui (by decide), o 31 10 (by omega) (by omega) (by omega)]
  · rw [y3 j hj, p0 31 11 (by omega), o 31 11 (by omega) (by omega) (by omega)]
  · rw [p 14 0 (by omega), t14, if_pos rfl, y4 31 7 (by omega), ← hυ0, pz_ui (by decide), pz_ui (by decide), pz_ui (by decide), pz_us]
  · rw [p 14 0 (by omega), t14, if_pos rfl, p 12 (4 + s) (by omega), t12, p 13 (4 + s) (by omega)]
    exact Or.inr (Or.inr (Or.inl ⟨rfl, S, hSS, rfl, by rw [y4 31 10 (by omega), ← hυ0, pz_us], fun i hi => by rw [y2 i hi, t13 i hi]; exact H5 i hi⟩))
  · rw [p r i (by omega), o r i (by omega) (by omega) (by omega)]
theorem R_lay (x y w : Int32) : R_m (f_On_lay x y w) (f_Mo_lay x y w) := by
  intro σ h
  obtain ⟨⟨n, nt, b, m, z, d, T, hC, hV, ok⟩, hX⟩ := id h
  have e0 : (0 : Int32).toInt = 0 := rfl
  have e1 : (1 : Int32).toInt = 1 := rfl
  have e2 : (2 : Int32).toInt = 2 := rfl
  have e3 : (3 : Int32).toInt = 3 := rfl
  by_cases hg : 0 ≤ x.toInt ∧ x.toInt ≤ 4
  · by_cases hy : 0 ≤ y.toInt ∧ y.toInt ≤ 3
    · obtain ⟨s, rfl, hs, hs2⟩ := pz_nat hg.1
      have hs5 : s < 5 := by omega
      by_cases y1 : y = 1
      · subst y1
        have C0 : f_On_lay (nI s) 1 w σ = if 0 ≤ w.toInt ∧ w.toInt ≤ (n : Int) - 1 then f_On_lay_64 (nI s) 1 w σ else some ((-1000000001 : Int32), σ) := by
          unfold f_On_lay f_On_lay_29 f_On_lay_44
          rw [on_slot, pz_b, pz_if1, if_pos hg, on_w0_3, pz_b, pz_if1, if_pos hy, sv_if_t rfl, on_dr hC.1.1 ok.1, pz_b, pz_if1, sv_if_f (by decide), sv_if_f (by decide)]
        have M0 : ∀ τ, τ 31 0 = σ 31 0 → f_Mo_lay (nI s) 1 w τ = if 0 ≤ w.toInt ∧ w.toInt ≤ (n : Int) - 1 then f_Mo_lay_74 (nI s) 1 w τ else some ((-1000000001 : Int32), τ) := by
          intro τ e
          unfold f_Mo_lay f_Mo_lay_22 f_Mo_lay_39
          rw [sv_if_f (by decide), sv_if_f (by decide), sv_if_t rfl, mo_dr (n := n) (by rw [e]; exact hV.1.1) ok.1, pz_b, pz_if1, sv_if_f (by decide), mo_slot, pz_b, pz_if1, if_pos hg, sv_if_f (by decide), sv_if_f (by decide), pz_b, pz_if1, if_pos hg, sv_if_t rfl]
        by_cases c : 0 ≤ w.toInt ∧ w.toInt ≤ (n : Int) - 1
        · obtain ⟨k, rfl, hk, hk2⟩ := pz_nat c.1
          obtain ⟨v, σ1, σ2, q1, q2, q3, q4⟩ := lay_1 h hs5 (k := k) ⟨n, ok.1, hC.1.1, by omega⟩
          exact R_o (v := v) (σ1 := σ1) (σ2 := σ2) (by rw [C0, if_pos c]; exact q1) (by rw [M0 σ1 (by rw [q4]), if_pos c]; exact q2) q3
        · exact R_o (v := -1000000001) (σ1 := σ) (σ2 := σ) (by rw [C0, if_neg c]) (by rw [M0 σ rfl, if_neg c]) h
      · by_cases y2 : y = 2
        · subst y2
          have C0 : f_On_lay (nI s) 2 w σ = if 0 ≤ w.toInt ∧ w.toInt ≤ 3 then f_On_lay_44 (nI s) 2 w σ else some ((-1000000001 : Int32), σ) := by
            unfold f_On_lay f_On_lay_29
            rw [on_slot, pz_b, pz_if1, if_pos hg, on_w0_3, pz_b, pz_if1, if_pos hy, sv_if_f (by decide), sv_if_t rfl, on_sheet, pz_b, pz_if1]
          have M0 : ∀ τ, f_Mo_lay (nI s) 2 w τ = if 0 ≤ w.toInt ∧ w.toInt ≤ 3 then sv_g (sv_in w 4) (sv_if (0 ≤ (τ 31 4 (w.toNatClampNeg))) (f_Mo_lay_74 (nI s) 2 w τ) (some ((-1000000011 : Int32), τ))) else some ((-1000000001 : Int32), τ) := by
            intro τ
            unfold f_Mo_lay f_Mo_lay_22 f_Mo_lay_39
            rw [sv_if_f (by decide), sv_if_f (by decide), sv_if_f (by decide), sv_if_t rfl, mo_sheet', pz_b, pz_if1, mo_slot, pz_b, pz_if1, if_pos hg, sv_if_f (by decide), sv_if_t rfl, pz_b, pz_if1, if_pos hg, sv_if_t rfl]
          by_cases c : 0 ≤ w.toInt ∧ w.toInt ≤ 3
          · obtain ⟨t, rfl, ht, ht2⟩ := pz_nat c.1
            have ht4 : t < 4 := by omega
            obtain ⟨H1, H2, -⟩ := hX.2.2.1 t ht4
            by_cases hm : σ 12 t 0 = -1
            · exact R_o (v := -1000000011) (σ1 := σ) (σ2 := σ) (by rw [C0, if_pos c]; unfold f_On_lay_44 f_Sh_isMissing; rw [sv_if_t rfl, pz_in (by omega) (by omega), pz_cl (by omega), show 4 * 0 + t = t by omega, sv_if_t hm, pz_11, pz_b, sv_if_f (by decide)]) (by rw [M0, if_pos c, pz_in (by omega) (by omega), pz_cl (by omega), H1, hm, sv_if_f (by decide)]) h
            · have hm2 : 0 ≤ σ 12 t 0 := by
                rcases H2 with e | e | e
                · exact absurd e hm
                · rw [e]; decide
                · rw [e]; decide
              obtain ⟨v, σ1, σ2, q1, q2, q3, q4⟩ := lay_2 h hs5 ht4
              exact R_o (v := v) (σ1 := σ1) (σ2 := σ2) (by rw [C0, if_pos c]; unfold f_On_lay_44 f_Sh_isMissing; rw [sv_if_t rfl, pz_in (by omega) (by omega), pz_cl (by omega), show 4 * 0 + t = t by omega, sv_if_f hm, pz_01, pz_b, sv_if_t rfl]; exact q1) (by rw [M0, if_pos c, pz_in (by omega) (by omega), pz_cl (by omega), q4, H1, sv_if_t hm2]; exact q2) q3
          · exact R_o (v := -1000000001) (σ1 := σ) (σ2 := σ) (by rw [C0, if_neg c]) (by rw [M0, if_neg c]) h
        · have y3 : y = 0 ∨ y = 3 := by
            rw [pz_eq, e1] at y1
            rw [pz_eq, e2] at y2
            rw [pz_eq, pz_eq, e0, e3]
            omega
          obtain ⟨v, σ1, σ2, q1, q2, q3⟩ := lay_0 (w := w) h hs5 y1 y2 y3
          have M0 : f_Mo_lay_39 (nI s) y w 1 σ1 = f_Mo_lay_74 (nI s) y w σ1 := by
            unfold f_Mo_lay_39
            rw [mo_slot, pz_b, pz_if1, if_pos hg, sv_if_f (by decide), sv_if_f y2]
          refine R_o (v := v) (σ1 := σ1) (σ2 := σ2) (by unfold f_On_lay f_On_lay_29 f_On_lay_44; rw [on_slot, pz_b, pz_if1, if_pos hg, on_w0_3, pz_b, pz_if1, if_pos hy, sv_if_f y1, sv_if_f y2, sv_if_f y2]; exact q1) ?_ q3
          unfold f_Mo_lay
          rcases y3 with e | e
          · rw [sv_if_t e, M0]; exact q2
          · rw [sv_if_f (by rw [e]; decide), sv_if_t e, M0]; exact q2
    · refine R_o (v := -1000000001) (σ1 := σ) (σ2 := σ) (by unfold f_On_lay; rw [on_slot, pz_b, pz_if1, if_pos hg, on_w0_3, pz_b, pz_if1, if_neg hy]) ?_ h
      have a0 : y ≠ 0 := fun q => hy (by rw [q, e0]; omega)
      have a1 : y ≠ 1 := fun q => hy (by rw [q, e1]; omega)
      have a2 : y ≠ 2 := fun q => hy (by rw [q, e2]; omega)
      have a3 : y ≠ 3 := fun q => hy (by rw [q, e3]; omega)
      unfold f_Mo_lay f_Mo_lay_22 f_Mo_lay_39
      rw [sv_if_f a0, sv_if_f a3, sv_if_f a1, sv_if_f a2, mo_slot, pz_b, pz_if1, if_pos hg, sv_if_t rfl]
  · refine R_o (v := -1000000001) (σ1 := σ) (σ2 := σ) (by unfold f_On_lay; rw [on_slot, pz_b, pz_if1, if_neg hg]) ?_ h
    have N : ∀ u, f_Mo_lay_39 x y w u σ = some ((-1000000001 : Int32), σ) := fun u => by
      unfold f_Mo_lay_39
      rw [mo_slot, pz_b, pz_if1, if_neg hg]
    have N2 : f_Mo_lay_22 x y w σ = some ((-1000000001 : Int32), σ) := by
      unfold f_Mo_lay_22
      rw [N, mo_sheet', pz_b, pz_if1, N, N]
      by_cases c : y = 2
      · rw [sv_if_t c]
        split <;> rfl
      · rw [sv_if_f c]
    unfold f_Mo_lay
    rw [N, mo_dr (n := n) hV.1.1 ok.1, pz_b, pz_if1, N2, N]
    by_cases c0 : y = 0
    · rw [sv_if_t c0]
    · rw [sv_if_f c0]
      by_cases c3 : y = 3
      · rw [sv_if_t c3]
      · rw [sv_if_f c3]
        by_cases c1 : y = 1
        · rw [sv_if_t c1]
          split <;> rfl
        · rw [sv_if_f c1]
