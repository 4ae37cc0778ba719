/-! ===== pure: sheets ===== -/
theorem R_all4 {σ τ : sv_S} (h : R_A σ) (hc : ∀ r, r = 0 ∨ r = 1 ∨ r = 4 ∨ r = 5 ∨ r = 18 ∨ r = 19 ∨ r = 22 → r ≠ 0 → τ r = σ r) (h2 : ∀ i, i < 20 → τ 2 i = σ 2 i) (h03 : τ 0 0 3 = σ 0 0 3) (h30 : τ 30 0 3 = σ 30 0 3) (hs : τ 31 0 = σ 31 0) (hi : τ 31 1 = σ 31 1) : R_L τ ∧ R_G τ := by
  obtain ⟨⟨n, nt, b, m, z, d, T, hC, hV, ok⟩, hX⟩ := h
  refine ⟨⟨n, nt, b, m, z, d, T, hC.to ok.1 (by rw [hc 1 (by omega) (by omega)]) (fun i _ _ => h2 i (by omega)) (by rw [hc 4 (by omega) (by omega)]) (by rw [hc 5 (by omega) (by omega)]) (hc 18 (by omega) (by omega)) (hc 19 (by omega) (by omega)) (hc 22 (by omega) (by omega)), by rw [hs]; exact hV, ok⟩, by rw [h30, h03]; exact hX.1.1, ?_⟩
  rw [h03]
  rcases hX.1.2 with e | ⟨e, hi'⟩
  · exact Or.inl e
  · exact Or.inr ⟨e, hi'.to (by rw [hc 1 (by omega) (by omega)]) (fun i _ _ => h2 i (by omega)) (by rw [hc 4 (by omega) (by omega)]) (by rw [hc 5 (by omega) (by omega)]) (hc 18 (by omega) (by omega)) (hc 19 (by omega) (by omega)) (hc 22 (by omega) (by omega)) hi⟩
theorem R_H.A {σ τ : sv_S} (hH : R_H τ) (h : R_A σ) (e : ∀ r i, ¬ ((r = 12 ∨ r = 13) ∧ i < 4) → ¬ (r = 31 ∧ (i = 4 ∨ i = 5 ∨ i = 6 ∨ i = 30)) → τ r i = σ r i) : R_A τ := by
  obtain ⟨a1, a2⟩ := R_all4 h (τ := τ) (fun r _ _ => funext fun i => e r i (by omega) (by omega)) (fun i _ => e 2 i (by omega) (by omega)) (by rw [e 0 0 (by omega) (by omega)]) (by rw [e 30 0 (by omega) (by omega)]) (e 31 0 (by omega) (by omega)) (e 31 1 (by omega) (by omega))
  obtain ⟨-, -, hp, -, hs, hw⟩ := h
  refine ⟨a1, a2, ?_, hH, fun s hs5 => ?_, ?_⟩
  · unfold R_P at *; rw [e 8 0 (by omega) (by omega), e 9 0 (by omega) (by omega), e 30 0 (by omega) (by omega), e 31 16 (by omega) (by omega)]; exact hp
  · rw [e 14 0 (by omega) (by omega), e 15 0 (by omega) (by omega), e 12 (4 + s) (by omega) (by omega), e 13 (4 + s) (by omega) (by omega), e 2 (30 + s) (by omega) (by omega), e 31 7 (by omega) (by omega), e 31 8 (by omega) (by omega), e 31 9 (by omega) (by omega), e 31 10 (by omega) (by omega), e 31 11 (by omega) (by omega)]; exact hs s hs5
  · unfold R_W at *; rw [e 0 0 (by omega) (by omega), e 16 0 (by omega) (by omega), e 30 0 (by omega) (by omega), e 31 31 (by omega) (by omega)]; exact hw
/-- one sheet is another -/
theorem R_H.one {σ τ : sv_S} (h : R_H σ) {s : Nat} (hs : s < 4) (e12 : ∀ i, i < 4 → i ≠ s → τ 12 i = σ 12 i) (e13 : ∀ i, i < 4 → i ≠ s → τ 13 i = σ 13 i) (e4 : ∀ i, i ≠ s → τ 31 4 i = σ 31 4 i) (e5 : ∀ i, i ≠ s → τ 31 5 i = σ 31 5 i) (e6 : ∀ j, (j < 24 * s ∨ 24 * s + 24 ≤ j) → τ 31 6 j = σ 31 6 j) (hn : τ 31 4 s = τ 12 s 0 ∧ (τ 12 s 0 = -1 ∨ τ 12 s 0 = 0 ∨ τ 12 s 0 = 1) ∧ (∃ k : Nat, k ≤ 24 ∧ τ 12 s 1 = nI k ∧ τ 31 5 s = nI k) ∧ (∀ i, i < 24 → τ 31 6 (24 * s + i) = τ 13 s i) ∧ ∀ i, i < 24 → τ 13 s i = -1000000005 ∨ -99999 ≤ (τ 13 s i).toInt ∧ (τ 13 s i).toInt ≤ 99999) : R_H τ := by
  intro u hu
  by_cases e : u = s
  · subst e; exact hn
  · obtain ⟨g1, g2, g3, g4, g5⟩ := h u hu
    rw [e12 u hu e, e13 u hu e, e4 u e, e5 u e]
    exact ⟨g1, g2, g3, fun i hi => by rw [e6 _ (by omega)]; exact g4 i hi, g5⟩
theorem cl_fill {s : Nat} {x : Int32} : ∀ (r k fuel : Nat) (σ : sv_S), k + r = 24 → r < fuel → (∀ j, j < k → σ 13 s j = x) → ∃ σ', f_Ja_fill_5 fuel s x (nI k) (nI 24) σ = some σ' ∧ (∀ j, j < 24 → σ' 13 s j = x) ∧ ∀ r i, ¬ (r = 13 ∧ i = s) → σ' r i = σ r i := by
  intro r
  induction r with
  | zero =>
    intro k fuel σ hk hf hz
    obtain ⟨f, rfl⟩ : ∃ f, fuel = f + 1 := ⟨fuel - 1, by omega⟩
    have hk : k = 24 := by omega
    subst hk
    exact ⟨σ, by rw [f_Ja_fill_5, sv_if_t (nI_le (Nat.le_refl 24) (by omega))], hz, fun _ _ _ => rfl⟩
  | succ r ih =>
    intro k fuel σ hk hf hz
    obtain ⟨f, rfl⟩ : ∃ f, fuel = f + 1 := ⟨fuel - 1, by omega⟩
    rw [f_Ja_fill_5, sv_if_f (nI_ge (by omega) (by omega)), pz_in (by omega) (by omega), pz_cl (by omega), nI_1]
    obtain ⟨σ', y1, y2, y3⟩ := ih (k + 1) f (sv_up σ 13 s k x) (by omega) (by omega) (fun j hj => by
      by_cases e : j = k
      · subst e; rw [pz_us]
      · rw [pz_uk e]; exact hz j (by omega))
    exact ⟨σ', y1, y2, fun r i h => by rw [y3 r i h, pz_up h]⟩
theorem mo_sheet69 {s : Nat} (hs : s < 4) : ∀ (r k fuel : Nat) (σ : sv_S), k + r = 24 → r < fuel → (∀ j, j < k → σ 31 6 (24 * s + j) = 0) → ∃ σ', f_Mo_sheet_69 fuel (nI s) (nI k) σ = some (σ 31 5 s, σ') ∧ (∀ j, j < 24 → σ' 31 6 (24 * s + j) = 0) ∧ (∀ j, (j < 24 * s ∨ 24 * s + 24 ≤ j) → σ' 31 6 j = σ 31 6 j) ∧ ∀ r i, ¬ (r = 31 ∧ i = 6) → σ' r i = σ r i := by
  intro r
  induction r with
  | zero =>
    intro k fuel σ hk hf hz
    obtain ⟨f, rfl⟩ : ∃ f, fuel = f + 1 := ⟨fuel - 1, by omega⟩
    have hk : k = 24 := by omega
    subst hk
    exact ⟨σ, by rw [f_Mo_sheet_69, sv_if_t (show (24 : Int32) ≤ nI 24 by decide), pz_in hs (by omega), pz_cl (by omega)], hz, fun _ _ => rfl, fun _ _ _ => rfl⟩
  | succ r ih =>
    intro k fuel σ hk hf hz
    obtain ⟨f, rfl⟩ : ∃ f, fuel = f + 1 := ⟨fuel - 1, by omega⟩
    rw [f_Mo_sheet_69, sv_if_f (show ¬ (24 : Int32) ≤ nI k from nI_ge (b := 24) (by omega) (by omega)), mo_ix24, pz_in (by omega) (by omega), pz_cl (by omega), nI_1]
    obtain ⟨σ', y1, y2, y3, y4⟩ := ih (k + 1) f (sv_up σ 31 6 (24 * s + k) 0) (by omega) (by omega) (fun j hj => by
      by_cases e : j = k
      · subst e; rw [pz_us]
      · rw [pz_uk (by omega)]; exact hz j (by omega))
    rw [pz_ui (by decide)] at y1
    exact ⟨σ', y1, y2, fun j hj => by rw [y3 j hj, pz_uk (by omega)], fun r i h => by rw [y4 r i h, pz_up h]⟩
theorem R_sheet (x y w : Int32) : R_m (f_On_sheet x y w) (f_Mo_sheet x y w) := by
  intro σ h
  have hX := h.2
  by_cases hg : 0 ≤ x.toInt ∧ x.toInt ≤ 3
  · by_cases hy : -1 ≤ y.toInt ∧ y.toInt ≤ 1
    · obtain ⟨s, rfl, hs, hs2⟩ := pz_nat hg.1
      have hs4 : s < 4 := by omega
      have e4 : 4 * 0 + s = s := by omega
      have em : (-1 : Int32).toInt = -1 := rfl
      have e0 : (0 : Int32).toInt = 0 := rfl
      have e1 : (1 : Int32).toInt = 1 := rfl
      -- what is written, for a size k
      have W : ∀ k : Nat, k ≤ 24 → ∃ σ1 σ2, f_On_sheet_29 (nI s) y (nI k) σ = some (nI k, σ1) ∧ (∀ v, v = nI k → (sv_g (sv_in (nI s) 4) (f_Mo_sheet_69 sv_fu (nI s) (0 : Int32) (sv_up (sv_up σ1 31 4 ((nI s).toNatClampNeg) y) 31 5 ((nI s).toNatClampNeg) v))) = some (nI k, σ2)) ∧ R_A σ2 := by
        intro k hk
        obtain ⟨τ, g1, g2, g3⟩ := cl_fill (s := s) (x := 0) 24 0 sv_fu (sv_up (sv_up σ 12 s 0 y) 12 s 1 (nI k)) rfl (by decide) (fun j hj => absurd hj (Nat.not_lt_zero j))
        obtain ⟨υ, u1, u2, u3, u4⟩ := mo_sheet69 hs4 24 0 sv_fu (sv_up (sv_up τ 31 4 s y) 31 5 s (nI k)) rfl (by decide) (fun j hj => absurd hj (Nat.not_lt_zero j))
        rw [pz_us] at u1
        have o12 : τ 12 s 0 = y ∧ τ 12 s 1 = nI k := by
          rw [g3 12 s (by omega)]
          exact ⟨by rw [pz_uk (by decide), pz_us], pz_us _ _ _ _ _⟩
        have oth : ∀ r i, ¬ (r = 12 ∧ i = s) → ¬ (r = 13 ∧ i = s) → τ r i = σ r i := fun r i a b => by rw [g3 r i b, pz_up a, pz_up a]
        have oth2 : ∀ r i, ¬ (r = 31 ∧ (i = 4 ∨ i = 5 ∨ i = 6)) → υ r i = τ r i := fun r i a => by rw [u4 r i (by omega), pz_up (by omega), pz_up (by omega)]
        refine ⟨τ, υ, ?_, fun v hv => ?_, R_H.A (σ := σ) ?_ h (fun r i a b => by rw [oth2 r i (by omega), oth r i (by omega) (by omega)])⟩
        · unfold f_On_sheet_29 f_Sh_begin f_Ja_fill
          dsimp only
          rw [sv_if_t (show nI k ≤ (24 : Int32) from nI_le (b := 24) hk (by omega)), sv_if_t (nI_pos' (by omega)), pz_in hs4 (by omega), pz_cl (by omega), e4, show f_Ja_fill_5 sv_fu s (0 : Int32) (0 : Int32) (nI 24) _ = some τ from g1, pz_b0, pz_b0]
        · rw [hv, pz_in hs4 (by omega), pz_cl (by omega)]
          exact u1
        · refine R_H.one hX.2.2.1 hs4 (fun i _ hi => by rw [oth2 12 i (by omega), oth 12 i (by omega) (by omega)]) (fun i _ hi => by rw [oth2 13 i (by omega), oth 13 i (by omega) (by omega)]) (fun i hi => ?_) (fun i hi => ?_) (fun j hj => ?_) ⟨?_, ?_, ⟨k, hk, ?_, ?_⟩, fun i hi => ?_, fun i hi => ?_⟩
          · rw [u4 31 4 (by omega), pz_ui (by decide), pz_uk hi, oth 31 4 (by omega) (by omega)]
          · rw [u4 31 5 (by omega), pz_uk hi, pz_ui (by decide), oth 31 5 (by omega) (by omega)]
          · rw [u3 j hj, pz_ui (by decide), pz_ui (by decide), oth 31 6 (by omega) (by omega)]
          · rw [u4 31 4 (by omega), pz_ui (by decide), pz_us, oth2 12 s (by omega), o12.1]
          · rw [oth2 12 s (by omega), o12.1, pz_eq, pz_eq, pz_eq, em, e0, e1]; omega
          · rw [oth2 12 s (by omega)]; exact o12.2
          · rw [u4 31 5 (by omega), pz_us]
          · rw [u2 i hi, oth2 13 s (by omega), g2 i hi]
          · rw [oth2 13 s (by omega), g2 i hi]; exact Or.inr (by rw [e0]; omega)
      have M0 : ∀ τ, f_Mo_sheet (nI s) y w τ = sv_if (y < 0) (f_Mo_sheet_32 (nI s) y w τ) (sv_if (w ≤ (24 : Int32)) (f_Mo_sheet_32 (nI s) y w τ) (some ((-1000000001 : Int32), τ))) := by
        intro τ
        unfold f_Mo_sheet
        rw [mo_sheet', pz_b, pz_if1, if_pos hg, mo_wm1_1, pz_b, pz_if1, if_pos hy]
      by_cases ym : y = -1
      · obtain ⟨σ1, σ2, c1, c2, c3⟩ := W 0 (by omega)
        have yl : y < 0 := by rw [ym]; decide
        have yl2 : ¬ 0 ≤ y := Int32.not_le.mpr yl
        refine R_o (v := nI 0) (σ1 := σ1) (σ2 := σ2) (by unfold f_On_sheet; rw [on_sheet, pz_b, pz_if1, if_pos hg, on_wm1_1, pz_b, pz_if1, if_pos hy, sv_if_t ym]; exact c1) ?_ c3
        rw [M0, sv_if_t yl]
        unfold f_Mo_sheet_32 f_Mo_sheet_44
        rw [sv_if_t yl, pz_in hs4 (by omega), sv_if_f yl2]
        exact c2 0 rfl
      · have yl2 : 0 ≤ y := by rw [pz_eq, em] at ym; rw [pz_le, e0]; omega
        have yl : ¬ y < 0 := Int32.not_lt.mpr yl2
        have C0 : f_On_sheet (nI s) y w σ = f_On_sheet_29 (nI s) y w σ := by
          unfold f_On_sheet
          rw [on_sheet, pz_b, pz_if1, if_pos hg, on_wm1_1, pz_b, pz_if1, if_pos hy, sv_if_f ym]
        have e24 : (24 : Int32).toInt = 24 := rfl
        by_cases h24 : w ≤ 24
        · by_cases hw0 : 0 ≤ w
          · obtain ⟨k, rfl, hk, hk2⟩ := pz_nat (a := w) (by rw [pz_le, e0] at hw0; exact hw0)
            have hk3 : k ≤ 24 := by rw [pz_le, e24] at h24; omega
            obtain ⟨σ1, σ2, c1, c2, c3⟩ := W k hk3
            refine R_o (v := nI k) (σ1 := σ1) (σ2 := σ2) (C0.trans c1) ?_ c3
            rw [M0, sv_if_f yl, sv_if_t h24]
            unfold f_Mo_sheet_32 f_Mo_sheet_44
            rw [sv_if_f yl, sv_if_t hw0, pz_in hs4 (by omega), sv_if_t yl2]
            exact c2 _ rfl
          · refine R_o (σ1 := σ) (σ2 := σ) (v := -1000000014) (by rw [C0]; unfold f_On_sheet_29; rw [sv_if_t h24, sv_if_f hw0]) ?_ h
            rw [M0, sv_if_f yl, sv_if_t h24]
            unfold f_Mo_sheet_32
            rw [sv_if_f yl, sv_if_f hw0]
        · exact R_o (σ1 := σ) (σ2 := σ) (v := -1000000001) (by rw [C0]; unfold f_On_sheet_29; rw [sv_if_f h24]) (by rw [M0, sv_if_f yl, sv_if_f h24]) h
    · exact R_o (σ1 := σ) (by unfold f_On_sheet; rw [on_sheet, pz_b, pz_if1, if_pos hg, on_wm1_1, pz_b, pz_if1, if_neg hy]) (by unfold f_Mo_sheet; rw [mo_sheet', pz_b, pz_if1, if_pos hg, mo_wm1_1, pz_b, pz_if1, if_neg hy]) h
  · exact R_o (σ1 := σ) (by unfold f_On_sheet; rw [on_sheet, pz_b, pz_if1, if_neg hg]) (by unfold f_Mo_sheet; rw [mo_sheet', pz_b, pz_if1, if_neg hg]) h
theorem sh_place {σ : sv_S} {s S : Nat} (hS : S ≤ 24) (h1 : σ 12 s 1 = nI S) (a : Int32) : f_Sh_hasPlace s a σ = some (if 0 ≤ a.toInt ∧ a.toInt ≤ (S : Int) - 1 then 1 else 0, σ) := by
  unfold f_Sh_hasPlace
  have e : (0 : Int32).toInt = 0 := rfl
  by_cases g : a < 0
  · rw [sv_if_t g, pz_01, if_neg (fun q => by rw [pz_lt] at g; omega)]
  · rw [sv_if_f g, h1]
    rw [pz_lt] at g
    have en : (nI S).toInt = S := pz_ti (by omega)
    by_cases h2 : nI S ≤ a
    · rw [sv_if_t h2, pz_01, if_neg (fun q => by rw [pz_le] at h2; omega)]
    · rw [sv_if_f h2, pz_11, if_pos (by rw [pz_le] at h2; omega)]
theorem mo_place {S : Nat} (hS : S ≤ 24) (a : Int32) (τ : sv_S) : f_Mo_isIn a.toInt64 (0 : Int64) ((nI S - (1 : Int32)).toInt64) τ = some (if 0 ≤ a.toInt ∧ a.toInt ≤ (S : Int) - 1 then 1 else 0, τ) := mo_w a 0 ((S : Int) - 1) rfl (by rw [Int32.toInt_toInt64, pz_m1 (by omega)]) τ
theorem pz_short (v : Int32) : (v <<< ((16 : Int32) &&& 31)) >>> ((16 : Int32) &&& 31) = v.toInt16.toInt32 := by
  apply b_ext
  intro i hi
  rw [show (v <<< ((16 : Int32) &&& 31)) >>> ((16 : Int32) &&& 31) = (v <<< (nI 16 &&& 31)) >>> (nI 16 &&& 31) from rfl, b_sshr 16 (by omega) _ hi]
  have R : bt v.toInt16.toInt32 i = if i < 16 then bt v i else bt v 15 := by
    show ((v.toBitVec.signExtend 16).signExtend 32).getLsbD i = if i < 16 then v.toBitVec.getLsbD i else v.toBitVec.getLsbD 15
    rw [BitVec.getLsbD_signExtend]
    by_cases h : i < 16
    · rw [if_pos h, if_pos h, BitVec.getLsbD_signExtend]
      simp [hi, h, show i < 32 by omega]
    · rw [if_neg h, if_neg h, BitVec.msb_eq_getLsbD_last, BitVec.getLsbD_signExtend]
      simp [hi]
  rw [R]
  by_cases h : i < 16
  · rw [if_pos (by omega), if_pos h, b_shl 16 (by omega) _ (by omega)]
    simp
  · rw [if_neg (by omega), if_neg h, b_shl 16 (by omega) _ (by omega)]
    simp
theorem pz_short_r (v : Int32) : -99999 ≤ v.toInt16.toInt32.toInt ∧ v.toInt16.toInt32.toInt ≤ 99999 := by
  rw [Int16.toInt_toInt32]
  have h1 := Int16.toInt_lt v.toInt16
  have h2 := Int16.le_toInt v.toInt16
  omega
theorem R_mark (x y w : Int32) : R_m (f_On_mark x y w) (f_Mo_mark x y w) := by
  intro σ h
  have hX := h.2
  by_cases hg : 0 ≤ x.toInt ∧ x.toInt ≤ 3
  · obtain ⟨s, rfl, hs, hs2⟩ := pz_nat hg.1
    have hs4 : s < 4 := by omega
    have e4 : 4 * 0 + s = s := by omega
    obtain ⟨H1, H2, ⟨S, hS, H3, H4⟩, H5, H6⟩ := hX.2.2.1 s hs4
    by_cases hm : σ 12 s 0 = -1
    · exact R_o (σ1 := σ) (σ2 := σ) (by unfold f_On_mark f_Sh_isMissing; rw [on_sheet, pz_b, pz_if1, if_pos hg, pz_in (by omega) (by omega), pz_cl (by omega), e4, sv_if_t hm, pz_11, pz_b, sv_if_f (by decide)]) (by unfold f_Mo_mark; rw [mo_sheet', pz_b, pz_if1, if_pos hg, pz_in (by omega) (by omega), pz_cl (by omega), H1, hm, sv_if_f (by decide)]) h
    · have hm2 : 0 ≤ σ 12 s 0 := by
        rcases H2 with e | e | e
        · exact absurd e hm
        · rw [e]; decide
        · rw [e]; decide
      by_cases hy : 0 ≤ y.toInt ∧ y.toInt ≤ (S : Int) - 1
      · obtain ⟨k, rfl, hk, hk2⟩ := pz_nat hy.1
        have hkS : k < S := by omega
        -- a number is written
        have W : ∀ v : Int32, (v = -1000000005 ∨ -99999 ≤ v.toInt ∧ v.toInt ≤ 99999) → R_A (sv_up (sv_up σ 13 s k v) 31 6 (24 * s + k) v) := by
          intro v hv
          refine R_H.A (σ := σ) (R_H.one hX.2.2.1 hs4 (fun i _ _ => by rw [pz_up (by omega), pz_up (by omega)]) (fun i _ hi => by rw [pz_up (by omega), pz_up (by omega)]) (fun i _ => by rw [pz_ui (by decide), pz_ur (by decide)]) (fun i _ => by rw [pz_ui (by decide), pz_ur (by decide)]) (fun j hj => by rw [pz_uk (by omega), pz_ur (by decide)]) ⟨?_, ?_, ⟨S, hS, ?_, ?_⟩, fun i hi => ?_, fun i hi => ?_⟩) h (fun r i a b => by rw [pz_up (by omega), pz_up (by omega)])
          · rw [pz_ui (by decide), pz_ur (by decide), pz_ur (by decide), pz_ur (by decide)]; exact H1
          · rw [pz_ur (by decide), pz_ur (by decide)]; exact H2
          · rw [pz_ur (by decide), pz_ur (by decide)]; exact H3
          · rw [pz_ui (by decide), pz_ur (by decide)]; exact H4
          · by_cases e : i = k
            · subst e; rw [pz_us, pz_ur (by decide), pz_us]
            · rw [pz_uk (by omega), pz_ur (by decide), pz_ur (by decide), pz_uk e]; exact H5 i hi
          · rw [pz_ur (by decide)]
            by_cases e : i = k
            · subst e; rw [pz_us]; exact hv
            · rw [pz_uk e]; exact H6 i hi
        have CB : ∀ A, f_On_mark (nI s) (nI k) w σ = A ↔ sv_if (σ 12 s 0 = 0) (sv_if (w = -1000000005) (some ((-1000000012 : Int32), σ)) (some ((1 : Int32), sv_up σ 13 s k (w.toInt16.toInt32)))) (sv_if (w = -1000000005) (some ((1 : Int32), sv_up σ 13 s k w)) (if -99999 ≤ w.toInt ∧ w.toInt ≤ 99999 then some ((1 : Int32), sv_up σ 13 s k w) else some ((-1000000001 : Int32), σ))) = A := by
          intro A
          unfold f_On_mark f_Sh_isMissing f_On_mark_92
          rw [on_sheet, pz_b, pz_if1, if_pos hg, pz_in (by omega) (by omega), pz_cl (k := s) (by omega), e4, sv_if_f hm, pz_01, pz_b, sv_if_t rfl, sh_place hS H3, pz_b, pz_if1, if_pos hy, pz_in (by omega) (by omega), pz_in (by omega) (by omega), pz_cl (k := k) (by omega), on_wm99999_99999, pz_b, pz_if1, pz_in (by omega) (by omega)]
        have MB : ∀ τ, τ 31 4 s = σ 12 s 0 → τ 31 5 s = nI S → f_Mo_mark (nI s) (nI k) w τ = sv_if (σ 12 s 0 = 0) (sv_if (w = -1000000005) (some ((-1000000012 : Int32), τ)) (f_Mo_mark_63 (nI s) (nI k) w τ)) (f_Mo_mark_63 (nI s) (nI k) w τ) := by
          intro τ h4 h5
          unfold f_Mo_mark
          rw [mo_sheet', pz_b, pz_if1, if_pos hg, pz_in (by omega) (by omega), pz_in (by omega) (by omega), pz_cl (by omega), h4, sv_if_t hm2, h5, mo_place hS, pz_b, pz_if1, if_pos hy, pz_in (by omega) (by omega), h4]
        have M96 : ∀ τ v, τ 31 4 s = σ 12 s 0 → (σ 12 s 0 = 0 → v = w.toInt16.toInt32) → (¬ σ 12 s 0 = 0 → v = w) → f_Mo_mark_96 (nI s) (nI k) w τ = some ((1 : Int32), sv_up τ 31 6 (24 * s + k) v) := by
          intro τ v h4 h0 h1
          unfold f_Mo_mark_96
          rw [pz_in (by omega) (by omega), pz_cl (k := s) (by omega), h4, mo_ix24, pz_in (by omega) (by omega), pz_in (by omega) (by omega), pz_cl (by omega), pz_short]
          by_cases e : σ 12 s 0 = 0
          · rw [sv_if_t e, h0 e]
          · rw [sv_if_f e, h1 e]
        have t4 : ∀ v, sv_up σ 13 s k v 31 4 s = σ 12 s 0 := fun v => by rw [pz_ur (by decide)]; exact H1
        have t5 : ∀ v, sv_up σ 13 s k v 31 5 s = nI S := fun v => by rw [pz_ur (by decide)]; exact H4
        by_cases z0 : σ 12 s 0 = 0
        · by_cases wn : w = -1000000005
          · exact R_o (σ1 := σ) (σ2 := σ) ((CB _).mpr (by rw [sv_if_t z0, sv_if_t wn])) (by rw [MB σ H1 H4, sv_if_t z0, sv_if_t wn]) h
          · refine R_o (v := 1) (σ1 := sv_up σ 13 s k w.toInt16.toInt32) (σ2 := _) ((CB _).mpr (by rw [sv_if_t z0, sv_if_f wn])) ?_ (W w.toInt16.toInt32 (Or.inr (pz_short_r w)))
            rw [MB _ (t4 _) (t5 _), sv_if_t z0, sv_if_f wn]
            unfold f_Mo_mark_63
            rw [pz_in (by omega) (by omega), pz_cl (by omega), t4, z0, sv_if_f (by decide)]
            exact M96 _ _ (t4 _) (fun _ => rfl) (fun q => absurd z0 q)
        · have z1 : σ 12 s 0 = 1 := by
            rcases H2 with e | e | e
            · exact absurd e hm
            · exact absurd e z0
            · exact e
          by_cases wn : w = -1000000005
          · refine R_o (v := 1) (σ1 := sv_up σ 13 s k w) (σ2 := _) ((CB _).mpr (by rw [sv_if_f z0, sv_if_t wn])) ?_ (W w (Or.inl wn))
            rw [MB _ (t4 _) (t5 _), sv_if_f z0]
            unfold f_Mo_mark_63
            rw [pz_in (by omega) (by omega), pz_cl (by omega), t4, z1, sv_if_t rfl, sv_if_t wn]
            exact M96 _ _ (t4 _) (fun q => absurd q z0) (fun _ => rfl)
          · by_cases hw : -99999 ≤ w.toInt ∧ w.toInt ≤ 99999
            · refine R_o (v := 1) (σ1 := sv_up σ 13 s k w) (σ2 := _) ((CB _).mpr (by rw [sv_if_f z0, sv_if_f wn, if_pos hw])) ?_ (W w (Or.inr hw))
              rw [MB _ (t4 _) (t5 _), sv_if_f z0]
              unfold f_Mo_mark_63
              rw [pz_in (by omega) (by omega), pz_cl (by omega), t4, z1, sv_if_t rfl, sv_if_f wn, mo_wm99999_99999, pz_b, pz_if1, if_pos hw]
              exact M96 _ _ (t4 _) (fun q => absurd q z0) (fun _ => rfl)
            · refine R_o (v := -1000000001) (σ1 := σ) (σ2 := σ) ((CB _).mpr (by rw [sv_if_f z0, sv_if_f wn, if_neg hw])) ?_ h
              rw [MB σ H1 H4, sv_if_f z0]
              unfold f_Mo_mark_63
              rw [pz_in (by omega) (by omega), pz_cl (by omega), H1, z1, sv_if_t rfl, sv_if_f wn, mo_wm99999_99999, pz_b, pz_if1, if_neg hw]
      · exact R_o (σ1 := σ) (σ2 := σ) (by unfold f_On_mark f_Sh_isMissing; rw [on_sheet, pz_b, pz_if1, if_pos hg, pz_in (by omega) (by omega), pz_cl (by omega), e4, sv_if_f hm, pz_01, pz_b, sv_if_t rfl, sh_place hS H3, pz_b, pz_if1, if_neg hy]) (by unfold f_Mo_mark; rw [mo_sheet', pz_b, pz_if1, if_pos hg, pz_in (by omega) (by omega), pz_in (by omega) (by omega), pz_cl (by omega), H1, sv_if_t hm2, H4, mo_place hS, pz_b, pz_if1, if_neg hy]) h
  · exact R_o (σ1 := σ) (by unfold f_On_mark; rw [on_sheet, pz_b, pz_if1, if_neg hg]) (by unfold f_Mo_mark; rw [mo_sheet', pz_b, pz_if1, if_neg hg]) h
