/-! ===== pure: beats, reads, keep, back, check ===== -/
theorem R_kM.A {σ τ : sv_S} (k : R_kM σ τ) (hs : ∀ j, j < 2886 → τ 31 0 j = σ 31 0 j) (h : R_A σ) : R_A τ := by
  obtain ⟨⟨n, nt, b, m, z, d, T, hC, hV, ok⟩, hX⟩ := h
  have e : ∀ r, r ≠ 30 → r ≠ 31 → τ r = σ r := fun r a b => funext fun i => k.1 r i (fun q => b q.1) (fun q => a q.1)
  exact ⟨⟨n, nt, b, m, z, d, T, hC.to ok.1 (by rw [e 1 (by decide) (by decide)]) (fun i _ _ => by rw [e 2 (by decide) (by decide)]) (by rw [e 4 (by decide) (by decide)]) (by rw [e 5 (by decide) (by decide)]) (e 18 (by decide) (by decide)) (e 19 (by decide) (by decide)) (e 22 (by decide) (by decide)), hV.eq ok.1 ok.2.1 (fun t ht => (ok.2.2.2.2 t ht).2.2.1) hs, ok⟩, hX.M k⟩
section BTS
variable {hr sr : be_F} {n nt : Nat} {m b z : Int32} {d : be_D} {T : Nat → tx_T} {σ0 : sv_S}
theorem cl_pass0 {N : Nat} (hN : N ≤ 100) (hok : be_ok n d) (hn : n ≤ 10) : ∀ (r i fuel : Nat) (σ : sv_S), i + r = N → r < fuel → be_TC hr sr 0 n m b z d σ0 i σ → ∃ σ', f_Li_pass_4 fuel 0 (nI N) (nI (be_su (be_s hr sr n m b z d) n i)) (nI i) σ = some (nI (be_su (be_s hr sr n m b z d) n N), σ') ∧ be_TC hr sr 0 n m b z d σ0 N σ' := by
  intro r
  induction r with
  | zero =>
    intro i fuel σ hi hf hT
    obtain ⟨f, rfl⟩ : ∃ f, fuel = f + 1 := ⟨fuel - 1, by omega⟩
    have hi : i = N := by omega
    subst hi
    exact ⟨σ, by rw [f_Li_pass_4, sv_if_t (nI_le (Nat.le_refl i) (by omega))], hT⟩
  | succ r ih =>
    intro i fuel σ hi hf hT
    obtain ⟨f, rfl⟩ : ∃ f, fuel = f + 1 := ⟨fuel - 1, by omega⟩
    obtain ⟨τ, g1, g2⟩ := hT.go hok (by omega) hn
    obtain ⟨σ', y1, y2⟩ := ih (i + 1) f τ (by omega) (by omega) g2
    refine ⟨σ', ?_, y2⟩
    rw [f_Li_pass_4, sv_if_f (nI_ge (by omega) (by omega)), g1, pz_b, nI_add, nI_1]
    exact y1
theorem mo_beats {X N bb : Nat} (hX : X ≤ 100) (hb : b = nI bb) (hbb : bb ≤ 9999) (hN : N = if X < 9999 - bb then X else 9999 - bb) (hok : be_ok n d) (hn : n ≤ 10) : ∀ (r i fuel : Nat) (σ : sv_S), i + r = N → r < fuel → be_TM hr sr n m b z d σ0 i σ → ∃ σ', f_Mo_beats_19 fuel (nI X) (nI (be_su (be_s hr sr n m b z d) n i)) (nI i) σ = some (nI (be_su (be_s hr sr n m b z d) n N), σ') ∧ be_TM hr sr n m b z d σ0 N σ' := by
  have hNN : N ≤ X ∧ bb + N ≤ 9999 ∧ (N = X ∨ bb + N = 9999) := by rw [hN]; split <;> omega
  intro r
  induction r with
  | zero =>
    intro i fuel σ hi hf hT
    obtain ⟨f, rfl⟩ : ∃ f, fuel = f + 1 := ⟨fuel - 1, by omega⟩
    have hi : i = N := by omega
    subst hi
    refine ⟨σ, ?_, hT⟩
    rw [f_Mo_beats_19]
    by_cases e : X ≤ i
    · rw [sv_if_t (nI_le e (by omega))]
    · rw [sv_if_f (nI_ge (by omega) (by omega)), sv_g_t ⟨by decide, by decide⟩, show σ 31 0 ((3 : Int32).toNatClampNeg) = nI (bb + i) by rw [← nI_add, ← hb]; exact hT.1.2.1, sv_if_t (show (9999 : Int32) ≤ nI (bb + i) from nI_le (a := 9999) (by omega) (by omega))]
  | succ r ih =>
    intro i fuel σ hi hf hT
    obtain ⟨f, rfl⟩ : ∃ f, fuel = f + 1 := ⟨fuel - 1, by omega⟩
    obtain ⟨τ, g1, g2, g3⟩ := hT.go hok hn
    obtain ⟨σ', y1, y2⟩ := ih (i + 1) f τ (by omega) (by omega) g2
    refine ⟨σ', ?_, y2⟩
    rw [f_Mo_beats_19, sv_if_f (nI_ge (by omega) (by omega)), sv_g_t ⟨by decide, by decide⟩, show σ 31 0 ((3 : Int32).toNatClampNeg) = nI (bb + i) by rw [← nI_add, ← hb]; exact hT.1.2.1, sv_if_f (show ¬ (9999 : Int32) ≤ nI (bb + i) from nI_ge (b := 9999) (by omega) (by omega)), g1, pz_b, be_ones _ hn, pz_b, nI_add, nI_1]
    exact y1
end BTS
theorem be_TC00 {σ : sv_S} {n nt : Nat} {b m z : Int32} {d : be_D} {T : Nat → tx_T} (ok : li_ok n nt b d T) (hC : li_C σ 0 n nt b m z d T) : be_TC (li_f T 0 nt) (li_f T 1 nt) 0 n m b z d σ 0 σ := by
  refine ⟨?_, li_LC hC ok (by omega), li_LC hC ok (by omega), be_fC.rfl' 0 σ, rfl⟩
  show be_C σ 0 n (b + nI 0) m z d
  rw [nI_0, Int32.add_zero]
  exact hC.1
theorem be_TC.li {σ σ0 : sv_S} {hr sr : be_F} {n nt a i : Nat} {b m z : Int32} {d : be_D} {T : Nat → tx_T} (h : be_TC hr sr a n m b z d σ0 i σ) (hC : li_C σ0 a n nt b m z d T) : li_C σ a n nt (b + nI i) m (be_it hr sr n m b z d i).1 (be_it hr sr n m b z d i).2 T := by
  obtain ⟨h1, -, -, h4, h5⟩ := h
  obtain ⟨-, g6, g7, g8⟩ := hC
  have e : ∀ r i, r ≠ 20 → r ≠ 1 → r ≠ 2 → σ r i = σ0 r i := fun r i a b c => h4 r i a (fun q => c q.1) (fun q => b q.1)
  refine ⟨h1, h5.trans g6, fun t ht => ?_, fun q hq => by rw [e 5 a (by decide) (by decide) (by decide)]; exact g8 q hq⟩
  obtain ⟨id, y1, y2⟩ := g7 t ht
  refine ⟨id, by rw [e 4 a (by decide) (by decide) (by decide)]; exact y1, ?_⟩
  unfold li_tC sv_ct at *
  rw [e 22 0 (by decide) (by decide) (by decide), e 18 id (by decide) (by decide) (by decide), e 19 id (by decide) (by decide) (by decide)]
  exact y2
theorem be_TM.li {σ σ0 : sv_S} {hr sr : be_F} {n nt i : Nat} {b m z : Int32} {d : be_D} {T : Nat → tx_T} (h : be_TM hr sr n m b z d σ0 i σ) (hV : li_V (σ0 31 0) n nt b m z d T) : li_V (σ 31 0) n nt (b + nI i) m (be_it hr sr n m b z d i).1 (be_it hr sr n m b z d i).2 T := by
  obtain ⟨h1, -, -, -, h5, h6, -⟩ := h
  obtain ⟨-, g6, g7⟩ := hV
  refine ⟨h1, h6.trans g6, fun t ht => ?_⟩
  obtain ⟨v1, v2, v3, v4⟩ := g7 t ht
  exact ⟨(h5 _ (by omega)).trans v1, (h5 _ (by omega)).trans v2, (h5 _ (by omega)).trans v3, fun j hj => ⟨(h5 _ (by omega)).trans (v4 j hj).1, (h5 _ (by omega)).trans (v4 j hj).2⟩⟩
theorem be_fT.k {σ τ : sv_S} (h : be_fT σ τ) : R_kM σ τ := ⟨fun r i a b => h.1 r i (fun q => a ⟨q.1, by omega⟩) b, h.2.2.2⟩
theorem R_beats (x : Int32) : R_m (f_On_beats x) (f_Mo_beats x) := by
  intro σ h
  obtain ⟨⟨n, nt, b, m, z, d, T, hC, hV, ok⟩, hX⟩ := id h
  have hn := ok.1
  by_cases hg : 1 ≤ x.toInt ∧ x.toInt ≤ 100
  · obtain ⟨X, rfl, hX1, hX2⟩ := pz_nat (a := x) (by omega)
    obtain ⟨bb, hbb, hb⟩ := ok.2.2.2.1
    generalize hc : (if X < 9999 - bb then X else 9999 - bb) = c
    have hcc : c ≤ X ∧ bb + c ≤ 9999 := by rw [← hc]; split <;> omega
    obtain ⟨τ, g1, g2⟩ := cl_pass0 (N := c) (by omega) ok.2.2.1 hn c 0 sv_fu σ (by omega) (by unfold sv_fu; omega) (be_TC00 ok hC)
    have e31 : τ 31 = σ 31 := funext fun i => g2.2.2.2.1 31 i (by decide) (by omega) (by omega)
    have hVτ : li_V (τ 31 0) n nt b m z d T := by rw [e31]; exact hV
    obtain ⟨υ, y1, y2⟩ := mo_beats (X := X) (N := c) (by omega) hb hbb hc.symm ok.2.2.1 hn c 0 sv_fu τ (by omega) (by unfold sv_fu; omega) (be_TM0 ok hVτ)
    refine R_o (σ1 := τ) (σ2 := υ) ?_ (by unfold f_Mo_beats; rw [mo_w1_100, pz_b, pz_if1, if_pos hg]; exact y1) (R_two hX (fun r i h20 _ h2 _ h1 => g2.2.2.2.1 r i h20 (fun q => h2 ⟨q.1, by omega⟩) (fun q => h1 ⟨Or.inl q.1, Or.inl q.2⟩)) y2.2.2.2.k (g2.li hC) (y2.li hVτ) ⟨hn, ok.2.1, be_ok_it ok.2.2.1 c, ⟨bb + c, by omega, by rw [hb, nI_add]⟩, ok.2.2.2.2⟩)
    unfold f_On_beats f_Jm_min
    rw [on_w1_100, pz_b, pz_if1, if_pos hg, hC.1.2.1, pz_b, hb, show (9999 : Int32) - nI bb = nI (9999 - bb) from pk_sub (a := 9999) hbb]
    have em : (if nI (9999 - bb) < nI X then nI (9999 - bb) else nI X) = nI c := by
      by_cases e : 9999 - bb < X
      · rw [if_pos (nI_lt e (by omega)), ← hc, if_neg (by omega)]
      · rw [if_neg (nI_nlt (by omega) (by omega)), ← hc]
        by_cases e2 : X < 9999 - bb
        · rw [if_pos e2]
        · rw [if_neg e2]; congr 1; omega
    rw [em]
    unfold f_Li_pass
    rw [show f_Li_pass_4 sv_fu 0 (nI c) (0 : Int32) (0 : Int32) σ = _ from g1, pz_b]
    rw [hb]
  · exact R_o (σ1 := σ) (by unfold f_On_beats; rw [on_w1_100, pz_b, pz_if1, if_neg hg]) (by unfold f_Mo_beats; rw [mo_w1_100, pz_b, pz_if1, if_neg hg]) h
/-! a sheet's places -/
theorem sh_has {σ : sv_S} {s S i : Nat} (hS : S ≤ 24) (h1 : σ 12 s 1 = nI S) (hi : i < S) : f_Sh_hasNumber s (nI i) σ = some (if σ 13 s i = -1000000005 then 0 else 1, σ) := by
  unfold f_Sh_hasNumber f_Sh_hasPlace
  rw [sv_if_f (nI_pos (by omega)), h1, sv_if_f (nI_ge hi (by omega)), pz_11, pz_b, sv_if_f (by decide), pz_in (by omega) (by omega), pz_cl (by omega)]
  by_cases e : σ 13 s i = -1000000005
  · rw [sv_if_t e, pz_01, if_pos e]
  · rw [sv_if_f e, pz_11, if_neg e]
def rd_o (P c : Nat → Int32) : Nat → Nat → Option Nat
  | 0, _ => none
  | r + 1, i => if P i = -1000000005 ∨ P i = c i then rd_o P c r (i + 1) else some i
theorem rd_r (P c : Nat → Int32) : ∀ r i k, rd_o P c r i = some k → k < i + r := by
  intro r
  induction r with
  | zero => intro i k h; cases h
  | succ r ih =>
    intro i k h
    simp only [rd_o] at h
    split at h
    · have := ih (i + 1) k h; omega
    · cases h; omega
theorem rd_congr {P c c' : Nat → Int32} (h : ∀ i, c i = c' i) : ∀ r i, rd_o P c r i = rd_o P c' r i := by
  intro r
  induction r with
  | zero => intro i; rfl
  | succ r ih => intro i; simp only [rd_o]; rw [h i, ih]
section RDS
variable {hr sr : be_F} {n nt : Nat} {m b z : Int32} {d e : be_D} {T : Nat → tx_T} {σ0 : sv_S}
theorem cl_reads {s S k : Nat} {P : Nat → Int32} (hS : S ≤ 24) (hk : k < n) (hok : be_ok n d) (hq : be_q n e d) (hoe : be_ok n e) (hn : n ≤ 10) (h12 : σ0 12 s 1 = nI S) (h13 : ∀ i, i < 24 → σ0 13 s i = P i) : ∀ (r i fuel : Nat) (σ : sv_S), i + r = S → r < fuel → be_TC hr sr 2 n m b z e σ0 i σ → ∃ σ', f_On_reads_42 fuel (nI k) s (nI i) σ = some (be_op (rd_o P (fun i => (be_it hr sr n m b z d i).2 k 2) r i), σ') ∧ be_fC 2 σ0 σ' := by
  intro r
  induction r with
  | zero =>
    intro i fuel σ hi hf hT
    obtain ⟨f, rfl⟩ : ∃ f, fuel = f + 1 := ⟨fuel - 1, by omega⟩
    have hi : i = S := by omega
    subst hi
    exact ⟨σ, by rw [f_On_reads_42, hT.2.2.2.1 12 s (by decide) (by omega) (by omega), h12, sv_if_t (nI_le (Nat.le_refl i) (by omega))]; rfl, hT.2.2.2.1⟩
  | succ r ih =>
    intro i fuel σ hi hf hT
    obtain ⟨f, rfl⟩ : ∃ f, fuel = f + 1 := ⟨fuel - 1, by omega⟩
    obtain ⟨τ, g1, g2⟩ := hT.go2 hok hq hoe hn
    obtain ⟨σ', y1, y2⟩ := ih (i + 1) f τ (by omega) (by omega) g2
    have e12 : σ 12 s 1 = nI S := by rw [hT.2.2.2.1 12 s (by decide) (by omega) (by omega)]; exact h12
    have e13 : σ 13 s i = P i := by rw [hT.2.2.2.1 13 s (by decide) (by omega) (by omega)]; exact h13 i (by omega)
    have ec : σ 2 (10 * 2 + k) 2 = (be_it hr sr n m b z d i).2 k 2 := by
      rw [show σ 2 (10 * 2 + k) 2 = (be_it hr sr n m b z e i).2 k 2 from hT.1.at hk 2 (by omega)]
      exact (be_q_it hq i).2 k hk 2 (by omega) (by omega) (by omega)
    have H : f_On_reads_85 (f_On_reads_42 f) (nI k) s (nI i) σ = some (be_op (rd_o P (fun i => (be_it hr sr n m b z d i).2 k 2) r (i + 1)), σ') := by
      unfold f_On_reads_85
      rw [g1, pz_b, nI_1]
      exact y1
    rw [f_On_reads_42, e12, sv_if_f (nI_ge (by omega) (by omega)), sh_has hS e12 (by omega), pz_b, e13, H]
    simp only [rd_o]
    by_cases e0 : P i = -1000000005
    · rw [if_pos e0, sv_if_t rfl, if_pos (Or.inl e0)]
      exact ⟨σ', rfl, y2⟩
    · rw [if_neg e0, sv_if_f (by decide), pz_in (by omega) (by omega), pz_cl (by omega), e13, pz_in (by omega) (by omega), pz_cl (by omega), ec]
      by_cases e1 : P i = (be_it hr sr n m b z d i).2 k 2
      · rw [sv_if_t e1, if_pos (Or.inr e1)]
        exact ⟨σ', rfl, y2⟩
      · rw [sv_if_f e1, if_neg (fun q => q.elim e0 e1)]
        exact ⟨σ, rfl, hT.2.2.2.1⟩
theorem mo_ix24 (s i : Nat) : (24 : Int32) * nI s + nI i = nI (24 * s + i) := by
  rw [show (24 : Int32) * nI s + nI i = nI 24 * nI s + nI i from rfl, pk_mul, nI_add]
theorem mo_reads {s S k : Nat} {P : Nat → Int32} (hs : s < 4) (hS : S ≤ 24) (hk : k < n) (hok : be_ok n d) (hn : n ≤ 10) (h5 : σ0 31 5 s = nI S) (h6 : ∀ i, i < 24 → σ0 31 6 (24 * s + i) = P i) : ∀ (r i fuel : Nat) (σ : sv_S), i + r = S → r + 1 < fuel → be_TM hr sr n m b z d σ0 i σ → ∃ σ', f_Mo_reads_40 fuel (nI s) (nI k) (-1) (nI i) σ = some (be_op (rd_o P (fun i => (be_it hr sr n m b z d i).2 k 2) r i), pz_cp σ' 13 0 86) ∧ be_fT σ0 σ' := by
  intro r
  induction r with
  | zero =>
    intro i fuel σ hi hf hT
    obtain ⟨f, rfl⟩ : ∃ f, fuel = f + 1 := ⟨fuel - 1, by omega⟩
    have hi : i = S := by omega
    subst hi
    refine ⟨σ, ?_, hT.2.2.2⟩
    have e5 : σ 31 5 s = nI i := by rw [hT.2.2.2.1 31 5 (by omega) (by omega)]; exact h5
    rw [f_Mo_reads_40, pz_in hs (by omega), pz_cl (by omega), e5, sv_if_t (nI_le (Nat.le_refl i) (by omega))]
    unfold f_Mo_reads_106 f_Mo_orNone
    rw [mo_laysBack, pz_b0, sv_if_f (by decide), pz_b]; rfl
  | succ r ih =>
    intro i fuel σ hi hf hT
    obtain ⟨f, rfl⟩ : ∃ f, fuel = f + 1 := ⟨fuel - 1, by omega⟩
    obtain ⟨τ, g1, g2, g3⟩ := hT.go hok hn
    obtain ⟨σ', y1, y2⟩ := ih (i + 1) f τ (by omega) (by omega) g2
    have e5 : σ 31 5 s = nI S := by rw [hT.2.2.2.1 31 5 (by omega) (by omega)]; exact h5
    have e6 : σ 31 6 (24 * s + i) = P i := by rw [hT.2.2.2.1 31 6 (by omega) (by omega)]; exact h6 i (by omega)
    have H : ∀ y, f_Mo_reads_93 (f_Mo_reads_40 f) (nI s) (nI k) (nI i) y σ = f_Mo_reads_40 f (nI s) (nI k) y (nI (i + 1)) τ := by
      intro y
      unfold f_Mo_reads_93
      rw [g1, pz_b, nI_1]
    rw [f_Mo_reads_40, pz_in hs (by omega), pz_cl (by omega), e5, sv_if_f (nI_ge (by omega) (by omega)), sv_if_f (by decide), mo_ix24, pz_in (by omega) (by omega), pz_cl (by omega), e6, H, mo_of2 (by omega), pz_b, hT.1.at hk 2 (by omega), H, H]
    simp only [rd_o]
    by_cases e0 : P i = -1000000005
    · rw [sv_if_t e0, if_pos (Or.inl e0)]
      exact ⟨σ', y1, y2⟩
    · rw [sv_if_f e0]
      by_cases e1 : P i = (be_it hr sr n m b z d i).2 k 2
      · rw [sv_if_t e1, if_pos (Or.inr e1)]
        exact ⟨σ', y1, y2⟩
      · rw [sv_if_f e1, if_neg (fun q => q.elim e0 e1)]
        obtain ⟨f2, rfl⟩ : ∃ f2, f = f2 + 1 := ⟨f - 1, by omega⟩
        refine ⟨τ, ?_, g2.2.2.2⟩
        have F : f_Mo_reads_106 (nI i) τ = some (be_op (some i), pz_cp τ 13 0 86) := by
          unfold f_Mo_reads_106 f_Mo_orNone
          rw [mo_laysBack, pz_b0, sv_if_t (nI_pos' (by omega)), pz_b]; rfl
        have e5' : τ 31 5 s = nI S := by rw [g2.2.2.2.1 31 5 (by omega) (by omega)]; exact h5
        rw [f_Mo_reads_40, pz_in hs (by omega), pz_cl (by omega), e5', sv_if_t (c := (0 : Int32) ≤ nI i) (nI_pos' (by omega)), F]
        by_cases e2 : nI S ≤ nI (i + 1)
        · rw [sv_if_t e2]
        · rw [sv_if_f e2]
end RDS
theorem R_reads (x y : Int32) : R_m (f_On_reads x y) (f_Mo_reads x y) := by
  intro σ h
  obtain ⟨⟨n, nt, b, m, z, d, T, hC, hV, ok⟩, hX⟩ := id h
  have hn := ok.1
  by_cases hg : 0 ≤ x.toInt ∧ x.toInt ≤ 3
  · by_cases hy : 0 ≤ y.toInt ∧ y.toInt ≤ (n : Int) - 1
    · obtain ⟨s, rfl, hs, hs2⟩ := pz_nat hg.1
      obtain ⟨k, rfl, hk, hk2⟩ := pz_nat hy.1
      obtain ⟨H1, H2, ⟨S, hS, H3, H4⟩, H5, H6⟩ := hX.2.2.1 s (by omega)
      by_cases hm : σ 12 s 0 = -1
      · refine R_o (σ1 := σ) (σ2 := σ) (by unfold f_On_reads f_Sh_isMissing; rw [on_sheet, pz_b, pz_if1, if_pos hg, on_dr hC.1.1 hn, pz_b, pz_if1, if_pos hy, pz_in (by omega) (by omega), pz_cl (by omega), show σ 12 (4 * 0 + s) 0 = σ 12 s 0 by rw [show 4 * 0 + s = s by omega], sv_if_t hm, pz_11, pz_b, sv_if_f (by decide)]) (by unfold f_Mo_reads; rw [mo_sheet', pz_b, pz_if1, if_pos hg, mo_dr (n := n) hV.1.1 hn, pz_b, pz_if1, if_pos hy, pz_in (by omega) (by omega), pz_cl (by omega), H1, hm, sv_if_f (by decide)]) h
      · have hm2 : 0 ≤ σ 12 s 0 := by
          rcases H2 with e | e | e
          · exact absurd e hm
          · rw [e]; decide
          · rw [e]; decide
        obtain ⟨τ, g1, g2, g3⟩ := cl_think ok hC
        have e4 : 4 * 0 + s = s := by omega
        obtain ⟨υ, y1, y2⟩ := cl_reads (s := s) (S := S) (P := σ 13 s) (k := k) hS (by omega) ok.2.2.1 (be_o_q n d) (be_o_ok ok.2.2.1) hn (by rw [g3 12 s (by decide) (by decide) (by omega) (by omega)]; exact H3) (fun i _ => by rw [g3 13 s (by decide) (by decide) (by omega) (by omega)]) S 0 sv_fu τ (by omega) (by unfold sv_fu; omega) (be_TC0 ok g2)
        have hkk : R_tC σ υ := g3.tr y2.t
        have e31 : υ 31 = σ 31 := funext fun i => hkk 31 i (by decide) (by decide) (by omega) (by omega)
        have hV2 : li_V (pz_cp υ 0 13 86 31 0) n nt b m z d T := by rw [mo_by, e31]; exact hV
        obtain ⟨ω, x1, x2⟩ := mo_reads (s := s) (S := S) (P := σ 13 s) (k := k) (by omega) hS (by omega) ok.2.2.1 hn (by rw [pz_cp_o (by omega), e31]; exact H4) (fun i hi => by rw [pz_cp_o (by omega), e31]; exact H5 i hi) S 0 sv_fu (pz_cp υ 0 13 86) (by omega) (by unfold sv_fu; omega) (be_TM0 ok hV2)
        exact R_o (σ1 := υ) (σ2 := pz_cp ω 13 0 86) (by unfold f_On_reads f_Sh_isMissing; rw [on_sheet, pz_b, pz_if1, if_pos hg, on_dr hC.1.1 hn, pz_b, pz_if1, if_pos hy, pz_in (by omega) (by omega), pz_cl (by omega), e4, sv_if_f hm, pz_01, pz_b, sv_if_t rfl, g1, pz_b0]; exact y1) (by unfold f_Mo_reads; rw [mo_sheet', pz_b, pz_if1, if_pos hg, mo_dr (n := n) (by rw [e31]; exact hV.1.1) hn, pz_b, pz_if1, if_pos hy, pz_in (by omega) (by omega), pz_cl (by omega), e31, H1, sv_if_t hm2, mo_laysBy, pz_b0]; exact x1) ((mo_bk x2).A (hkk.A h))
    · exact R_o (σ1 := σ) (by unfold f_On_reads; rw [on_sheet, pz_b, pz_if1, if_pos hg, on_dr hC.1.1 hn, pz_b, pz_if1, if_neg hy]) (by unfold f_Mo_reads; rw [mo_sheet', pz_b, pz_if1, if_pos hg, mo_dr (n := n) hV.1.1 hn, pz_b, pz_if1, if_neg hy]) h
  · exact R_o (σ1 := σ) (by unfold f_On_reads; rw [on_sheet, pz_b, pz_if1, if_neg hg]) (by unfold f_Mo_reads; rw [mo_sheet', pz_b, pz_if1, if_neg hg]) h
