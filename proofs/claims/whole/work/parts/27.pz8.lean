/-! ===== pure: beats one after another ===== -/
def be_it (hr sr : be_F) (n : Nat) (m b z : Int32) (d : be_D) : Nat → Int32 × be_D
  | 0 => (z, d)
  | i + 1 => (be_z (be_it hr sr n m b z d i).2 (be_it hr sr n m b z d i).1 n, be_d hr sr n m (b + nI i) (be_it hr sr n m b z d i).1 (be_it hr sr n m b z d i).2)
def be_s (hr sr : be_F) (n : Nat) (m b z : Int32) (d : be_D) (i k : Nat) : Bool := be_sk hr sr n m (b + nI i) (be_it hr sr n m b z d i).1 (be_it hr sr n m b z d i).2 k
/-- the same but for strokes -/
def be_q (n : Nat) (d e : be_D) : Prop := ∀ k, k < n → ∀ j, j < 8 → j ≠ 5 → j ≠ 6 → d k j = e k j
section BEI
variable {hr sr : be_F} {n : Nat} {m b z : Int32} {d e : be_D}
theorem be_q_z (h : be_q n d e) : ∀ k, k ≤ n → be_z d z k = be_z e z k := by
  intro k
  induction k with
  | zero => intro _; rfl
  | succ k ih => intro hk; simp only [be_z]; rw [ih (by omega), h k (by omega) 2 (by omega) (by omega) (by omega)]
theorem be_q_ago (h : be_q n d e) {k : Nat} (hk : k < n) (x : Int32) : be_ago d k x = be_ago e k x := by
  unfold be_ago
  rw [h k hk 2 (by omega) (by omega) (by omega), h k hk 3 (by omega) (by omega) (by omega), h k hk 4 (by omega) (by omega) (by omega)]
theorem be_q_lf (h : be_q n d e) {k : Nat} (hk : k < n) : be_lf d k = be_lf e k := by
  unfold be_lf
  by_cases h0 : k = 0
  · rw [if_pos h0, if_pos h0]
  · rw [if_neg h0, if_neg h0, be_q_ago h (by omega), h (k - 1) (by omega) 7 (by omega) (by omega) (by omega)]
theorem be_q_rt (h : be_q n d e) {k : Nat} (hk : k < n) : be_rt n d k = be_rt n e k := by
  unfold be_rt
  by_cases h0 : k + 1 = n
  · rw [if_pos h0, if_pos h0]
  · rw [if_neg h0, if_neg h0, be_q_ago h (by omega), h k hk 7 (by omega) (by omega) (by omega)]
theorem be_q_hr (h : be_q n d e) {k : Nat} (hk : k < n) : be_hr hr n d k = be_hr hr n e k := by
  unfold be_hr
  rw [be_q_lf h hk, be_q_rt h hk, h k hk 0 (by omega) (by omega) (by omega)]
theorem be_q_wk (h : be_q n d e) {k : Nat} (hk : k < n) : be_wk sr b d k = be_wk sr b e k := by
  unfold be_wk be_pl
  rw [h k hk 0 (by omega) (by omega) (by omega), h k hk 1 (by omega) (by omega) (by omega)]
theorem be_q_nc (h : be_q n d e) {k : Nat} (hk : k < n) : be_nc hr sr n m b z d k = be_nc hr sr n m b z e k := by
  unfold be_nc
  rw [be_q_hr h hk, be_q_wk h hk, be_q_z h k (by omega), h k hk 2 (by omega) (by omega) (by omega), h k hk 0 (by omega) (by omega) (by omega)]
theorem be_q_sk (h : be_q n d e) {k : Nat} (hk : k < n) : be_sk hr sr n m b z d k = be_sk hr sr n m b z e k := by
  unfold be_sk
  rw [be_q_nc h hk, h k hk 2 (by omega) (by omega) (by omega)]
theorem be_q_d (h : be_q n d e) : be_q n (be_d hr sr n m b z d) (be_d hr sr n m b z e) := by
  intro k hk j hj h5 h6
  have hj : j = 0 ∨ j = 1 ∨ j = 2 ∨ j = 3 ∨ j = 4 ∨ j = 7 := by omega
  rcases hj with rfl | rfl | rfl | rfl | rfl | rfl
  · rw [be_d_0, be_d_0]; exact h k hk 0 (by omega) (by omega) (by omega)
  · rw [be_d_1, be_d_1]; exact h k hk 1 (by omega) (by omega) (by omega)
  · rw [be_d_2, be_d_2]; exact be_q_nc h hk
  · rw [be_d_3, be_d_3]; exact h k hk 2 (by omega) (by omega) (by omega)
  · rw [be_d_4, be_d_4]; exact h k hk 3 (by omega) (by omega) (by omega)
  · rw [be_d_7, be_d_7]; exact h k hk 7 (by omega) (by omega) (by omega)
theorem be_q_it (h : be_q n d e) : ∀ i, (be_it hr sr n m b z d i).1 = (be_it hr sr n m b z e i).1 ∧ be_q n (be_it hr sr n m b z d i).2 (be_it hr sr n m b z e i).2 := by
  intro i
  induction i with
  | zero => exact ⟨rfl, h⟩
  | succ i ih =>
    refine ⟨?_, ?_⟩
    · show be_z _ _ n = be_z _ _ n
      rw [ih.1]
      exact be_q_z ih.2 n (Nat.le_refl n)
    · show be_q n (be_d _ _ _ _ _ _ _) (be_d _ _ _ _ _ _ _)
      rw [ih.1]
      exact be_q_d ih.2
theorem be_q_s (h : be_q n d e) (i : Nat) {k : Nat} (hk : k < n) : be_s hr sr n m b z d i k = be_s hr sr n m b z e i k := by
  unfold be_s
  rw [(be_q_it h i).1]
  exact be_q_sk (be_q_it h i).2 hk
theorem be_sp9 : ∀ u, u < 10 → 1 ≤ u → ∀ q, q < 6 → (∃ v : Nat, v < 10 ∧ (if nI u = 9 then (0 : Int32) else if nI u = 8 ∧ nI q = 4 then 0 else nI u + 1) = nI v) := by
  intro u hu h1 q hq
  by_cases h9 : u = 9
  · subst h9; exact ⟨0, by omega, by rw [if_pos (by decide)]; rfl⟩
  · rw [if_neg (c := nI u = 9) (fun e => h9 ((nI_eq (b := 9) (by omega) (by omega)).mp e))]
    by_cases h8 : nI u = 8 ∧ nI q = 4
    · exact ⟨0, by omega, by rw [if_pos h8]; rfl⟩
    · exact ⟨u + 1, by omega, by rw [if_neg h8, nI_1]⟩
theorem be_wk_r (hok : be_ok n d) {k : Nat} (hk : k < n) : ∃ v : Nat, v ≤ 9 ∧ be_wk sr b d k = nI v := by
  unfold be_wk
  have g : ∀ x, ∃ v : Nat, v ≤ 9 ∧ be_cl x = nI v := fun x => by
    obtain ⟨u, _, h9, e⟩ := be_cl_r x
    exact ⟨u, h9, e⟩
  split
  · exact g _
  · split
    · exact g _
    · split
      · exact g _
      · obtain ⟨u, _, h9, e⟩ := be_pl_r (sr := sr) (b := b) hok hk
        exact ⟨u, h9, e⟩
theorem be_nc_r (hok : be_ok n d) {k : Nat} (hk : k < n) : ∃ v : Nat, v ≤ 9 ∧ be_nc hr sr n m b z d k = nI v := by
  obtain ⟨q, hq, eq⟩ := (hok k hk).1
  obtain ⟨u, hu, eu⟩ := (hok k hk).2.2.1
  unfold be_nc
  by_cases hc : d k 2 = 0
  · rw [if_pos hc]
    split
    · exact be_wk_r hok hk
    · exact ⟨0, by omega, rfl⟩
  · rw [if_neg hc]
    split
    · unfold be_sp
      split
      · exact ⟨u, hu, eu⟩
      · have hu1 : 1 ≤ u := by
          by_cases hu0 : u = 0
          · subst hu0; exact absurd eu hc
          · omega
        obtain ⟨v, hv, e⟩ := be_sp9 u (by omega) hu1 q hq
        rw [eu, eq]
        exact ⟨v, by omega, e⟩
    · exact ⟨u, hu, eu⟩
theorem be_ok_d (hok : be_ok n d) : be_ok n (be_d hr sr n m b z d) := by
  intro k hk
  rw [be_d_0, be_d_1, be_d_2, be_d_7]
  obtain ⟨v, hv, e⟩ := be_nc_r (hr := hr) (sr := sr) (m := m) (b := b) (z := z) hok hk
  exact ⟨(hok k hk).1, (hok k hk).2.1, ⟨v, hv, e⟩, (hok k hk).2.2.2⟩
theorem be_ok_it (hok : be_ok n d) : ∀ i, be_ok n (be_it hr sr n m b z d i).2 := by
  intro i
  induction i with
  | zero => exact hok
  | succ i ih => exact be_ok_d ih
/-- how often, and when first -/
def be_n (s : Nat → Nat → Bool) (k : Nat) : Nat → Nat
  | 0 => 0
  | i + 1 => if s i k then be_n s k i + 1 else be_n s k i
def be_f (s : Nat → Nat → Bool) (k : Nat) : Nat → Nat
  | 0 => 0
  | i + 1 => if be_f s k i = 0 ∧ s i k = true then i + 1 else be_f s k i
theorem be_f_le (s : Nat → Nat → Bool) (k : Nat) : ∀ i, be_f s k i ≤ i := by
  intro i
  induction i with
  | zero => exact Nat.le_refl 0
  | succ i ih => simp only [be_f]; split <;> omega
theorem be_n5 (k : Nat) : ∀ i, (be_it hr sr n m b z d i).2 k 5 = d k 5 + nI (be_n (be_s hr sr n m b z d) k i) := by
  intro i
  induction i with
  | zero => simp [be_it, be_n, nI_0]
  | succ i ih =>
    show be_d _ _ _ _ _ _ _ k 5 = _
    rw [be_d_5, ih]
    simp only [be_n]
    cases hs : be_s hr sr n m b z d i k with
    | true =>
      have hs' : be_sk hr sr n m (b + nI i) (be_it hr sr n m b z d i).1 (be_it hr sr n m b z d i).2 k = true := hs
      rw [hs', if_pos rfl, if_pos rfl, ← nI_1, Int32.add_assoc]
    | false =>
      have hs' : be_sk hr sr n m (b + nI i) (be_it hr sr n m b z d i).1 (be_it hr sr n m b z d i).2 k = false := hs
      rw [hs', if_neg (by simp), if_neg (by simp)]
theorem be_f6 {bb : Nat} (hb : b = nI bb) (hbb : bb ≤ 9999) (k : Nat) (h0 : d k 6 = 0) : ∀ i, i ≤ 10000 → (be_it hr sr n m b z d i).2 k 6 = if be_f (be_s hr sr n m b z d) k i = 0 then 0 else nI (bb + be_f (be_s hr sr n m b z d) k i) := by
  intro i
  induction i with
  | zero => intro _; simp only [be_it, be_f]; rw [if_pos trivial]; exact h0
  | succ i ih =>
    intro hi
    have ih := ih (by omega)
    show be_d _ _ _ _ _ _ _ k 6 = _
    rw [be_d_6, ih]
    simp only [be_f]
    have hle := be_f_le (be_s hr sr n m b z d) k i
    by_cases hs : be_s hr sr n m b z d i k = true
    · have hs' : be_sk hr sr n m (b + nI i) (be_it hr sr n m b z d i).1 (be_it hr sr n m b z d i).2 k = true := hs
      by_cases hf : be_f (be_s hr sr n m b z d) k i = 0
      · have e : b + nI i + 1 = nI (bb + (i + 1)) := by rw [hb, nI_add, nI_1]; rfl
        simp [hs, hs', hf, e]
      · have e : ¬ nI (bb + be_f (be_s hr sr n m b z d) k i) = 0 := nI_ne0 (by omega) (by omega)
        simp [hs, hs', hf, e]
    · have hs' : ¬ be_sk hr sr n m (b + nI i) (be_it hr sr n m b z d i).1 (be_it hr sr n m b z d i).2 k = true := hs
      simp [hs, hs']
end BEI
/-- a line of the class, i beats on -/
def be_TC (hr sr : be_F) (a n : Nat) (m b z : Int32) (d : be_D) (σ0 : sv_S) (i : Nat) (σ : sv_S) : Prop := be_C σ a n (b + nI i) m (be_it hr sr n m b z d i).1 (be_it hr sr n m b z d i).2 ∧ be_LC σ a 0 hr ∧ be_LC σ a 1 sr ∧ be_fC a σ0 σ ∧ σ 1 a 8 = σ0 1 a 8
theorem be_TC.go {hr sr : be_F} {a n : Nat} {m b z : Int32} {d : be_D} {σ0 σ : sv_S} {i : Nat} (h : be_TC hr sr a n m b z d σ0 i σ) (hok : be_ok n d) (ha : a < 3) (hn : n ≤ 10) : ∃ σ', f_Li_passOne a σ = some (nI (be_ct (be_s hr sr n m b z d i) n), σ') ∧ be_TC hr sr a n m b z d σ0 (i + 1) σ' := by
  obtain ⟨h1, h2, h3, h4, h5⟩ := h
  obtain ⟨σ', y1, y2, y3, y4⟩ := be_passC (be_ok_it hok i) ha hn h1 h2 h3
  have hT := y3.T y4 a (Or.inl rfl)
  refine ⟨σ', y1, ?_, h2.to hT, h3.to hT, h4.tr y3, y4.trans h5⟩
  rw [← nI_1, ← Int32.add_assoc]
  exact y2
/-- the reference, i beats on -/
def be_fT (σ τ : sv_S) : Prop := (∀ r i, ¬ (r = 31 ∧ (i = 0 ∨ i = 12 ∨ i = 14 ∨ i = 28 ∨ i = 29 ∨ i = 33)) → ¬ (r = 30 ∧ i = 0) → τ r i = σ r i) ∧ (∀ j, 86 ≤ j → τ 31 0 j = σ 31 0 j) ∧ τ 31 0 1 = σ 31 0 1 ∧ ∀ j, j ≠ 15 → τ 30 0 j = σ 30 0 j
theorem be_fT.rfl' (σ : sv_S) : be_fT σ σ := ⟨fun _ _ _ _ => rfl, fun _ _ => rfl, rfl, fun _ _ => rfl⟩
theorem be_fT.tr {σ τ υ : sv_S} (h : be_fT σ τ) (g : be_fT τ υ) : be_fT σ υ := ⟨fun r i q p => (g.1 r i q p).trans (h.1 r i q p), fun j q => (g.2.1 j q).trans (h.2.1 j q), g.2.2.1.trans h.2.2.1, fun j q => (g.2.2.2 j q).trans (h.2.2.2 j q)⟩
theorem be_fM.t {σ τ : sv_S} (h : be_fM σ τ) : be_fT σ τ := ⟨fun r i q _ => h.1 r i (fun e => q ⟨e.1, by rcases e.2 with e | e | e | e <;> simp [e]⟩), h.2.1, h.2.2, fun j _ => by rw [h.1 30 0 (fun e => absurd e.1 (by decide))]⟩
def be_TM (hr sr : be_F) (n : Nat) (m b z : Int32) (d : be_D) (σ0 : sv_S) (i : Nat) (σ : sv_S) : Prop := be_M σ n (b + nI i) m (be_it hr sr n m b z d i).1 (be_it hr sr n m b z d i).2 ∧ be_LM σ 0 hr ∧ be_LM σ 1 sr ∧ be_fT σ0 σ
theorem be_TM.go {hr sr : be_F} {n : Nat} {m b z : Int32} {d : be_D} {σ0 σ : sv_S} {i : Nat} (h : be_TM hr sr n m b z d σ0 i σ) (hok : be_ok n d) (hn : n ≤ 10) : ∃ σ', f_Mo_goesOn σ = some (be_mk (be_s hr sr n m b z d i) n, σ') ∧ be_TM hr sr n m b z d σ0 (i + 1) σ' ∧ be_fM σ σ' := by
  obtain ⟨h1, h2, h3, h4⟩ := h
  obtain ⟨σ', y1, y2, y3⟩ := be_goesM (be_ok_it hok i) hn h1 h2 h3
  refine ⟨σ', y1, ⟨?_, y3.L h2, y3.L h3, h4.tr y3.t⟩, y3⟩
  rw [← nI_1, ← Int32.add_assoc]
  exact y2
/-- a write to what isn't the line -/
theorem be_TM.w {hr sr : be_F} {n : Nat} {m b z : Int32} {d : be_D} {σ0 σ τ : sv_S} {i : Nat} (h : be_TM hr sr n m b z d σ0 i σ) (hs : τ 31 0 = σ 31 0) (hf : be_fT σ τ) : be_TM hr sr n m b z d σ0 i τ := by
  obtain ⟨h1, h2, h3, h4⟩ := h
  refine ⟨?_, h2.to (by rw [hs]) (fun j _ => by rw [hs]), h3.to (by rw [hs]) (fun j _ => by rw [hs]), h4.tr hf⟩
  unfold be_M at *
  rw [hs]
  exact h1
