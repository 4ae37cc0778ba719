/-! ===== pure: what a beat does, and that the class's passOne does it ===== -/
abbrev be_D : Type := Nat → Nat → Int32
abbrev be_F : Type := Option (Int32 → Int32 → Int32 → Int32)
def be_ago (d : be_D) (k : Nat) (ap : Int32) : Int32 := if ap = 1 then d k 2 else if ap = 2 then d k 3 else d k 4
def be_lf (d : be_D) (k : Nat) : Int32 := if k = 0 then 0 else be_ago d (k - 1) (d (k - 1) 7)
def be_rt (n : Nat) (d : be_D) (k : Nat) : Int32 := if k + 1 = n then 0 else be_ago d (k + 1) (d k 7)
def be_hr (hr : be_F) (n : Nat) (d : be_D) (k : Nat) : Bool :=
  if d k 0 = 5 then decide (0 < be_lf d k) else match hr with
    | none => decide (0 < be_lf d k) || decide (0 < be_rt n d k)
    | some f => decide (f (be_lf d k) (be_rt n d k) (nI k) ≠ 0)
def be_cl (x : Int32) : Int32 := if x < 1 then 1 else if 9 < x then 9 else x
def be_pl (sr : be_F) (b : Int32) (d : be_D) (k : Nat) : Int32 := match sr with
  | none => d k 1
  | some f => be_cl (f (d k 1) (nI k) b)
def be_wk (sr : be_F) (b : Int32) (d : be_D) (k : Nat) : Int32 :=
  if d k 0 = 2 then be_cl (be_pl sr b d k + 1) else if d k 0 = 3 then be_cl (be_pl sr b d k - 1) else if d k 0 = 4 then be_cl (be_pl sr b d k + 1) else be_pl sr b d k
def be_sp (b c k : Int32) : Int32 :=
  if (k = 1 ∨ k = 3) ∧ b - b / 4 * 4 = 3 then c else if c = 9 then 0 else if c = 8 ∧ k = 4 then 0 else c + 1
def be_nz (z : Int32) : Int32 := z * 1103515245 + 12345
def be_dr (z : Int32) : Int32 := (z.toUInt32 >>> ((8 : Int32).toUInt32 &&& Int32.toUInt32 31)).toInt32
def be_z (d : be_D) (z : Int32) : Nat → Int32
  | 0 => z
  | k + 1 => if d k 2 = 0 then be_z d z k else be_nz (be_z d z k)
def be_ms (m x : Int32) : Prop := ¬ m ≤ x - x / 100 * 100
/-- a new count -/
def be_nc (hr sr : be_F) (n : Nat) (m b z : Int32) (d : be_D) (k : Nat) : Int32 :=
  if d k 2 = 0 then (if be_hr hr n d k then be_wk sr b d k else 0)
  else if m ≤ be_dr (be_nz (be_z d z k)) - be_dr (be_nz (be_z d z k)) / 100 * 100 then be_sp b (d k 2) (d k 0) else d k 2
def be_sk (hr sr : be_F) (n : Nat) (m b z : Int32) (d : be_D) (k : Nat) : Bool := decide (be_nc hr sr n m b z d k = 9) && decide (d k 2 ≠ 9)
def be_d (hr sr : be_F) (n : Nat) (m b z : Int32) (d : be_D) : be_D := fun k j =>
  if j = 2 then be_nc hr sr n m b z d k
  else if j = 3 then d k 2
  else if j = 4 then d k 3
  else if j = 5 then (if be_sk hr sr n m b z d k then d k 5 + 1 else d k 5)
  else if j = 6 then (if be_sk hr sr n m b z d k then (if d k 6 = 0 then b + 1 else d k 6) else d k 6)
  else d k j
/-- the class's slot of a drummer -/
def be_p (j : Nat) : Nat := if j = 6 then 7 else if j = 7 then 6 else j
/-- numbers as they may be -/
def be_ok (n : Nat) (d : be_D) : Prop := ∀ k, k < n → (∃ q : Nat, q < 6 ∧ d k 0 = nI q) ∧ (∃ q : Nat, 1 ≤ q ∧ q ≤ 9 ∧ d k 1 = nI q) ∧ (∃ q : Nat, q ≤ 9 ∧ d k 2 = nI q) ∧ (∃ q : Nat, 1 ≤ q ∧ q ≤ 3 ∧ d k 7 = nI q)
/-- a line of the class -/
def be_C (σ : sv_S) (a n : Nat) (b m z : Int32) (d : be_D) : Prop := σ 1 a 4 = nI n ∧ σ 1 a 5 = b ∧ σ 1 a 6 = m ∧ σ 1 a 7 = z ∧ ∀ k, k < n → ∀ j, j < 8 → σ 2 (10 * a + k) (be_p j) = d k j
/-- the text that counts for a key, in the class -/
def be_LC (σ : sv_S) (a q : Nat) (f : be_F) : Prop := match f with
  | none => σ 5 a q < 0
  | some g => ∃ t nt id ops len : Nat, ∃ cd : Nat → Int32, σ 5 a q = nI t ∧ t < nt ∧ nt ≤ 14 ∧ σ 1 a 8 = nI nt ∧ σ 4 a t = nI (id + 1) ∧ id < sv_ct σ ∧ σ 18 id 1 = nI ops ∧ σ 18 id 9 = nI len ∧ (∀ j, j < len → σ 19 id j = cd j) ∧ tx_w q ops len cd ∧ g = fun x y w => tx_a cd x y w len 0
/-- what its texts are is the same -/
def be_eT (a : Nat) (σ τ : sv_S) : Prop := τ 18 = σ 18 ∧ τ 19 = σ 19 ∧ τ 22 = σ 22 ∧ τ 5 a = σ 5 a ∧ τ 4 a = σ 4 a ∧ τ 1 a 8 = σ 1 a 8
theorem be_LC.to {σ τ : sv_S} {a q : Nat} {f : be_F} (h : be_LC σ a q f) (e : be_eT a σ τ) : be_LC τ a q f := by
  obtain ⟨e1, e2, e3, e4, e5, e6⟩ := e
  unfold be_LC sv_ct at *
  rw [e1, e2, e3, e4, e5, e6]
  exact h
/-- all but the scratch of texts -/
def be_e20 (σ τ : sv_S) : Prop := ∀ r, r ≠ 20 → τ r = σ r
theorem be_e20.rfl' (σ : sv_S) : be_e20 σ σ := fun _ _ => rfl
theorem be_e20.tr {σ τ υ : sv_S} (h : be_e20 σ τ) (g : be_e20 τ υ) : be_e20 σ υ := fun r hr => (g r hr).trans (h r hr)
theorem be_e20.T {σ τ : sv_S} (h : be_e20 σ τ) (a : Nat) : be_eT a σ τ := ⟨h _ (by decide), h _ (by decide), h _ (by decide), by rw [h 5 (by decide)], by rw [h 4 (by decide)], by rw [h 1 (by decide)]⟩
theorem be_e20.C {σ τ : sv_S} (h : be_e20 σ τ) {a n : Nat} {b m z : Int32} {d : be_D} (c : be_C σ a n b m z d) : be_C τ a n b m z d := by
  unfold be_C at *
  rw [h 1 (by decide), h 2 (by decide)]
  exact c
theorem be_ln3 {a : Nat} (ha : a < 3) (σ : sv_S) : sv_ln 3 a σ = 10 := by
  match a, ha with
  | 0, _ => rfl
  | 1, _ => rfl
  | 2, _ => rfl
theorem be_lawN {σ : sv_S} {a q : Nat} (hq : q < 3) (h : be_LC σ a q none) : f_Li_lawOf a (nI q) σ = some (none, σ) := by
  unfold f_Li_lawOf
  rw [pz_in hq (by omega), pz_cl (by omega), sv_if_t (show σ 5 a q < 0 from h)]
theorem be_lawS {σ : sv_S} {a q : Nat} {g : Int32 → Int32 → Int32 → Int32} (hq : q < 3) (h : be_LC σ a q (some g)) : ∃ id, f_Li_lawOf a (nI q) σ = some (some id, σ) ∧ ∀ x y w τ, be_e20 σ τ → ∃ τ', f_Te_gives id x y w τ = some (g x y w, τ') ∧ be_e20 σ τ' := by
  obtain ⟨t, nt, id, ops, len, cd, h1, h2, h3, h4, h5, h6, h7, h8, h9, hw, rfl⟩ := h
  refine ⟨id, ?_, fun x y w τ e => ?_⟩
  · unfold f_Li_lawOf
    rw [pz_in hq (by omega), pz_cl (by omega), h1, h4, sv_if_f (nI_pos (by omega)), sv_if_t (nI_lt h2 (by omega)), pz_in (by omega) (by omega), pz_cl (by omega), h5]
    have hid : id + 1 < 2 ^ 31 := by
      have h6 : id < (σ 22 0 0).toNatClampNeg := h6
      have := sv_cl32 (σ 22 0 0)
      by_cases hh : id + 1 < 2 ^ 31
      · exact hh
      · omega
    rw [sv_tx_nI hid, sv_g_t h6]
  · obtain ⟨τ', g1, g2⟩ := tx_runC (t := id) (a := x) (b := y) (c := w) hw len 0 sv_fu τ (by omega) (by have := hw.2.2.1; unfold sv_fu; omega) (by rw [e 18 (by decide)]; exact h7) (by rw [e 18 (by decide)]; exact h8) (fun j hj => by rw [e 19 (by decide)]; exact h9 j hj) (fun i hi => absurd hi (Nat.not_lt_zero _))
    refine ⟨τ', g1, fun r hr => ?_⟩
    funext i
    rw [g2 r i (fun q => hr q.1), e r hr]
theorem be_d_0 (hr sr : be_F) (n : Nat) (m b z : Int32) (d : be_D) (k : Nat) : be_d hr sr n m b z d k 0 = d k 0 := by simp [be_d]
theorem be_d_1 (hr sr : be_F) (n : Nat) (m b z : Int32) (d : be_D) (k : Nat) : be_d hr sr n m b z d k 1 = d k 1 := by simp [be_d]
theorem be_d_2 (hr sr : be_F) (n : Nat) (m b z : Int32) (d : be_D) (k : Nat) : be_d hr sr n m b z d k 2 = be_nc hr sr n m b z d k := by simp [be_d]
theorem be_d_3 (hr sr : be_F) (n : Nat) (m b z : Int32) (d : be_D) (k : Nat) : be_d hr sr n m b z d k 3 = d k 2 := by simp [be_d]
theorem be_d_4 (hr sr : be_F) (n : Nat) (m b z : Int32) (d : be_D) (k : Nat) : be_d hr sr n m b z d k 4 = d k 3 := by simp [be_d]
theorem be_d_5 (hr sr : be_F) (n : Nat) (m b z : Int32) (d : be_D) (k : Nat) : be_d hr sr n m b z d k 5 = if be_sk hr sr n m b z d k then d k 5 + 1 else d k 5 := by simp [be_d]
theorem be_d_6 (hr sr : be_F) (n : Nat) (m b z : Int32) (d : be_D) (k : Nat) : be_d hr sr n m b z d k 6 = if be_sk hr sr n m b z d k then (if d k 6 = 0 then b + 1 else d k 6) else d k 6 := by simp [be_d]
theorem be_d_7 (hr sr : be_F) (n : Nat) (m b z : Int32) (d : be_D) (k : Nat) : be_d hr sr n m b z d k 7 = d k 7 := by simp [be_d]
theorem be_sk_iff (hr sr : be_F) (n : Nat) (m b z : Int32) (d : be_D) (k : Nat) : (be_nc hr sr n m b z d k = 9 ∧ d k 2 ≠ 9) ↔ be_sk hr sr n m b z d k = true := by simp [be_sk]
