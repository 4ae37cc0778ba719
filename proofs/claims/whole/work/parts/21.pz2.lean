/-! ===== pure: bits; a beat ===== -/
def bt (x : Int32) (i : Nat) : Bool := x.toBitVec.getLsbD i
theorem b_ext {x y : Int32} (h : ∀ i, i < 32 → bt x i = bt y i) : x = y := Int32.toBitVec_inj.mp (BitVec.eq_of_getLsbD_eq (fun i hi => h i hi))
theorem b_or (x y : Int32) (i : Nat) : bt (x ||| y) i = (bt x i || bt y i) := by unfold bt; rw [Int32.toBitVec_or, BitVec.getLsbD_or]
theorem b_and (x y : Int32) (i : Nat) : bt (x &&& y) i = (bt x i && bt y i) := by unfold bt; rw [Int32.toBitVec_and, BitVec.getLsbD_and]
theorem b_0 (i : Nat) : bt 0 i = false := BitVec.getLsbD_zero
theorem s_l : ∀ n, n < 32 → ((nI n &&& 31).toBitVec.smod 32).toNat = n := by decide +kernel
theorem b_shl (n : Nat) (hn : n < 32) (x : Int32) {i : Nat} (hi : i < 32) : bt (x <<< (nI n &&& 31)) i = (decide (n ≤ i) && bt x (i - n)) := by
  unfold bt
  rw [Int32.toBitVec_shiftLeft]
  show (x.toBitVec <<< ((nI n &&& 31).toBitVec.smod 32).toNat).getLsbD i = _
  rw [s_l n hn, BitVec.getLsbD_shiftLeft]
  rcases Nat.lt_or_ge i n with h | h
  · simp [h, Nat.not_le.mpr h]
  · simp [hi, h, Nat.not_lt.mpr h]
theorem b_sshr (n : Nat) (hn : n < 32) (x : Int32) {i : Nat} (hi : i < 32) : bt (x >>> (nI n &&& 31)) i = if n + i < 32 then bt x (n + i) else bt x 31 := by
  unfold bt
  rw [Int32.toBitVec_shiftRight]
  show (x.toBitVec.sshiftRight ((nI n &&& 31).toBitVec.smod 32).toNat).getLsbD i = _
  rw [s_l n hn, BitVec.getLsbD_sshiftRight, BitVec.msb_eq_getLsbD_last]
  simp [hi]
theorem b_1 : ∀ i, i < 32 → bt 1 i = decide (i = 0) := by decide +kernel
/-- one bit -/
theorem be_bit (x : Int32) {k : Nat} (hk : k < 32) : ((x >>> (nI k &&& 31)) &&& (1 : Int32)) = if bt x k then 1 else 0 := by
  apply b_ext
  intro i hi
  rw [b_and, b_1 i hi, b_sshr k hk x hi]
  by_cases h0 : i = 0
  · subst h0
    simp only [Nat.add_zero, if_pos hk, decide_true, Bool.and_true]
    cases bt x k
    · rfl
    · rfl
  · simp only [h0, decide_false, Bool.and_false]
    cases bt x k
    · simp [b_0]
    · simp [b_1 i hi, h0]
/-- a set as an int -/
def be_mk (s : Nat → Bool) : Nat → Int32
  | 0 => 0
  | k + 1 => if s k then be_mk s k ||| ((1 : Int32) <<< (nI k &&& 31)) else be_mk s k
theorem be_mk_bt (s : Nat → Bool) : ∀ (n k : Nat), n ≤ 32 → k < 32 → bt (be_mk s n) k = (decide (k < n) && s k) := by
  intro n
  induction n with
  | zero => intro k _ hk; simp [be_mk, b_0]
  | succ n ih =>
    intro k hn hk
    have h := ih k (by omega) hk
    simp only [be_mk]
    by_cases hs : s n = true
    · rw [if_pos hs, b_or, h, b_shl n (by omega) _ hk]
      by_cases hkn : k = n
      · subst hkn
        simp [hs, b_1]
      · by_cases hlt : k < n
        · simp [hlt, Nat.lt_succ_of_lt hlt, Nat.not_le.mpr hlt]
        · have : n ≤ k := by omega
          have h1 : bt 1 (k - n) = false := by rw [b_1 _ (by omega)]; simp; omega
          have h2 : ¬ k < n + 1 := by omega
          simp [hlt, h1, h2]
    · rw [if_neg hs, h]
      by_cases hkn : k = n
      · subst hkn
        simp [hs]
      · have : (k < n + 1) = (k < n) := by apply propext; omega
        simp [this]
theorem be_mk_bit (s : Nat → Bool) {n k : Nat} (hn : n ≤ 32) (hk : k < n) : ((be_mk s n >>> (nI k &&& 31)) &&& (1 : Int32)) = if s k then 1 else 0 := by
  rw [be_bit _ (by omega), be_mk_bt s n k hn (by omega)]
  simp [hk]
theorem be_mk_bit0 (s : Nat → Bool) {n k : Nat} (hn : n ≤ 32) (hk : n ≤ k) (hk2 : k < 32) : ((be_mk s n >>> (nI k &&& 31)) &&& (1 : Int32)) = 0 := by
  rw [be_bit _ hk2, be_mk_bt s n k hn hk2]
  simp [Nat.not_lt.mpr hk]
/-- how many -/
def be_ct (s : Nat → Bool) : Nat → Nat
  | 0 => 0
  | k + 1 => if s k then be_ct s k + 1 else be_ct s k
theorem be_ct_le (s : Nat → Bool) : ∀ n, be_ct s n ≤ n := by
  intro n
  induction n with
  | zero => exact Nat.le_refl 0
  | succ n ih => simp only [be_ct]; split <;> omega
theorem be_ct_congr {s s' : Nat → Bool} : ∀ n, (∀ k, k < n → s k = s' k) → be_ct s n = be_ct s' n := by
  intro n
  induction n with
  | zero => intro _; rfl
  | succ n ih => intro h; simp only [be_ct]; rw [h n (by omega), ih (fun k hk => h k (by omega))]
theorem be_mk_congr {s s' : Nat → Bool} : ∀ n, (∀ k, k < n → s k = s' k) → be_mk s n = be_mk s' n := by
  intro n
  induction n with
  | zero => intro _; rfl
  | succ n ih => intro h; simp only [be_mk]; rw [h n (by omega), ih (fun k hk => h k (by omega))]
theorem be_ones_4 (s : Nat → Bool) {n : Nat} (hn : n ≤ 10) (σ : sv_S) : ∀ (r k fuel : Nat), k + r = 10 → r < fuel → f_Mo_ones_4 fuel (be_mk s n) (nI (be_ct s (if k ≤ n then k else n))) (nI k) σ = some (nI (be_ct s n), σ) := by
  intro r
  induction r with
  | zero =>
    intro k fuel hk hf
    obtain ⟨f, rfl⟩ : ∃ f, fuel = f + 1 := ⟨fuel - 1, by omega⟩
    have hk : k = 10 := by omega
    subst hk
    rw [f_Mo_ones_4, sv_if_t (by decide)]
    by_cases h : 10 ≤ n
    · have : n = 10 := by omega
      subst this
      simp
    · simp [h]
  | succ r ih =>
    intro k fuel hk hf
    obtain ⟨f, rfl⟩ : ∃ f, fuel = f + 1 := ⟨fuel - 1, by omega⟩
    rw [f_Mo_ones_4, sv_if_f (show ¬ (10 : Int32) ≤ nI k from nI_ge (b := 10) (by omega) (by omega)), nI_1]
    have h := ih (k + 1) f (by omega) (by omega)
    by_cases hkn : k < n
    · rw [be_mk_bit s (by omega) hkn, if_pos (by omega)]
      rw [if_pos (by omega)] at h
      simp only [be_ct] at h
      cases hs : s k with
      | true => rw [hs] at h; simpa [nI_1] using h
      | false => rw [hs] at h; simpa using h
    · rw [be_mk_bit0 s (by omega) (by omega) (by omega)]
      have e1 : (if k ≤ n then k else n) = n := by split <;> omega
      have e2 : (if k + 1 ≤ n then k + 1 else n) = n := by split <;> omega
      rw [e1]
      rw [e2] at h
      simpa using h
theorem be_ones (s : Nat → Bool) {n : Nat} (hn : n ≤ 10) (σ : sv_S) : f_Mo_ones (be_mk s n) σ = some (nI (be_ct s n), σ) := by
  have h := be_ones_4 s hn σ 10 0 sv_fu rfl (by decide)
  rw [if_pos (Nat.zero_le n)] at h
  exact h
