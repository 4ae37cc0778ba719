/-! ===== pure: the tape's tokens ===== -/
theorem pz_same {σ : sv_S} {r i k : Nat} {v : Int32} (h : σ r i k = v) : sv_up σ r i k v = σ := by
  funext r' i' k'
  by_cases e : r' = r ∧ i' = i
  · obtain ⟨rfl, rfl⟩ := e
    by_cases e2 : k' = k
    · subst e2; rw [pz_us, h]
    · rw [pz_uk e2]
  · rw [pz_up e]
theorem pz_twice (σ : sv_S) (r i k : Nat) (a b : Int32) : sv_up (sv_up σ r i k a) r i k b = sv_up σ r i k b := by
  funext r' i' k'
  by_cases e : r' = r ∧ i' = i
  · obtain ⟨rfl, rfl⟩ := e
    by_cases e2 : k' = k
    · subst e2; rw [pz_us, pz_us]
    · rw [pz_uk e2, pz_uk e2, pz_uk e2]
  · rw [pz_up e, pz_up e, pz_up e]
def pa_adv (P : Nat → Bool) : Nat → Nat → Nat
  | 0, e => e
  | r + 1, e => if P e = true then pa_adv P r (e + 1) else e
theorem pa_adv_z {P : Nat → Bool} {e : Nat} : pa_adv P 0 e = e := rfl
theorem pa_adv_t {P : Nat → Bool} {r e : Nat} (h : P e = true) : pa_adv P (r + 1) e = pa_adv P r (e + 1) := by simp only [pa_adv]; rw [if_pos h]
theorem pa_adv_f {P : Nat → Bool} {r e : Nat} (h : ¬ P e = true) : pa_adv P r e = e := by
  cases r with
  | zero => rfl
  | succ r => simp only [pa_adv]; rw [if_neg h]
theorem pa_adv_ge (P : Nat → Bool) : ∀ r e, e ≤ pa_adv P r e := by
  intro r
  induction r with
  | zero => intro e; exact Nat.le_refl e
  | succ r ih =>
    intro e
    by_cases h : P e = true
    · rw [pa_adv_t h]; have := ih (e + 1); omega
    · rw [pa_adv_f h]; exact Nat.le_refl e
theorem pa_adv_le (P : Nat → Bool) : ∀ r e, pa_adv P r e ≤ e + r := by
  intro r
  induction r with
  | zero => intro e; exact Nat.le_refl e
  | succ r ih =>
    intro e
    by_cases h : P e = true
    · rw [pa_adv_t h]; have := ih (e + 1); omega
    · rw [pa_adv_f h]; omega
theorem pa_adv_in (P : Nat → Bool) : ∀ r e i, e ≤ i → i < pa_adv P r e → P i = true := by
  intro r
  induction r with
  | zero => intro e i h1 h2; exact absurd h2 (by simp only [pa_adv]; omega)
  | succ r ih =>
    intro e i h1 h2
    by_cases h : P e = true
    · rw [pa_adv_t h] at h2
      by_cases e1 : i = e
      · rw [e1]; exact h
      · exact ih (e + 1) i (by omega) h2
    · rw [pa_adv_f h] at h2; omega
def pa_sp (c : Nat → Nat) (i : Nat) : Bool := decide (c i = 32)
def pa_le (c : Nat → Nat) (i : Nat) : Bool := decide (97 ≤ c i ∧ c i ≤ 122)
def pa_di (c : Nat → Nat) (i : Nat) : Bool := decide (48 ≤ c i ∧ c i ≤ 57)
def pa_C (c : Nat → Nat) (len : Nat) (σ : sv_S) : Prop := σ 8 0 1 = nI len ∧ ∀ i, i < len → σ 9 0 i &&& 255 = nI (c i)
def pa_M (c : Nat → Nat) (len : Nat) (σ : sv_S) : Prop := σ 30 0 17 = nI len ∧ ∀ i, i < len → σ 31 16 i = nI (c i)
theorem pa_C.up {c : Nat → Nat} {len : Nat} {σ : sv_S} (h : pa_C c len σ) {j : Nat} {v : Int32} (hj : j ≠ 1) : pa_C c len (sv_up σ 8 0 j v) := ⟨by rw [pz_uk (fun q => hj q.symm)]; exact h.1, fun i hi => by rw [pz_ur (by decide)]; exact h.2 i hi⟩
theorem pa_M.up {c : Nat → Nat} {len : Nat} {σ : sv_S} (h : pa_M c len σ) {j : Nat} {v : Int32} (hj : j ≠ 17) : pa_M c len (sv_up σ 30 0 j v) := ⟨by rw [pz_uk (fun q => hj q.symm)]; exact h.1, fun i hi => by rw [pz_ur (by decide)]; exact h.2 i hi⟩
theorem ta_byte {c : Nat → Nat} {len : Nat} (hl : len ≤ 96) (hc : ∀ i, c i < 256) {σ : sv_S} (h : pa_C c len σ) {i : Nat} (hi : i < len) : f_Ta_byteAt (nI i) σ = some (nI (c i), σ) := by
  unfold f_Ta_byteAt
  rw [sv_if_f (nI_pos (by omega)), h.1, sv_if_f (nI_ge hi (by omega)), pz_in (by omega) (by omega), pz_cl (by omega), h.2 i hi]
theorem ta_let {c : Nat → Nat} {len : Nat} (hl : len ≤ 96) (hc : ∀ i, c i < 256) {σ : sv_S} (i : Nat) : f_Ta_isLetter (nI (c i)) σ = some (if pa_le c i = true then 1 else 0, σ) := by
  have := hc i
  have e1 : (97 : Int32).toInt = 97 := rfl
  have e2 : (122 : Int32).toInt = 122 := rfl
  have e3 : (nI (c i)).toInt = c i := pz_ti (by omega)
  unfold f_Ta_isLetter pa_le
  by_cases g : nI (c i) < (97 : Int32)
  · rw [sv_if_t g, pz_01, if_neg (fun q => by rw [pz_lt] at g; have := of_decide_eq_true q; omega)]
  · rw [sv_if_f g]
    rw [pz_lt] at g
    by_cases g2 : (122 : Int32) < nI (c i)
    · rw [sv_if_t g2, pz_01, if_neg (fun q => by rw [pz_lt] at g2; have := of_decide_eq_true q; omega)]
    · rw [sv_if_f g2, pz_11, if_pos (decide_eq_true (by rw [pz_lt] at g2; omega))]
theorem ta_dig {c : Nat → Nat} {len : Nat} (hl : len ≤ 96) (hc : ∀ i, c i < 256) {σ : sv_S} (i : Nat) : f_Ta_isDigit (nI (c i)) σ = some (if pa_di c i = true then 1 else 0, σ) := by
  have := hc i
  have e1 : (48 : Int32).toInt = 48 := rfl
  have e2 : (57 : Int32).toInt = 57 := rfl
  have e3 : (nI (c i)).toInt = c i := pz_ti (by omega)
  unfold f_Ta_isDigit pa_di
  by_cases g : nI (c i) < (48 : Int32)
  · rw [sv_if_t g, pz_01, if_neg (fun q => by rw [pz_lt] at g; have := of_decide_eq_true q; omega)]
  · rw [sv_if_f g]
    rw [pz_lt] at g
    by_cases g2 : (57 : Int32) < nI (c i)
    · rw [sv_if_t g2, pz_01, if_neg (fun q => by rw [pz_lt] at g2; have := of_decide_eq_true q; omega)]
    · rw [sv_if_f g2, pz_11, if_pos (decide_eq_true (by rw [pz_lt] at g2; omega))]
theorem mo_let {c : Nat → Nat} {len : Nat} (hl : len ≤ 96) (hc : ∀ i, c i < 256) {σ : sv_S} (h : pa_M c len σ) {i : Nat} (hi : i ≤ len) : f_Mo_isLetter (nI i) σ = some (if i < len ∧ pa_le c i = true then 1 else 0, σ) := by
  have := hc i
  unfold f_Mo_isLetter
  rw [h.1]
  by_cases g : i < len
  · rw [sv_if_f (nI_ge g (by omega)), pz_in (by omega) (by omega), pz_cl (by omega), h.2 i g, mo_w (nI (c i)) 97 122 rfl rfl, pz_b, pz_if1, pz_ti (by omega)]
    unfold pa_le
    by_cases g2 : 97 ≤ c i ∧ c i ≤ 122
    · rw [if_pos (by omega), pz_11, if_pos ⟨g, decide_eq_true g2⟩]
    · rw [if_neg (by omega), pz_01, if_neg (fun q => g2 (of_decide_eq_true q.2))]
  · rw [sv_if_t (nI_le (by omega) (by omega)), pz_01, if_neg (fun q => g q.1)]
theorem mo_dig {c : Nat → Nat} {len : Nat} (hl : len ≤ 96) (hc : ∀ i, c i < 256) {σ : sv_S} (h : pa_M c len σ) {i : Nat} (hi : i ≤ len) : f_Mo_isDigit (nI i) σ = some (if i < len ∧ pa_di c i = true then 1 else 0, σ) := by
  have := hc i
  unfold f_Mo_isDigit
  rw [h.1]
  by_cases g : i < len
  · rw [sv_if_f (nI_ge g (by omega)), pz_in (by omega) (by omega), pz_cl (by omega), h.2 i g, mo_w (nI (c i)) 48 57 rfl rfl, pz_b, pz_if1, pz_ti (by omega)]
    unfold pa_di
    by_cases g2 : 48 ≤ c i ∧ c i ≤ 57
    · rw [if_pos (by omega), pz_11, if_pos ⟨g, decide_eq_true g2⟩]
    · rw [if_neg (by omega), pz_01, if_neg (fun q => g2 (of_decide_eq_true q.2))]
  · rw [sv_if_t (nI_le (by omega) (by omega)), pz_01, if_neg (fun q => g q.1)]
theorem ta_15 {c : Nat → Nat} {len : Nat} (hl : len ≤ 96) (hc : ∀ i, c i < 256) (x y : Int32) : ∀ (r e fuel : Nat) (σ : sv_S), e + r = len → r < fuel → pa_C c len σ → σ 8 0 2 = nI e → f_Ta_next_15 fuel x y σ = f_Ta_next_52 x y (sv_up σ 8 0 2 (nI (pa_adv (pa_sp c) r e))) := by
  intro r
  induction r with
  | zero =>
    intro e fuel σ he hf h h2
    obtain ⟨f, rfl⟩ : ∃ f, fuel = f + 1 := ⟨fuel - 1, by omega⟩
    rw [f_Ta_next_15, h.1, h2, sv_if_t (nI_le (by omega) (by omega)), pa_adv_z, pz_same h2]
  | succ r ih =>
    intro e fuel σ he hf h h2
    obtain ⟨f, rfl⟩ : ∃ f, fuel = f + 1 := ⟨fuel - 1, by omega⟩
    have := hc e
    rw [f_Ta_next_15, h.1, h2, sv_if_f (nI_ge (by omega) (by omega)), ta_byte hl hc h (by omega), pz_b]
    by_cases g : c e = 32
    · have g' : pa_sp c e = true := decide_eq_true g
      rw [sv_if_t (by rw [g]; rfl), pa_adv_t g']
      dsimp only
      rw [h2, nI_1, ih (e + 1) f _ (by omega) (by omega) (h.up (by decide)) (pz_us _ _ _ _ _), pz_twice]
    · have g' : ¬ pa_sp c e = true := fun q => g (of_decide_eq_true q)
      rw [sv_if_f (show ¬ nI (c e) = (32 : Int32) from fun q => g ((nI_eq (b := 32) (by omega) (by omega)).mp q)), pa_adv_f g', pz_same h2]
theorem ta_93 {c : Nat → Nat} {len : Nat} (hl : len ≤ 96) (hc : ∀ i, c i < 256) (x y : Int32) : ∀ (r e fuel : Nat) (σ : sv_S), e + r = len → r < fuel → pa_C c len σ → σ 8 0 3 = nI e → f_Ta_next_93 fuel x y σ = f_Ta_next_241 x y (sv_up (sv_up σ 8 0 3 (nI (pa_adv (pa_le c) r e))) 8 0 4 (-2)) := by
  intro r
  induction r with
  | zero =>
    intro e fuel σ he hf h h2
    obtain ⟨f, rfl⟩ : ∃ f, fuel = f + 1 := ⟨fuel - 1, by omega⟩
    rw [f_Ta_next_93, h.1, h2, sv_if_t (nI_le (by omega) (by omega)), pa_adv_z, pz_same h2]
  | succ r ih =>
    intro e fuel σ he hf h h2
    obtain ⟨f, rfl⟩ : ∃ f, fuel = f + 1 := ⟨fuel - 1, by omega⟩
    rw [f_Ta_next_93, h.1, h2, sv_if_f (nI_ge (by omega) (by omega)), ta_byte hl hc h (by omega), pz_b, ta_let hl hc, pz_b, pz_if1]
    by_cases g : pa_le c e = true
    · rw [if_pos g, pa_adv_t g]
      dsimp only
      rw [h2, nI_1, ih (e + 1) f _ (by omega) (by omega) (h.up (by decide)) (pz_us _ _ _ _ _), pz_twice]
    · rw [if_neg g, pa_adv_f g, pz_same h2]
theorem ta_154 {c : Nat → Nat} {len : Nat} (hl : len ≤ 96) (hc : ∀ i, c i < 256) (x y : Int32) : ∀ (r e fuel : Nat) (σ : sv_S), e + r = len → r < fuel → pa_C c len σ → σ 8 0 3 = nI e → f_Ta_next_154 fuel x y σ = f_Ta_next_192 x y (sv_up σ 8 0 3 (nI (pa_adv (pa_di c) r e))) := by
  intro r
  induction r with
  | zero =>
    intro e fuel σ he hf h h2
    obtain ⟨f, rfl⟩ : ∃ f, fuel = f + 1 := ⟨fuel - 1, by omega⟩
    rw [f_Ta_next_154, h.1, h2, sv_if_t (nI_le (by omega) (by omega)), pa_adv_z, pz_same h2]
  | succ r ih =>
    intro e fuel σ he hf h h2
    obtain ⟨f, rfl⟩ : ∃ f, fuel = f + 1 := ⟨fuel - 1, by omega⟩
    rw [f_Ta_next_154, h.1, h2, sv_if_f (nI_ge (by omega) (by omega)), ta_byte hl hc h (by omega), pz_b, ta_dig hl hc, pz_b, pz_if1]
    by_cases g : pa_di c e = true
    · rw [if_pos g, pa_adv_t g]
      dsimp only
      rw [h2, nI_1, ih (e + 1) f _ (by omega) (by omega) (h.up (by decide)) (pz_us _ _ _ _ _), pz_twice]
    · rw [if_neg g, pa_adv_f g, pz_same h2]
theorem mo_34 {c : Nat → Nat} {len : Nat} (hl : len ≤ 96) (hc : ∀ i, c i < 256) (x y : Int32) : ∀ (r e fuel : Nat) (σ : sv_S), e + r = len → r < fuel → pa_M c len σ → σ 30 0 19 = nI e → f_Mo_nextToken_34 fuel x y σ = f_Mo_nextToken_72 x y (sv_up σ 30 0 19 (nI (pa_adv (pa_sp c) r e))) := by
  intro r
  induction r with
  | zero =>
    intro e fuel σ he hf h h2
    obtain ⟨f, rfl⟩ : ∃ f, fuel = f + 1 := ⟨fuel - 1, by omega⟩
    rw [f_Mo_nextToken_34, h.1, h2, sv_if_t (nI_le (by omega) (by omega)), pa_adv_z, pz_same h2]
  | succ r ih =>
    intro e fuel σ he hf h h2
    obtain ⟨f, rfl⟩ : ∃ f, fuel = f + 1 := ⟨fuel - 1, by omega⟩
    have := hc e
    rw [f_Mo_nextToken_34, h.1, h2, sv_if_f (nI_ge (by omega) (by omega)), pz_in (by omega) (by omega), pz_cl (by omega), h.2 e (by omega)]
    by_cases g : c e = 32
    · have g' : pa_sp c e = true := decide_eq_true g
      rw [sv_if_t (by rw [g]; rfl), pa_adv_t g']
      dsimp only
      rw [nI_1, ih (e + 1) f _ (by omega) (by omega) (h.up (by decide)) (pz_us _ _ _ _ _), pz_twice]
    · have g' : ¬ pa_sp c e = true := fun q => g (of_decide_eq_true q)
      rw [sv_if_f (show ¬ nI (c e) = (32 : Int32) from fun q => g ((nI_eq (b := 32) (by omega) (by omega)).mp q)), pa_adv_f g', pz_same h2]
theorem mo_128 {c : Nat → Nat} {len : Nat} (hl : len ≤ 96) (hc : ∀ i, c i < 256) (x : Int32) : ∀ (r e fuel : Nat) (σ : sv_S), e + r = len → r < fuel → pa_M c len σ → σ 30 0 19 = nI e → f_Mo_nextToken_128 fuel x σ = f_Mo_nextToken_162 (if x = 0 then 1 else 4) (sv_up σ 30 0 19 (nI (pa_adv (pa_le c) r e))) := by
  intro r
  have E : ∀ (σ : sv_S), sv_if (x = 0) (f_Mo_nextToken_162 (1 : Int32) σ) (f_Mo_nextToken_162 (4 : Int32) σ) = f_Mo_nextToken_162 (if x = 0 then 1 else 4) σ := by
    intro σ
    by_cases g : x = 0
    · rw [sv_if_t g, if_pos g]
    · rw [sv_if_f g, if_neg g]
  induction r with
  | zero =>
    intro e fuel σ he hf h h2
    obtain ⟨f, rfl⟩ : ∃ f, fuel = f + 1 := ⟨fuel - 1, by omega⟩
    rw [f_Mo_nextToken_128, h2, mo_let hl hc h (by omega), pz_b, pz_if1, if_neg (by omega), E, pa_adv_z, pz_same h2]
  | succ r ih =>
    intro e fuel σ he hf h h2
    obtain ⟨f, rfl⟩ : ∃ f, fuel = f + 1 := ⟨fuel - 1, by omega⟩
    rw [f_Mo_nextToken_128, h2, mo_let hl hc h (by omega), pz_b, pz_if1]
    by_cases g : pa_le c e = true
    · rw [if_pos ⟨by omega, g⟩, pa_adv_t g]
      dsimp only
      rw [h2, nI_1, ih (e + 1) f _ (by omega) (by omega) (h.up (by decide)) (pz_us _ _ _ _ _), pz_twice]
    · rw [if_neg (fun q => g q.2), pa_adv_f g, E, pz_same h2]
/-- a number's digits -/
def pa_num (c : Nat → Nat) (p : Nat) : Nat → Int32
  | 0 => 0
  | k + 1 => pa_num c p k * 10 + nI (c (p + k)) - 48
theorem pa_num_n {c : Nat → Nat} {p : Nat} : ∀ k, k ≤ 4 → (∀ i, p ≤ i → i < p + k → pa_di c i = true) → ∃ v : Nat, v < 10 ^ k ∧ pa_num c p k = nI v := by
  intro k
  induction k with
  | zero => intro _ _; exact ⟨0, by decide, rfl⟩
  | succ k ih =>
    intro hk h
    obtain ⟨v, h1, h2⟩ := ih (by omega) (fun i a b => h i a (by omega))
    have d := of_decide_eq_true (h (p + k) (by omega) (by omega))
    refine ⟨v * 10 + (c (p + k) - 48), by rw [Nat.pow_succ]; omega, ?_⟩
    simp only [pa_num]
    rw [h2, show (10 : Int32) = nI 10 from rfl, pk_mul, nI_add, show (48 : Int32) = nI 48 from rfl, pk_sub (by omega)]
    congr 1
    omega
theorem mo_214 {c : Nat → Nat} {len : Nat} (hl : len ≤ 96) (hc : ∀ i, c i < 256) (x : Int32) {p : Nat} : ∀ (r k fuel : Nat) (σ : sv_S), p + k + r = len → r < fuel → pa_M c len σ → σ 30 0 18 = nI p → σ 30 0 19 = nI (p + k) → σ 30 0 21 = pa_num c p (if k ≤ 4 then k else 4) → ∃ σ' e, e = pa_adv (pa_di c) r (p + k) ∧ f_Mo_nextToken_214 fuel x σ = some σ' ∧ σ' 30 0 19 = nI e ∧ σ' 30 0 20 = (if x = 0 ∧ e - p ≤ 4 then 2 else 4) ∧ σ' 30 0 21 = pa_num c p (if e - p ≤ 4 then e - p else 4) ∧ (∀ j, j ≠ 19 → j ≠ 20 → j ≠ 21 → σ' 30 0 j = σ 30 0 j) ∧ ∀ r i, ¬ (r = 30 ∧ i = 0) → σ' r i = σ r i := by
  intro r
  have E : ∀ (k f : Nat) (σ : sv_S), p + k ≤ len → pa_M c len σ → σ 30 0 18 = nI p → σ 30 0 19 = nI (p + k) → σ 30 0 21 = pa_num c p (if k ≤ 4 then k else 4) → ¬ (p + k < len ∧ pa_di c (p + k) = true) → ∃ σ', f_Mo_nextToken_214 (f + 1) x σ = some σ' ∧ σ' 30 0 19 = nI (p + k) ∧ σ' 30 0 20 = (if x = 0 ∧ (p + k) - p ≤ 4 then 2 else 4) ∧ σ' 30 0 21 = pa_num c p (if (p + k) - p ≤ 4 then (p + k) - p else 4) ∧ (∀ j, j ≠ 19 → j ≠ 20 → j ≠ 21 → σ' 30 0 j = σ 30 0 j) ∧ ∀ r i, ¬ (r = 30 ∧ i = 0) → σ' r i = σ r i := by
    intro k f σ hk h h18 h19 h21 hn
    have ek : p + k - p = k := by omega
    rw [ek]
    refine ⟨sv_up σ 30 0 20 (if x = 0 ∧ k ≤ 4 then 2 else 4), ?_, by rw [pz_uk (by decide)]; exact h19, pz_us _ _ _ _ _, by rw [pz_uk (by decide)]; exact h21, fun j _ a _ => pz_uk a, fun r i a => pz_up a⟩
    have es : nI (p + k) - nI p = nI k := by rw [pk_sub (by omega), show p + k - p = k by omega]
    rw [f_Mo_nextToken_214, h19, mo_dig hl hc h hk, pz_b, pz_if1, if_neg hn, h18, h19, es]
    unfold f_Mo_nextToken_300
    dsimp only
    by_cases gx : x = 0
    · rw [sv_if_t gx]
      by_cases gk : k ≤ 4
      · rw [sv_if_t (show nI k ≤ (4 : Int32) from nI_le (b := 4) gk (by omega)), if_pos ⟨gx, gk⟩]
      · rw [sv_if_f (show ¬ nI k ≤ (4 : Int32) from nI_ge (a := 4) (by omega) (by omega)), if_neg (fun q => gk q.2)]
    · rw [sv_if_f gx, if_neg (fun q => gx q.1)]
  induction r with
  | zero =>
    intro k fuel σ hk hf h h18 h19 h21
    obtain ⟨f, rfl⟩ : ∃ f, fuel = f + 1 := ⟨fuel - 1, by omega⟩
    obtain ⟨σ', g⟩ := E k f σ (by omega) h h18 h19 h21 (by omega)
    exact ⟨σ', p + k, rfl, g⟩
  | succ r ih =>
    intro k fuel σ hk hf h h18 h19 h21
    obtain ⟨f, rfl⟩ : ∃ f, fuel = f + 1 := ⟨fuel - 1, by omega⟩
    by_cases g : pa_di c (p + k) = true
    · have es : nI (p + k) - nI p = nI k := by rw [pk_sub (by omega), show p + k - p = k by omega]
      have st : f_Mo_nextToken_214 (f + 1) x σ = f_Mo_nextToken_214 f x (sv_up (sv_up σ 30 0 21 (pa_num c p (if k + 1 ≤ 4 then k + 1 else 4))) 30 0 19 (nI (p + (k + 1)))) := by
        rw [f_Mo_nextToken_214, h19, mo_dig hl hc h (by omega), pz_b, pz_if1, if_pos ⟨by omega, g⟩, h18, h19, es]
        unfold f_Mo_nextToken_266
        dsimp only
        rw [pz_uk (by decide), pz_uk (by decide), h19, nI_1, h21]
        by_cases gk : 4 ≤ k
        · rw [sv_if_t (show (4 : Int32) ≤ nI k from nI_le (a := 4) gk (by omega)), if_neg (show ¬ k + 1 ≤ 4 by omega)]
          by_cases k4 : k ≤ 4
          · rw [if_pos k4, show k = 4 by omega]
          · rw [if_neg k4]; rfl
        · rw [sv_if_f (show ¬ (4 : Int32) ≤ nI k from nI_ge (b := 4) (by omega) (by omega)), pz_in (by omega) (by omega), pz_cl (by omega), h.2 _ (by omega), if_pos (show k ≤ 4 by omega), if_pos (show k + 1 ≤ 4 by omega)]
          simp only [pa_num]
          rw [Int32.mul_comm]
          rfl
      obtain ⟨σ', e, y0, y1, y2, y3, y4, y5, y6⟩ := ih (k + 1) f (sv_up (sv_up σ 30 0 21 (pa_num c p (if k + 1 ≤ 4 then k + 1 else 4))) 30 0 19 (nI (p + (k + 1)))) (by omega) (by omega) ((h.up (by decide)).up (by decide)) (by rw [pz_uk (by decide), pz_uk (by decide)]; exact h18) (pz_us _ _ _ _ _) (by rw [pz_uk (by decide), pz_us])
      refine ⟨σ', e, by rw [pa_adv_t g]; exact y0, st.trans y1, y2, y3, y4, fun j a b d => by rw [y5 j a b d, pz_uk a, pz_uk d], fun r i a => by rw [y6 r i a, pz_up a, pz_up a]⟩
    · obtain ⟨σ', q⟩ := E k f σ (by omega) h h18 h19 h21 (fun q => g q.2)
      exact ⟨σ', p + k, (pa_adv_f g).symm, q⟩

/-! one token -/
def pt_p (c : Nat → Nat) (len e : Nat) : Nat := pa_adv (pa_sp c) (len - e) e
def pt_e (c : Nat → Nat) (len p : Nat) : Nat := if p = len then p else if pa_le c p = true then pa_adv (pa_le c) (len - p) p else if pa_di c p = true then pa_adv (pa_di c) (len - p) p else p + 1
def pt_k (c : Nat → Nat) (len e p : Nat) (w : Bool) : Nat := if p = len then 0 else if pa_le c p = true then (if w = true ∧ p = e then 4 else 1) else if pa_di c p = true then (if ¬ (w = true ∧ p = e) ∧ pt_e c len p - p ≤ 4 then 2 else 4) else 3
def pt_t (c : Nat → Nat) (p k : Nat) : Int32 := if k = 0 then -1 else if k = 1 then -2 else if k = 2 then -3 else if k = 3 then nI (c p) else -4
theorem ta_w (σ : sv_S) : f_Ta_isWord σ = some (if σ 8 0 4 = -2 ∨ σ 8 0 4 = -3 then 1 else 0, σ) := by
  unfold f_Ta_isWord
  by_cases g : σ 8 0 4 = -2
  · rw [sv_if_t g, pz_11, if_pos (Or.inl g)]
  · rw [sv_if_f g]
    by_cases g2 : σ 8 0 4 = -3
    · rw [sv_if_t g2, pz_11, if_pos (Or.inr g2)]
    · rw [sv_if_f g2, pz_01, if_neg (by rintro (q | q); exact g q; exact g2 q)]
theorem ta_241 {p e : Nat} {w : Bool} {σ : sv_S} {x : Int32} (hp : p ≤ 96) (he : e ≤ 96) (h2 : σ 8 0 2 = nI p) (hx : x = if w = true then 1 else 0) : f_Ta_next_241 (nI e) x σ = some (if (w = true ∧ p = e) ∧ (σ 8 0 4 = -2 ∨ σ 8 0 4 = -3) then sv_up σ 8 0 4 (-4) else σ) := by
  unfold f_Ta_next_241
  rw [hx, pz_if1, ta_w, pz_b, pz_if1, h2]
  dsimp only
  by_cases g : w = true
  · rw [if_pos g]
    by_cases g2 : p = e
    · rw [sv_if_t (by rw [g2])]
      by_cases g3 : σ 8 0 4 = -2 ∨ σ 8 0 4 = -3
      · rw [if_pos g3, if_pos ⟨⟨g, g2⟩, g3⟩]
      · rw [if_neg g3, if_neg (fun q => g3 q.2)]
    · rw [sv_if_f (fun q => g2 ((nI_eq (by omega) (by omega)).mp q)), if_neg (fun q => g2 q.1.2)]
  · rw [if_neg g, if_neg (fun q => g q.1.1)]
/-- the class's next token -/
theorem ta_next {c : Nat → Nat} {len : Nat} (hl : len ≤ 96) (hc : ∀ i, c i < 256) {σ : sv_S} (h : pa_C c len σ) {e : Nat} (he : e ≤ len) (h3 : σ 8 0 3 = nI e) {w : Bool} (hw : w = true ↔ (σ 8 0 4 = -2 ∨ σ 8 0 4 = -3)) : ∃ σ', f_Ta_next σ = some σ' ∧ σ' 8 0 2 = nI (pt_p c len e) ∧ σ' 8 0 3 = nI (pt_e c len (pt_p c len e)) ∧ σ' 8 0 4 = pt_t c (pt_p c len e) (pt_k c len e (pt_p c len e) w) ∧ (∀ j, j ≠ 2 → j ≠ 3 → j ≠ 4 → σ' 8 0 j = σ 8 0 j) ∧ ∀ r i, ¬ (r = 8 ∧ i = 0) → σ' r i = σ r i := by
  generalize hx : (if σ 8 0 4 = -2 ∨ σ 8 0 4 = -3 then (1 : Int32) else 0) = x
  have hx' : x = if w = true then 1 else 0 := by
    rw [← hx]
    by_cases g : w = true
    · rw [if_pos g, if_pos (hw.mp g)]
    · rw [if_neg g, if_neg (fun q => g (hw.mpr q))]
  generalize hp : pt_p c len e = p
  have p1 : e ≤ p := by rw [← hp]; exact pa_adv_ge _ _ _
  have p2 : p ≤ len := by rw [← hp]; have := pa_adv_le (pa_sp c) (len - e) e; unfold pt_p; omega
  have s1 : f_Ta_next σ = f_Ta_next_52 (nI e) x (sv_up σ 8 0 2 (nI p)) := by
    unfold f_Ta_next
    rw [ta_w, pz_b, hx, h3]
    dsimp only
    rw [ta_15 hl hc (nI e) x (len - e) e sv_fu _ (by omega) (by unfold sv_fu; omega) (h.up (by decide)) (pz_us _ _ _ _ _), pz_twice, show pa_adv (pa_sp c) (len - e) e = p from hp]
  generalize hτ : sv_up (sv_up σ 8 0 2 (nI p)) 8 0 3 (nI p) = τ
  have t2 : τ 8 0 2 = nI p := by rw [← hτ, pz_uk (by decide), pz_us]
  have t3 : τ 8 0 3 = nI p := by rw [← hτ, pz_us]
  have tC : pa_C c len τ := by rw [← hτ]; exact (h.up (by decide)).up (by decide)
  have tj : ∀ j, j ≠ 2 → j ≠ 3 → τ 8 0 j = σ 8 0 j := fun j a b => by rw [← hτ, pz_uk b, pz_uk a]
  have to : ∀ r i, ¬ (r = 8 ∧ i = 0) → τ r i = σ r i := fun r i a => by rw [← hτ, pz_up a, pz_up a]
  have s2 : f_Ta_next_52 (nI e) x (sv_up σ 8 0 2 (nI p)) = sv_if (nI p < nI len) (sv_if ((if pa_le c p = true then (1 : Int32) else 0) = 0) (sv_if ((if pa_di c p = true then (1 : Int32) else 0) = 0) (f_Ta_next_241 (nI e) x (sv_up (sv_up τ 8 0 4 (nI (c p))) 8 0 3 (nI (p + 1)))) (f_Ta_next_154 sv_fu (nI e) x τ)) (f_Ta_next_93 sv_fu (nI e) x τ)) (f_Ta_next_241 (nI e) x (sv_up τ 8 0 4 (-1))) := by
    unfold f_Ta_next_52
    dsimp only
    rw [pz_us, hτ, t2, tC.1]
    by_cases g : nI p < nI len
    · have g' : p < len := (nI_ltI (by omega) (by omega)).mp g
      rw [sv_if_t g, sv_if_t g, ta_byte hl hc tC g', pz_b, ta_let hl hc, pz_b, t2, ta_byte hl hc tC g', pz_b, ta_dig hl hc, pz_b, t2, ta_byte hl hc tC g', pz_b, pz_uk (by decide), t3, nI_1]
    · rw [sv_if_f g, sv_if_f g]
  rw [s1, s2]
  -- a token's end
  have fin : ∀ (υ : sv_S) (e' : Nat) (t : Int32) (k : Nat), υ 8 0 2 = nI p → υ 8 0 3 = nI e' → υ 8 0 4 = t → (∀ j, j ≠ 2 → j ≠ 3 → j ≠ 4 → υ 8 0 j = σ 8 0 j) → (∀ r i, ¬ (r = 8 ∧ i = 0) → υ r i = σ r i) → pt_e c len p = e' → pt_k c len e p w = k → pt_t c p k = (if (w = true ∧ p = e) ∧ (t = -2 ∨ t = -3) then -4 else t) → ∃ σ', f_Ta_next_241 (nI e) x υ = some σ' ∧ σ' 8 0 2 = nI p ∧ σ' 8 0 3 = nI (pt_e c len p) ∧ σ' 8 0 4 = pt_t c p (pt_k c len e p w) ∧ (∀ j, j ≠ 2 → j ≠ 3 → j ≠ 4 → σ' 8 0 j = σ 8 0 j) ∧ ∀ r i, ¬ (r = 8 ∧ i = 0) → σ' r i = σ r i := by
    intro υ e' t k u2 u3 u4 uj uo he' hk ht
    rw [ta_241 (by omega) (by omega) u2 hx', u4, he', hk, ht]
    by_cases g : (w = true ∧ p = e) ∧ (t = -2 ∨ t = -3)
    · rw [if_pos g, if_pos g]
      exact ⟨_, rfl, by rw [pz_uk (by decide)]; exact u2, by rw [pz_uk (by decide)]; exact u3, pz_us _ _ _ _ _, fun j a b d => by rw [pz_uk d]; exact uj j a b d, fun r i a => by rw [pz_up a]; exact uo r i a⟩
    · rw [if_neg g, if_neg g]
      exact ⟨_, rfl, u2, u3, u4, uj, uo⟩
  by_cases g : p = len
  · rw [sv_if_f (by rw [g]; exact fun q => Int32.lt_irrefl q)]
    refine fin _ p (-1) 0 (by rw [pz_uk (by decide)]; exact t2) (by rw [pz_uk (by decide)]; exact t3) (pz_us _ _ _ _ _) (fun j a b d => by rw [pz_uk d]; exact tj j a b) (fun r i a => by rw [pz_up a]; exact to r i a) (by unfold pt_e; rw [if_pos g]) (by unfold pt_k; rw [if_pos g]) ?_
    rw [if_neg (fun q => by rcases q.2 with q | q <;> exact absurd q (by decide))]
    rfl
  · rw [sv_if_t ((nI_ltI (by omega) (by omega)).mpr (by omega)), pz_if1, pz_if1]
    by_cases gl : pa_le c p = true
    · rw [if_pos gl, ta_93 hl hc (nI e) x (len - p) p sv_fu τ (by omega) (by unfold sv_fu; omega) tC t3]
      refine fin _ (pa_adv (pa_le c) (len - p) p) (-2) (if w = true ∧ p = e then 4 else 1) (by rw [pz_uk (by decide), pz_uk (by decide)]; exact t2) (by rw [pz_uk (by decide), pz_us]) (pz_us _ _ _ _ _) (fun j a b d => by rw [pz_uk d, pz_uk b]; exact tj j a b) (fun r i a => by rw [pz_up a, pz_up a]; exact to r i a) (by unfold pt_e; rw [if_neg g, if_pos gl]) (by unfold pt_k; rw [if_neg g, if_pos gl]) ?_
      by_cases q : w = true ∧ p = e
      · rw [if_pos q, if_pos ⟨q, Or.inl rfl⟩]; rfl
      · rw [if_neg q, if_neg (fun z => q z.1)]; rfl
    · rw [if_neg gl]
      by_cases gd : pa_di c p = true
      · rw [if_pos gd, ta_154 hl hc (nI e) x (len - p) p sv_fu τ (by omega) (by unfold sv_fu; omega) tC t3]
        have a1 := pa_adv_ge (pa_di c) (len - p) p
        have a2 := pa_adv_le (pa_di c) (len - p) p
        have ee : pt_e c len p = pa_adv (pa_di c) (len - p) p := by unfold pt_e; rw [if_neg g, if_neg gl, if_pos gd]
        have es : nI (pa_adv (pa_di c) (len - p) p) - nI p = nI (pa_adv (pa_di c) (len - p) p - p) := pk_sub a1
        unfold f_Ta_next_192
        dsimp only
        rw [pz_us, pz_uk (by decide), t2, es]
        by_cases g4 : pa_adv (pa_di c) (len - p) p - p ≤ 4
        · rw [sv_if_t (show nI _ ≤ (4 : Int32) from nI_le (b := 4) g4 (by omega))]
          refine fin _ (pa_adv (pa_di c) (len - p) p) (-3) (if ¬ (w = true ∧ p = e) ∧ pt_e c len p - p ≤ 4 then 2 else 4) (by rw [pz_uk (by decide), pz_uk (by decide)]; exact t2) (by rw [pz_uk (by decide), pz_us]) (pz_us _ _ _ _ _) (fun j a b d => by rw [pz_uk d, pz_uk b]; exact tj j a b) (fun r i a => by rw [pz_up a, pz_up a]; exact to r i a) ee (by unfold pt_k; rw [if_neg g, if_neg gl, if_pos gd]) ?_
          rw [ee]
          by_cases q : w = true ∧ p = e
          · rw [if_neg (fun z => z.1 q), if_pos ⟨q, Or.inr rfl⟩]; rfl
          · rw [if_pos ⟨q, g4⟩, if_neg (fun z => q z.1)]; rfl
        · rw [sv_if_f (show ¬ nI _ ≤ (4 : Int32) from nI_ge (a := 4) (by omega) (by omega))]
          refine fin _ (pa_adv (pa_di c) (len - p) p) (-4) 4 (by rw [pz_uk (by decide), pz_uk (by decide)]; exact t2) (by rw [pz_uk (by decide), pz_us]) (pz_us _ _ _ _ _) (fun j a b d => by rw [pz_uk d, pz_uk b]; exact tj j a b) (fun r i a => by rw [pz_up a, pz_up a]; exact to r i a) ee (by unfold pt_k; rw [if_neg g, if_neg gl, if_pos gd, ee, if_neg (fun z => g4 z.2)]) ?_
          rw [if_neg (fun q => by rcases q.2 with q | q <;> exact absurd q (by decide))]; rfl
      · rw [if_neg gd]
        have := hc p
        refine fin _ (p + 1) (nI (c p)) 3 (by rw [pz_uk (by decide), pz_uk (by decide)]; exact t2) (pz_us _ _ _ _ _) (by rw [pz_uk (by decide), pz_us]) (fun j a b d => by rw [pz_uk b, pz_uk d]; exact tj j a b) (fun r i a => by rw [pz_up a, pz_up a]; exact to r i a) (by unfold pt_e; rw [if_neg g, if_neg gl, if_neg gd]) (by unfold pt_k; rw [if_neg g, if_neg gl, if_neg gd]) ?_
        have n2 : (nI (c p)).toInt = c p := pz_ti (by omega)
        rw [if_neg (fun q => by
          have m2 : (-2 : Int32).toInt = -2 := rfl
          have m3 : (-3 : Int32).toInt = -3 := rfl
          rcases q.2 with q | q <;> rw [pz_eq] at q <;> omega)]
        rfl
/-- the reference's next token -/
theorem mo_next {c : Nat → Nat} {len : Nat} (hl : len ≤ 96) (hc : ∀ i, c i < 256) {σ : sv_S} (h : pa_M c len σ) {e : Nat} (he : e ≤ len) (h3 : σ 30 0 19 = nI e) {w : Bool} (hw : w = true ↔ (0 < e ∧ (σ 30 0 20 = 1 ∨ σ 30 0 20 = 2))) : ∃ σ', f_Mo_nextToken σ = some σ' ∧ σ' 30 0 18 = nI (pt_p c len e) ∧ σ' 30 0 19 = nI (pt_e c len (pt_p c len e)) ∧ σ' 30 0 20 = nI (pt_k c len e (pt_p c len e) w) ∧ (pt_k c len e (pt_p c len e) w = 1 → σ' 30 0 22 = if pt_e c len (pt_p c len e) - pt_p c len e = 1 then nI (c (pt_p c len e)) else 0) ∧ (pt_k c len e (pt_p c len e) w = 3 → σ' 30 0 22 = nI (c (pt_p c len e))) ∧ (pt_k c len e (pt_p c len e) w = 2 → σ' 30 0 21 = pa_num c (pt_p c len e) (pt_e c len (pt_p c len e) - pt_p c len e)) ∧ (∀ j, j < 18 ∨ 22 < j → σ' 30 0 j = σ 30 0 j) ∧ ∀ r i, ¬ (r = 30 ∧ i = 0) → σ' r i = σ r i := by
  generalize hp : pt_p c len e = p
  have p1 : e ≤ p := by rw [← hp]; exact pa_adv_ge _ _ _
  have p2 : p ≤ len := by rw [← hp]; have := pa_adv_le (pa_sp c) (len - e) e; unfold pt_p; omega
  generalize hx : (if w = true then (1 : Int32) else 0) = x
  have s0 : f_Mo_nextToken σ = f_Mo_nextToken_34 sv_fu x (nI e) σ := by
    unfold f_Mo_nextToken f_Mo_nextToken_27 f_Mo_nextToken_23
    rw [h3, ← hx]
    by_cases g0 : 0 < e
    · rw [sv_if_f (show ¬ nI e ≤ (0 : Int32) from nI_ge (a := 0) g0 (by omega))]
      by_cases g1 : σ 30 0 20 = 1
      · rw [sv_if_t g1, if_pos (hw.mpr ⟨g0, Or.inl g1⟩)]
      · rw [sv_if_f g1]
        by_cases g2 : σ 30 0 20 = 2
        · rw [sv_if_t g2, if_pos (hw.mpr ⟨g0, Or.inr g2⟩)]
        · rw [sv_if_f g2, if_neg (fun q => by rcases (hw.mp q).2 with q | q; exact g1 q; exact g2 q)]
    · rw [sv_if_t (show nI e ≤ (0 : Int32) from nI_le (b := 0) (by omega) (by omega)), if_neg (fun q => g0 (hw.mp q).1)]
  generalize hy : (if w = true ∧ p = e then (1 : Int32) else 0) = y
  have s1 : f_Mo_nextToken_34 sv_fu x (nI e) σ = f_Mo_nextToken_89 y (sv_up σ 30 0 19 (nI p)) := by
    rw [mo_34 hl hc x (nI e) (len - e) e sv_fu σ (by omega) (by unfold sv_fu; omega) h h3, show pa_adv (pa_sp c) (len - e) e = p from hp]
    unfold f_Mo_nextToken_72
    rw [pz_us, ← hx, pz_if1, ← hy]
    by_cases g : w = true
    · rw [if_pos g]
      by_cases g2 : p = e
      · rw [sv_if_t (by rw [g2]), if_pos ⟨g, g2⟩]
      · rw [sv_if_f (fun q => g2 ((nI_eq (by omega) (by omega)).mp q).symm), if_neg (fun q => g2 q.2)]
    · rw [if_neg g, if_neg (fun q => g q.1)]
  generalize hτ : sv_up (sv_up σ 30 0 19 (nI p)) 30 0 18 (nI p) = τ
  have t2 : τ 30 0 18 = nI p := by rw [← hτ, pz_us]
  have t3 : τ 30 0 19 = nI p := by rw [← hτ, pz_uk (by decide), pz_us]
  have tC : pa_M c len τ := by rw [← hτ]; exact (h.up (by decide)).up (by decide)
  have tj : ∀ j, j < 18 ∨ 22 < j → τ 30 0 j = σ 30 0 j := fun j a => by rw [← hτ, pz_uk (by omega), pz_uk (by omega)]
  have to : ∀ r i, ¬ (r = 30 ∧ i = 0) → τ r i = σ r i := fun r i a => by rw [← hτ, pz_up a, pz_up a]
  have y0 : y = 0 ↔ ¬ (w = true ∧ p = e) := by
    rw [← hy]
    by_cases g : w = true ∧ p = e
    · rw [if_pos g]; exact ⟨fun q => absurd q (by decide), fun q => absurd g q⟩
    · rw [if_neg g]; exact ⟨fun _ => g, fun _ => rfl⟩
  rw [s0, s1]
  unfold f_Mo_nextToken_89
  dsimp only
  rw [show sv_up σ 30 0 19 (nI p) 30 0 19 = nI p from pz_us _ _ _ _ _, hτ, t2, tC.1]
  by_cases g : p = len
  · have ek : pt_k c len e p w = 0 := by unfold pt_k; rw [if_pos g]
    rw [sv_if_t (by rw [g]), ek]
    exact ⟨_, rfl, by rw [pz_uk (by decide)]; exact t2, by rw [pz_uk (by decide), t3]; unfold pt_e; rw [if_pos g], pz_us _ _ _ _ _, fun q => absurd q (by decide), fun q => absurd q (by decide), fun q => absurd q (by decide), fun j a => by rw [pz_uk (by omega)]; exact tj j a, fun r i a => by rw [pz_up a]; exact to r i a⟩
  · rw [sv_if_f (fun q => g ((nI_eq (by omega) (by omega)).mp q)), mo_let hl hc tC p2, pz_b, pz_if1, t2, mo_dig hl hc tC p2, pz_b, pz_if1]
    by_cases gl : pa_le c p = true
    · have ee : pt_e c len p = pa_adv (pa_le c) (len - p) p := by unfold pt_e; rw [if_neg g, if_pos gl]
      have a1 := pa_adv_ge (pa_le c) (len - p) p
      have a2 := pa_adv_le (pa_le c) (len - p) p
      have ek : pt_k c len e p w = if w = true ∧ p = e then 4 else 1 := by unfold pt_k; rw [if_neg g, if_pos gl]
      rw [if_pos ⟨by omega, gl⟩, mo_128 hl hc y (len - p) p sv_fu τ (by omega) (by unfold sv_fu; omega) tC t3]
      generalize hE : pa_adv (pa_le c) (len - p) p = E at *
      have es : nI E - nI p = nI (E - p) := pk_sub (by omega)
      have e20 : (if y = 0 then (1 : Int32) else 4) = nI (if w = true ∧ p = e then 4 else 1) := by
        by_cases q : w = true ∧ p = e
        · rw [if_pos q, if_neg (fun z => (y0.mp z) q)]; rfl
        · rw [if_neg q, if_pos (y0.mpr q)]; rfl
      rw [e20, ee, ek]
      generalize hk : (if w = true ∧ p = e then 4 else 1) = k
      have k2 : k ≠ 2 ∧ k ≠ 3 := by rw [← hk]; split <;> exact ⟨by decide, by decide⟩
      unfold f_Mo_nextToken_162
      dsimp only
      rw [pz_uk (by decide), pz_us, pz_uk (by decide), pz_uk (by decide), t2, es]
      by_cases g1 : E - p = 1
      · rw [sv_if_t (by rw [g1]; rfl), pz_in (by omega) (by omega), pz_cl (by omega), pz_ur (by decide), pz_ur (by decide), tC.2 p (by omega), if_pos g1]
        exact ⟨_, rfl, by rw [pz_uk (by decide), pz_uk (by decide), pz_uk (by decide)]; exact t2, by rw [pz_uk (by decide), pz_uk (by decide), pz_us], by rw [pz_uk (by decide), pz_us], fun _ => pz_us _ _ _ _ _, fun q => absurd q k2.2, fun q => absurd q k2.1, fun j a => by rw [pz_uk (by omega), pz_uk (by omega), pz_uk (by omega)]; exact tj j a, fun r i a => by rw [pz_up a, pz_up a, pz_up a]; exact to r i a⟩
      · rw [sv_if_f (show ¬ nI (E - p) = (1 : Int32) from fun q => g1 ((nI_eq (b := 1) (by omega) (by omega)).mp q)), if_neg g1]
        exact ⟨_, rfl, by rw [pz_uk (by decide), pz_uk (by decide), pz_uk (by decide)]; exact t2, by rw [pz_uk (by decide), pz_uk (by decide), pz_us], by rw [pz_uk (by decide), pz_us], fun _ => pz_us _ _ _ _ _, fun q => absurd q k2.2, fun q => absurd q k2.1, fun j a => by rw [pz_uk (by omega), pz_uk (by omega), pz_uk (by omega)]; exact tj j a, fun r i a => by rw [pz_up a, pz_up a, pz_up a]; exact to r i a⟩
    · rw [if_neg (fun q => gl q.2)]
      by_cases gd : pa_di c p = true
      · have ee : pt_e c len p = pa_adv (pa_di c) (len - p) p := by unfold pt_e; rw [if_neg g, if_neg gl, if_pos gd]
        have ek : pt_k c len e p w = if ¬ (w = true ∧ p = e) ∧ pt_e c len p - p ≤ 4 then 2 else 4 := by unfold pt_k; rw [if_neg g, if_neg gl, if_pos gd]
        rw [if_pos ⟨by omega, gd⟩]
        obtain ⟨υ, E, u0, u1, u2, u3, u4, u5, u6⟩ := mo_214 hl hc y (p := p) (len - p) 0 sv_fu (sv_up τ 30 0 21 0) (by omega) (by unfold sv_fu; omega) (tC.up (by decide)) (by rw [pz_uk (by decide)]; exact t2) (by rw [pz_uk (by decide)]; exact t3) (pz_us _ _ _ _ _)
        have eE : pt_e c len p = E := by rw [ee, u0]; rfl
        rw [eE] at ek ⊢
        refine ⟨υ, u1, by rw [u5 18 (by decide) (by decide) (by decide), pz_uk (by decide)]; exact t2, u2, ?_, fun q => ?_, fun q => ?_, fun q => ?_, fun j a => by rw [u5 j (by omega) (by omega) (by omega), pz_uk (by omega)]; exact tj j a, fun r i a => by rw [u6 r i a, pz_up a]; exact to r i a⟩
        · rw [u3, ek]
          by_cases q : ¬ (w = true ∧ p = e) ∧ E - p ≤ 4
          · rw [if_pos q, if_pos ⟨y0.mpr q.1, q.2⟩]; rfl
          · rw [if_neg q, if_neg (fun z => q ⟨y0.mp z.1, z.2⟩)]; rfl
        · rw [ek] at q; split at q <;> exact absurd q (by decide)
        · rw [ek] at q; split at q <;> exact absurd q (by decide)
        · rw [ek] at q
          by_cases z : ¬ (w = true ∧ p = e) ∧ E - p ≤ 4
          · rw [u4, if_pos z.2]
          · rw [if_neg z] at q; exact absurd q (by decide)
      · have ek : pt_k c len e p w = 3 := by unfold pt_k; rw [if_neg g, if_neg gl, if_neg gd]
        have ee : pt_e c len p = p + 1 := by unfold pt_e; rw [if_neg g, if_neg gl, if_neg gd]
        rw [if_neg (fun q => gd q.2), pz_uk (by decide), t2, pz_in (by omega) (by omega), pz_cl (by omega), pz_ur (by decide), tC.2 p (by omega), pz_uk (by decide), pz_uk (by decide), t3, nI_1, ek, ee]
        exact ⟨_, rfl, by rw [pz_uk (by decide), pz_uk (by decide), pz_uk (by decide)]; exact t2, pz_us _ _ _ _ _, by rw [pz_uk (by decide), pz_uk (by decide), pz_us]; rfl, fun q => absurd q (by decide), fun _ => by rw [pz_uk (by decide), pz_us], fun q => absurd q (by decide), fun j a => by rw [pz_uk (by omega), pz_uk (by omega), pz_uk (by omega)]; exact tj j a, fun r i a => by rw [pz_up a, pz_up a, pz_up a]; exact to r i a⟩
