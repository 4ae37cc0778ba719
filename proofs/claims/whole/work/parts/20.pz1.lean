/-! ===== pure: basis; what a text gives ===== -/
theorem pz_lt (a b : Int32) : a < b ↔ a.toInt < b.toInt := Int32.lt_iff_toInt_lt
theorem pz_le (a b : Int32) : a ≤ b ↔ a.toInt ≤ b.toInt := Int32.le_iff_toInt_le
theorem pz_eq (a b : Int32) : a = b ↔ a.toInt = b.toInt := Int32.toInt_inj.symm
theorem pz_lit (n : Nat) : (OfNat.ofNat n : Int32) = nI n := rfl
theorem pz_b {α β : Type} (a : α) (σ : sv_S) (k : α → sv_S → Option β) : sv_b (some (a, σ)) k = k a σ := rfl
theorem pz_b0 {β : Type} (σ : sv_S) (k : sv_S → Option β) : sv_b0 (some σ) k = k σ := rfl
theorem pz_bT0 {β : Type} (σ : sv_S) (k0 : sv_S → Option β) (k1 : Nat → sv_S → Option β) : sv_bT (some (none, σ)) k0 k1 = k0 σ := rfl
theorem pz_bT1 {β : Type} (t : Nat) (σ : sv_S) (k0 : sv_S → Option β) (k1 : Nat → sv_S → Option β) : sv_bT (some (some t, σ)) k0 k1 = k1 t σ := rfl
theorem pz_i {k n : Nat} (h : k < n) (hn : n < 2147483648) : sv_in (nI k) n := by
  have e : (nI k).toInt = (k : Int) := nI_toInt (by omega)
  refine ⟨?_, ?_⟩ <;> rw [e] <;> omega
theorem pz_in {β : Type} {k n : Nat} {x : Option β} (h : k < n) (hn : n < 2147483648) : sv_g (sv_in (nI k) n) x = x := sv_g_t (pz_i h hn)
theorem pz_cl {k : Nat} (h : k < 2147483648) : (nI k).toNatClampNeg = k := nI_clamp h
theorem pz_ti {k : Nat} (h : k < 2147483648) : (nI k).toInt = (k : Int) := nI_toInt h
theorem pz_01 {β : Type} {x : Option β} : sv_g ((0 : Int32) = 0 ∨ (0 : Int32) = 1) x = x := sv_g_t (Or.inl rfl)
theorem pz_11 {β : Type} {x : Option β} : sv_g ((1 : Int32) = 0 ∨ (1 : Int32) = 1) x = x := sv_g_t (Or.inr rfl)
theorem pz_i0 {β : Type} {x : Option β} (n : Nat) (h : 0 < n) : sv_g (sv_in (0 : Int32) n) x = x := sv_g_t ⟨by decide, by show (0 : Int) < n; omega⟩
/-- a row's own place, another's -/
theorem pz_us (σ : sv_S) (r i k : Nat) (n : Int32) : sv_up σ r i k n r i k = n := sv_up_self σ r i k n
theorem pz_uk {σ : sv_S} {r i k j : Nat} {n : Int32} (h : j ≠ k) : sv_up σ r i k n r i j = σ r i j := sv_up_k h
theorem pz_ui {σ : sv_S} {r i i' k j : Nat} {n : Int32} (h : i' ≠ i) : sv_up σ r i k n r i' j = σ r i' j := by rw [sv_up_o (fun q => h q.2)]
theorem pz_ur {σ : sv_S} {r r' i i' k j : Nat} {n : Int32} (h : r' ≠ r) : sv_up σ r i k n r' i' j = σ r' i' j := by rw [sv_up_o (fun q => h q.1)]
theorem pz_up {σ : sv_S} {r r' i i' k : Nat} {n : Int32} (h : ¬ (r' = r ∧ i' = i)) : sv_up σ r i k n r' i' = σ r' i' := sv_up_o h
/-- how a text's codes move its heap of numbers -/
def tx_h (cd : Nat → Int32) : Nat → Nat
  | 0 => 0
  | k + 1 => if cd k < 20000 then tx_h cd k + 1 else if cd k = 20033 then tx_h cd k else tx_h cd k - 1
def tx_j (s x y : Int32) : Int32 :=
  if s = 38 then (if x = 0 then 0 else if y = 0 then 0 else 1)
  else if s = 42 then x * y
  else if s = 43 then x + y
  else if s = 45 then x - y
  else if s = 60 then (if y ≤ x then 0 else 1)
  else if s = 61 then (if x = y then 1 else 0)
  else if s = 62 then (if x ≤ y then 0 else 1)
  else if s = 124 then (if x = 0 then (if y = 0 then 0 else 1) else 1)
  else (if y = 0 then 0 else x / y)
def tx_v (a b c x : Int32) : Int32 := if x < 10000 then x else if x = 10000 then a else if x = 10001 then b else c
def tx_a (cd : Nat → Int32) (a b c : Int32) : Nat → Nat → Int32
  | 0 => fun _ => 0
  | k + 1 => if cd k < 20000 then upd (tx_a cd a b c k) (tx_h cd k) (tx_v a b c (cd k))
    else if cd k = 20033 then upd (tx_a cd a b c k) (tx_h cd k - 1) (if tx_a cd a b c k (tx_h cd k - 1) = 0 then 1 else 0)
    else upd (tx_a cd a b c k) (tx_h cd k - 2) (tx_j (cd k - 20000) (tx_a cd a b c k (tx_h cd k - 2)) (tx_a cd a b c k (tx_h cd k - 1)))
def tx_sg (s : Int32) : Prop := s = 38 ∨ s = 42 ∨ s = 43 ∨ s = 45 ∨ s = 47 ∨ s = 60 ∨ s = 61 ∨ s = 62 ∨ s = 124
/-- codes that are a text's: q its key -/
def tx_ok (q : Nat) (x : Int32) : Prop := (∃ j : Nat, j < 10000 ∧ x = nI j) ∨ x = 10000 ∨ x = 10001 ∨ (x = 10002 ∧ q < 2) ∨ x = 20033 ∨ ∃ s, tx_sg s ∧ x = 20000 + s
def tx_w (q ops len : Nat) (cd : Nat → Int32) : Prop := q < 3 ∧ ops ≤ 96 ∧ len ≤ 96 ∧ 1 ≤ tx_h cd len ∧ (∀ k, k ≤ len → tx_h cd k ≤ ops) ∧ (∀ k, k < len → tx_ok q (cd k)) ∧ (∀ k, k < len → ¬ cd k < 20000 → if cd k = 20033 then 1 ≤ tx_h cd k else 2 ≤ tx_h cd k)
theorem tx_joinC (s x y : Int32) (h : tx_sg s) (σ : sv_S) : f_Te_joined s x y σ = some (tx_j s x y, σ) := by
  unfold tx_sg at h
  unfold f_Te_joined tx_j
  simp only [sv_if, sv_g]
  rcases h with h | h | h | h | h | h | h | h | h <;> subst h <;> simp <;> (repeat' split) <;> simp_all
theorem tx_dn (x : Int32) : -x = x / -1 := by
  apply Int32.toInt_inj.mp
  rw [Int32.toInt_neg, Int32.toInt_div]
  show (-x.toInt).bmod _ = (x.toInt.tdiv (-1)).bmod _
  rw [Int.tdiv_neg, Int.tdiv_one]
theorem tx_joinM (s x y : Int32) (h : tx_sg s) (σ : sv_S) : f_Mo_joined s x y σ = some (tx_j s x y, σ) := by
  unfold tx_sg at h
  unfold f_Mo_joined tx_j
  simp only [sv_if, sv_g]
  rcases h with h | h | h | h | h | h | h | h | h <;> subst h <;> simp <;> (repeat' split) <;> first | (simp_all; done) | (rename_i h; subst h; simp [← tx_dn]; done) | (simp_all; exact tx_dn _)
theorem tx_runC {t q ops len : Nat} {cd : Nat → Int32} {a b c : Int32} (hw : tx_w q ops len cd) : ∀ (r k fuel : Nat) (σ : sv_S), k + r = len → r < fuel → σ 18 t 1 = nI ops → σ 18 t 9 = nI len → (∀ j, j < len → σ 19 t j = cd j) → (∀ i, i < tx_h cd k → σ 20 t i = tx_a cd a b c k i) → ∃ σ', f_Te_gives_6 fuel t a b c (nI (tx_h cd k)) (nI k) σ = some (tx_a cd a b c len 0, σ') ∧ ∀ r i, ¬ (r = 20 ∧ i = t) → σ' r i = σ r i := by
  obtain ⟨hq, hops, hlen, h1, hle, hok, hst⟩ := hw
  intro r
  induction r with
  | zero =>
    intro k fuel σ hk hf hs1 hs9 hc hi
    obtain ⟨f, rfl⟩ : ∃ f, fuel = f + 1 := ⟨fuel - 1, by omega⟩
    have hk : k = len := by omega
    subst hk
    have hh := hle k (Nat.le_refl k)
    refine ⟨σ, ?_, fun _ _ _ => rfl⟩
    rw [f_Te_gives_6, hs9, hs1, pz_cl (by omega), pz_cl (by omega), sv_if_t (nI_le (Nat.le_refl k) (by omega)), sv_if_f (nI_nle (by omega) (by omega)), pz_i0 _ (by omega)]
    show some (σ 20 t 0, σ) = _
    rw [hi 0 (by omega)]
  | succ r ih =>
    intro k fuel σ hk hf hs1 hs9 hc hi
    obtain ⟨f, rfl⟩ : ∃ f, fuel = f + 1 := ⟨fuel - 1, by omega⟩
    have hkl : k < len := by omega
    have hh := hle k (by omega)
    have hh1 := hle (k + 1) (by omega)
    have hck := hc k hkl
    rw [f_Te_gives_6, hs9, hs1, pz_cl (k := len) (by omega), pz_cl (k := ops) (by omega), pz_cl (k := k) (by omega), sv_if_f (nI_ge hkl (by omega)), pz_in hkl (by omega), hck]
    have e1 : nI k + (1 : Int32) = nI (k + 1) := nI_1 k
    by_cases hx : cd k < 20000
    · have hn : tx_h cd (k + 1) = tx_h cd k + 1 := by simp [tx_h, hx]
      rw [sv_if_f (Int32.not_le.mpr hx), sv_if_f (nI_ge (by omega) (by omega))]
      have hv : ∀ (g : Int32 → Option (Int32 × sv_S)), sv_if ((10000 : Int32) ≤ cd k) (sv_if (cd k = 10000) (g a) (sv_if (cd k = 10001) (g b) (g c))) (g (cd k)) = g (tx_v a b c (cd k)) := by
        intro g
        unfold tx_v
        simp only [sv_if]
        by_cases h0 : cd k < 10000
        · rw [if_neg (Int32.not_le.mpr h0), if_pos h0]
        · rw [if_pos (Int32.not_lt.mp h0), if_neg h0]
          split
          · rfl
          · split <;> rfl
      rw [hv (fun z => f_Te_gives_87 (f_Te_gives_6 f) t a b c (nI (tx_h cd k)) (nI k) z (nI (tx_h cd k)) t σ)]
      unfold f_Te_gives_87
      rw [hs1, pz_cl (k := ops) (by omega), pz_in (by omega) (by omega), pz_cl (by omega), nI_1, e1, ← hn]
      obtain ⟨σ', g1, g2⟩ := ih (k + 1) f (sv_up σ 20 t (tx_h cd k) (tx_v a b c (cd k))) (by omega) (by omega) (by rw [pz_ur (by decide)]; exact hs1) (by rw [pz_ur (by decide)]; exact hs9) (fun j hj => by rw [pz_ur (by decide)]; exact hc j hj) (fun i hi' => by
        simp only [tx_a, if_pos hx]
        by_cases hik : i = tx_h cd k
        · subst hik; rw [pz_us, pk_us]
        · rw [pz_uk hik, pk_un hik]; exact hi i (by omega))
      exact ⟨σ', g1, fun r i hri => by rw [g2 r i hri, pz_up hri]⟩
    · rw [sv_if_t (Int32.not_lt.mp hx)]
      have hs := hst k hkl hx
      by_cases h3 : cd k = 20033
      · rw [if_pos h3] at hs
        have hn : tx_h cd (k + 1) = tx_h cd k := by simp [tx_h, hx, h3]
        have em : nI (tx_h cd k) - (1 : Int32) = nI (tx_h cd k - 1) := pk_sub (b := 1) hs
        rw [sv_if_t h3, sv_if_f (by rw [show (1 : Int32) = nI 1 from rfl]; exact nI_nlt hs (by omega)), em, pz_in (by omega) (by omega), pz_in (by omega) (by omega), pz_in (by omega) (by omega), pz_cl (by omega), hi _ (by omega), e1]
        have hv : ∀ (g : Int32 → Option (Int32 × sv_S)), sv_if (tx_a cd a b c k (tx_h cd k - 1) = 0) (g 1) (g 0) = g (if tx_a cd a b c k (tx_h cd k - 1) = 0 then 1 else 0) := by
          intro g
          simp only [sv_if]
          split <;> rfl
        rw [hv (fun z => f_Te_gives_6 f t a b c (nI (tx_h cd k)) (nI (k + 1)) (sv_up σ 20 t (tx_h cd k - 1) z))]
        obtain ⟨σ', g1, g2⟩ := ih (k + 1) f (sv_up σ 20 t (tx_h cd k - 1) (if tx_a cd a b c k (tx_h cd k - 1) = 0 then 1 else 0)) (by omega) (by omega) (by rw [pz_ur (by decide)]; exact hs1) (by rw [pz_ur (by decide)]; exact hs9) (fun j hj => by rw [pz_ur (by decide)]; exact hc j hj) (fun i hi' => by
          simp only [tx_a, if_neg hx, if_pos h3]
          by_cases hik : i = tx_h cd k - 1
          · subst hik; rw [pz_us, pk_us]
          · rw [pz_uk hik, pk_un hik]; exact hi i (by omega))
        rw [hn] at g1
        exact ⟨σ', g1, fun r i hri => by rw [g2 r i hri, pz_up hri]⟩
      · rw [if_neg h3] at hs
        have hn : tx_h cd (k + 1) = tx_h cd k - 1 := by simp [tx_h, hx, h3]
        have em : nI (tx_h cd k) + (-1 : Int32) = nI (tx_h cd k - 1) := sb_m1 (by omega)
        have em2 : nI (tx_h cd k - 1) - (1 : Int32) = nI (tx_h cd k - 2) := pk_sub (a := tx_h cd k - 1) (b := 1) (by omega)
        have hsg : tx_sg (cd k - 20000) := by
          rcases hok k hkl with ⟨j, hj, e⟩ | e | e | e | e | ⟨s, h, e⟩
          · exact absurd (by rw [e]; exact nI_lt (b := 20000) (by omega) (by omega)) hx
          · exact absurd (by rw [e]; decide) hx
          · exact absurd (by rw [e]; decide) hx
          · exact absurd (by rw [e.1]; decide) hx
          · exact absurd e h3
          · rw [e]
            have e2 : (20000 : Int32) + s - 20000 = s := by rw [Int32.add_comm]; exact Int32.add_sub_cancel s 20000
            rw [e2]; exact h
        rw [sv_if_f h3, sv_if_f (by rw [show (2 : Int32) = nI 2 from rfl]; exact nI_nlt hs (by omega)), em, em2, pz_in (by omega) (by omega), pz_in (by omega) (by omega), pz_cl (k := tx_h cd k - 2) (by omega), pz_cl (k := tx_h cd k - 1) (by omega), hi _ (by omega), hi _ (by omega), tx_joinC _ _ _ hsg, pz_b, hs1, pz_cl (k := ops) (by omega), pz_in (by omega) (by omega), e1]
        obtain ⟨σ', g1, g2⟩ := ih (k + 1) f (sv_up σ 20 t (tx_h cd k - 2) (tx_j (cd k - 20000) (tx_a cd a b c k (tx_h cd k - 2)) (tx_a cd a b c k (tx_h cd k - 1)))) (by omega) (by omega) (by rw [pz_ur (by decide)]; exact hs1) (by rw [pz_ur (by decide)]; exact hs9) (fun j hj => by rw [pz_ur (by decide)]; exact hc j hj) (fun i hi' => by
          simp only [tx_a, if_neg hx, if_neg h3]
          by_cases hik : i = tx_h cd k - 2
          · subst hik; rw [pz_us, pk_us]
          · rw [pz_uk hik, pk_un hik]; exact hi i (by omega))
        rw [hn] at g1
        exact ⟨σ', g1, fun r i hri => by rw [g2 r i hri, pz_up hri]⟩
/-- the letters of a key's names -/
def tx_l (q i : Nat) : Nat := if q = 0 then (if i = 0 then 108 else if i = 1 then 114 else 110) else if q = 1 then (if i = 0 then 115 else if i = 1 then 110 else 98) else (if i = 0 then 109 else 98)
theorem tx_l_lt (q i : Nat) : tx_l q i < 128 := by
  unfold tx_l
  repeat' split
  all_goals decide
def tx_wh (x : Int32) : Int32 := if x < 10000 then 0 else if x < 20000 then 1 else 2
def tx_vl (q : Nat) (x : Int32) : Int32 := if x < 10000 then x else if x = 10000 then nI (tx_l q 0) else if x = 10001 then nI (tx_l q 1) else if x = 10002 then nI (tx_l q 2) else x - 20000
theorem mo_textAt (t : Nat) (σ : sv_S) : f_Mo_textAt (nI t) σ = some (nI (86 + 200 * t), σ) := by
  unfold f_Mo_textAt
  rw [show (86 : Int32) + 200 * nI t = nI 86 + nI 200 * nI t from rfl, pk_mul, nI_add]
theorem mo_tx2 (t : Nat) : nI (86 + 200 * t) + (2 : Int32) = nI (88 + 200 * t) := by
  rw [show nI (86 + 200 * t) + (2 : Int32) = nI (86 + 200 * t) + nI 2 from rfl, nI_add]; congr 1; omega
theorem mo_tx4 (t k : Nat) : nI (86 + 200 * t) + (4 : Int32) + 2 * nI k = nI (90 + 200 * t + 2 * k) := by
  rw [show nI (86 + 200 * t) + (4 : Int32) + 2 * nI k = nI (86 + 200 * t) + nI 4 + nI 2 * nI k from rfl, pk_mul, nI_add, nI_add]; congr 1; omega
theorem mo_tx5 (t k : Nat) : nI (90 + 200 * t + 2 * k) + (1 : Int32) = nI (91 + 200 * t + 2 * k) := by
  rw [nI_1]; congr 1; omega
theorem tx_okW {q : Nat} {x : Int32} (h : tx_ok q x) : (tx_wh x = 0 ∧ x < 20000 ∧ tx_vl q x = x ∧ ∀ a b c, tx_v a b c x = x) ∨ (tx_wh x = 1 ∧ x < 20000 ∧ ∃ i, (i = 0 ∧ (∀ a b c, tx_v a b c x = a) ∨ i = 1 ∧ (∀ a b c, tx_v a b c x = b) ∨ i = 2 ∧ q < 2 ∧ ∀ a b c, tx_v a b c x = c) ∧ tx_vl q x = nI (tx_l q i)) ∨ (tx_wh x = 2 ∧ ¬ x < 20000 ∧ tx_vl q x = x - 20000 ∧ (x = 20033 ∨ x ≠ 20033 ∧ tx_sg (x - 20000))) := by
  rcases h with ⟨j, hj, e⟩ | e | e | e | e | ⟨s, h, e⟩
  · have h1 : x < 10000 := by rw [e]; exact nI_lt (b := 10000) hj (by omega)
    have h2 : x < 20000 := by rw [e]; exact nI_lt (b := 20000) (by omega) (by omega)
    refine Or.inl ⟨?_, h2, ?_, fun a b c => ?_⟩
    · simp [tx_wh, h1]
    · simp [tx_vl, h1]
    · simp [tx_v, h1]
  · subst e
    exact Or.inr (Or.inl ⟨by decide, by decide, 0, Or.inl ⟨rfl, fun a b c => by simp [tx_v]⟩, by simp [tx_vl]⟩)
  · subst e
    exact Or.inr (Or.inl ⟨by decide, by decide, 1, Or.inr (Or.inl ⟨rfl, fun a b c => by simp [tx_v]⟩), by simp [tx_vl]⟩)
  · obtain ⟨e, hq⟩ := e
    subst e
    exact Or.inr (Or.inl ⟨by decide, by decide, 2, Or.inr (Or.inr ⟨rfl, hq, fun a b c => by simp [tx_v]⟩), by simp [tx_vl]⟩)
  · subst e
    exact Or.inr (Or.inr ⟨by decide, by decide, by simp [tx_vl], Or.inl rfl⟩)
  · have e2 : x - 20000 = s := by rw [e, Int32.add_comm]; exact Int32.add_sub_cancel s 20000
    refine Or.inr (Or.inr ?_)
    rw [e2]
    unfold tx_sg at h
    rcases h with h | h | h | h | h | h | h | h | h <;> subst h <;> subst e <;> exact ⟨by decide, by decide, by simp [tx_vl], Or.inr ⟨by decide, by simp [tx_sg]⟩⟩
theorem tx_runM {t q ops len : Nat} {cd : Nat → Int32} {a b c : Int32} (hw : tx_w q ops len cd) (ht : t < 15) : ∀ (r k fuel : Nat) (σ : sv_S), k + r = len → r < fuel → σ 31 0 (88 + 200 * t) = nI len → (∀ j, j < len → σ 31 0 (90 + 200 * t + 2 * j) = tx_wh (cd j) ∧ σ 31 0 (91 + 200 * t + 2 * j) = tx_vl q (cd j)) → σ 31 28 (tx_l q 0) = a → σ 31 28 (tx_l q 1) = b → (q < 2 → σ 31 28 (tx_l q 2) = c) → (∀ i, i < tx_h cd k → σ 31 29 i = tx_a cd a b c k i) → ∃ σ', f_Mo_worked_4 fuel (nI t) (nI (tx_h cd k)) (nI k) σ = some (tx_a cd a b c len 0, σ') ∧ ∀ r i, ¬ (r = 31 ∧ i = 29) → σ' r i = σ r i := by
  obtain ⟨hq, hops, hlen, h1, hle, hok, hst⟩ := hw
  intro r
  induction r with
  | zero =>
    intro k fuel σ hk hf hs9 hc n0 n1 n2 hi
    obtain ⟨f, rfl⟩ : ∃ f, fuel = f + 1 := ⟨fuel - 1, by omega⟩
    have hk : k = len := by omega
    subst hk
    have hh := hle k (Nat.le_refl k)
    refine ⟨σ, ?_, fun _ _ _ => rfl⟩
    rw [f_Mo_worked_4, mo_textAt, pz_b, mo_tx2, pz_in (by omega) (by omega), pz_cl (by omega), hs9, sv_if_t (nI_le (Nat.le_refl k) (by omega)), pz_i0 _ (by omega)]
    show some (σ 31 29 0, σ) = _
    rw [hi 0 (by omega)]
  | succ r ih =>
    intro k fuel σ hk hf hs9 hc n0 n1 n2 hi
    obtain ⟨f, rfl⟩ : ∃ f, fuel = f + 1 := ⟨fuel - 1, by omega⟩
    have hkl : k < len := by omega
    have hh := hle k (by omega)
    have hh1 := hle (k + 1) (by omega)
    obtain ⟨hc1, hc2⟩ := hc k hkl
    have e1 : nI k + (1 : Int32) = nI (k + 1) := nI_1 k
    rw [f_Mo_worked_4, mo_textAt, pz_b, mo_tx2, pz_in (by omega) (by omega), pz_cl (by omega), hs9, sv_if_f (nI_ge hkl (by omega)), mo_textAt, pz_b, mo_tx4, pz_in (by omega) (by omega), mo_textAt, pz_b, mo_tx4, mo_tx5, pz_in (by omega) (by omega), pz_cl (by omega), pz_cl (by omega), hc1, hc2]
    have IH : ∀ (z : Nat) (v : Int32), (∀ i, i < tx_h cd (k + 1) → i ≠ z → tx_a cd a b c (k + 1) i = tx_a cd a b c k i ∧ i < tx_h cd k) → tx_a cd a b c (k + 1) z = v → ∃ σ', f_Mo_worked_4 f (nI t) (nI (tx_h cd (k + 1))) (nI (k + 1)) (sv_up σ 31 29 z v) = some (tx_a cd a b c len 0, σ') ∧ ∀ r i, ¬ (r = 31 ∧ i = 29) → σ' r i = σ r i := by
      intro z v hz hv
      obtain ⟨σ', g1, g2⟩ := ih (k + 1) f (sv_up σ 31 29 z v) (by omega) (by omega) (by rw [pz_ui (by decide)]; exact hs9) (fun j hj => by rw [pz_ui (by decide), pz_ui (by decide)]; exact hc j hj) (by rw [pz_ui (by decide)]; exact n0) (by rw [pz_ui (by decide)]; exact n1) (fun hq => by rw [pz_ui (by decide)]; exact n2 hq) (fun i hi' => by
        by_cases hik : i = z
        · subst hik; rw [pz_us, hv]
        · rw [pz_uk hik, (hz i hi' hik).1]; exact hi i (hz i hi' hik).2)
      exact ⟨σ', g1, fun r i hri => by rw [g2 r i hri, pz_up hri]⟩
    rcases tx_okW (hok k hkl) with ⟨w, hx, hvl, hv⟩ | ⟨w, hx, i, hi3, hvl⟩ | ⟨w, hx, hvl, hs3⟩
    · have hn : tx_h cd (k + 1) = tx_h cd k + 1 := by simp [tx_h, hx]
      rw [w, hvl, sv_if_f (by decide), sv_if_t rfl]
      unfold f_Mo_worked_86
      rw [show sv_ml 29 = 100 from rfl, pz_in (by omega) (by omega), pz_cl (by omega), nI_1, e1, ← hn]
      refine IH _ _ (fun i hi' hne => ?_) ?_
      · simp only [tx_a, if_pos hx]
        exact ⟨pk_un hne, by omega⟩
      · simp only [tx_a, if_pos hx]
        rw [pk_us, hv]
    · have hn : tx_h cd (k + 1) = tx_h cd k + 1 := by simp [tx_h, hx]
      have hl := tx_l_lt q i
      have hnm : σ 31 28 (tx_l q i) = tx_v a b c (cd k) := by
        rcases hi3 with ⟨rfl, h⟩ | ⟨rfl, h⟩ | ⟨rfl, hq2, h⟩
        · rw [h, n0]
        · rw [h, n1]
        · rw [h, n2 hq2]
      rw [w, hvl, sv_if_f (by decide), sv_if_f (by decide), pz_in hl (by omega), pz_cl (by omega), hnm]
      unfold f_Mo_worked_86
      rw [show sv_ml 29 = 100 from rfl, pz_in (by omega) (by omega), pz_cl (by omega), nI_1, e1, ← hn]
      refine IH _ _ (fun i hi' hne => ?_) ?_
      · simp only [tx_a, if_pos hx]
        exact ⟨pk_un hne, by omega⟩
      · simp only [tx_a, if_pos hx]
        rw [pk_us]
    · have hs := hst k hkl hx
      rw [w, hvl, sv_if_t rfl]
      rcases hs3 with h3 | ⟨h3, hsg⟩
      · rw [if_pos h3] at hs
        have hn : tx_h cd (k + 1) = tx_h cd k := by simp [tx_h, hx, h3]
        have em : nI (tx_h cd k) - (1 : Int32) = nI (tx_h cd k - 1) := pk_sub (b := 1) hs
        rw [sv_if_t (by rw [h3]; decide), em, pz_in (by omega) (by omega), pz_in (by omega) (by omega), pz_in (by omega) (by omega), pz_cl (by omega), hi _ (by omega), e1]
        have hv : ∀ (g : Int32 → Option (Int32 × sv_S)), sv_if (tx_a cd a b c k (tx_h cd k - 1) = 0) (g 1) (g 0) = g (if tx_a cd a b c k (tx_h cd k - 1) = 0 then 1 else 0) := by
          intro g
          simp only [sv_if]
          split <;> rfl
        rw [hv (fun z => f_Mo_worked_4 f (nI t) (nI (tx_h cd k)) (nI (k + 1)) (sv_up σ 31 29 (tx_h cd k - 1) z))]
        have g := IH (tx_h cd k - 1) (if tx_a cd a b c k (tx_h cd k - 1) = 0 then 1 else 0) (fun i hi' hne => ?_) ?_
        · rw [hn] at g
          exact g
        · simp only [tx_a, if_neg hx, if_pos h3]
          exact ⟨pk_un hne, by omega⟩
        · simp only [tx_a, if_neg hx, if_pos h3]
          rw [pk_us]
      · rw [if_neg h3] at hs
        have hn : tx_h cd (k + 1) = tx_h cd k - 1 := by simp [tx_h, hx, h3]
        have em : nI (tx_h cd k) + (-1 : Int32) = nI (tx_h cd k - 1) := sb_m1 (by omega)
        have em2 : nI (tx_h cd k - 1) - (1 : Int32) = nI (tx_h cd k - 2) := pk_sub (a := tx_h cd k - 1) (b := 1) (by omega)
        have hne : ¬ cd k - 20000 = 33 := by
          intro e
          unfold tx_sg at hsg
          rw [e] at hsg
          revert hsg
          decide
        rw [sv_if_f hne, em, em2, pz_in (by omega) (by omega), pz_in (by omega) (by omega), pz_cl (k := tx_h cd k - 2) (by omega), pz_cl (k := tx_h cd k - 1) (by omega), hi _ (by omega), hi _ (by omega), tx_joinM _ _ _ hsg, pz_b, pz_in (by omega) (by omega), e1, ← hn]
        refine IH _ _ (fun i hi' hne => ?_) ?_
        · simp only [tx_a, if_neg hx, if_neg h3]
          exact ⟨pk_un hne, by omega⟩
        · simp only [tx_a, if_neg hx, if_neg h3]
          rw [pk_us, hn]
