/-! ===== pure: the parsers' state; key ===== -/
def pa_T (c : Nat → Nat) (len p e k : Nat) (σ τ : sv_S) : Prop := (pa_C c len σ ∧ pa_M c len τ ∧ p ≤ e ∧ e ≤ len ∧ k ≤ 4 ∧ (k ≠ 0 → p < e)) ∧ (σ 8 0 2 = nI p ∧ σ 8 0 3 = nI e ∧ σ 8 0 4 = pt_t c p k) ∧ (τ 30 0 18 = nI p ∧ τ 30 0 19 = nI e ∧ τ 30 0 20 = nI k) ∧ (k = 1 → τ 30 0 22 = (if e - p = 1 then nI (c p) else 0) ∧ pa_le c p = true) ∧ (k = 2 → τ 30 0 21 = pa_num c p (e - p) ∧ e - p ≤ 4 ∧ ∀ i, p ≤ i → i < e → pa_di c i = true) ∧ (k = 3 → τ 30 0 22 = nI (c p))
def pa_fC (σ σ' : sv_S) : Prop := (∀ j, j ≠ 2 → j ≠ 3 → j ≠ 4 → σ' 8 0 j = σ 8 0 j) ∧ ∀ r i, ¬ (r = 8 ∧ i = 0) → σ' r i = σ r i
def pa_fM (τ τ' : sv_S) : Prop := (∀ j, j < 18 ∨ 22 < j → τ' 30 0 j = τ 30 0 j) ∧ ∀ r i, ¬ (r = 30 ∧ i = 0) → τ' r i = τ r i
theorem pt_t2 {c : Nat → Nat} (hc : ∀ i, c i < 256) {p k : Nat} (hk : k ≤ 4) : (pt_t c p k = -2 ↔ k = 1) ∧ (pt_t c p k = -3 ↔ k = 2) ∧ (pt_t c p k = -1 ↔ k = 0) ∧ (k ≠ 3 → (pt_t c p k).toInt < 0) ∧ (k = 3 → pt_t c p k = nI (c p)) := by
  have h := hc p
  have en : (nI (c p)).toInt = c p := pz_ti (by omega)
  have m1 : (-1 : Int32).toInt = -1 := rfl
  have m2 : (-2 : Int32).toInt = -2 := rfl
  have m3 : (-3 : Int32).toInt = -3 := rfl
  have m4 : (-4 : Int32).toInt = -4 := rfl
  unfold pt_t
  by_cases k0 : k = 0
  · rw [if_pos k0]; refine ⟨?_, ?_, ?_, ?_, ?_⟩ <;> (try rw [pz_eq]) <;> omega
  · rw [if_neg k0]
    by_cases k1 : k = 1
    · rw [if_pos k1]; refine ⟨?_, ?_, ?_, ?_, ?_⟩ <;> (try rw [pz_eq]) <;> omega
    · rw [if_neg k1]
      by_cases k2 : k = 2
      · rw [if_pos k2]; refine ⟨?_, ?_, ?_, ?_, ?_⟩ <;> (try rw [pz_eq]) <;> omega
      · rw [if_neg k2]
        by_cases k3 : k = 3
        · rw [if_pos k3]; refine ⟨?_, ?_, ?_, ?_, fun _ => rfl⟩ <;> (try rw [pz_eq]) <;> omega
        · rw [if_neg k3]; refine ⟨?_, ?_, ?_, ?_, ?_⟩ <;> (try rw [pz_eq]) <;> omega
theorem pt_ge {c : Nat → Nat} {len p : Nat} (h : p ≤ len) : p ≤ pt_e c len p ∧ pt_e c len p ≤ len ∧ (p ≠ len → p < pt_e c len p) := by
  have s : ∀ P : Nat → Bool, P p = true → p ≠ len → p < pa_adv P (len - p) p := by
    intro P hP hp
    obtain ⟨r, hr⟩ : ∃ r, len - p = r + 1 := ⟨len - p - 1, by omega⟩
    rw [hr, pa_adv_t hP]
    have := pa_adv_ge P r (p + 1)
    omega
  unfold pt_e
  by_cases g : p = len
  · rw [if_pos g]; omega
  · rw [if_neg g]
    by_cases gl : pa_le c p = true
    · rw [if_pos gl]
      have a := pa_adv_le (pa_le c) (len - p) p
      have b := s _ gl g
      omega
    · rw [if_neg gl]
      by_cases gd : pa_di c p = true
      · rw [if_pos gd]
        have a := pa_adv_le (pa_di c) (len - p) p
        have b := s _ gd g
        omega
      · rw [if_neg gd]; omega
/-- both go to the next token -/
theorem pa_next {c : Nat → Nat} {len : Nat} (hl : len ≤ 96) (hc : ∀ i, c i < 256) {σ τ : sv_S} (hC : pa_C c len σ) (hM : pa_M c len τ) {e : Nat} (he : e ≤ len) (h3 : σ 8 0 3 = nI e) (h19 : τ 30 0 19 = nI e) (w : Bool) (hw : w = true ↔ (σ 8 0 4 = -2 ∨ σ 8 0 4 = -3)) (hw2 : w = true ↔ (0 < e ∧ (τ 30 0 20 = 1 ∨ τ 30 0 20 = 2))) : ∃ (σ' τ' : sv_S) (p' e' k' : Nat), f_Ta_next σ = some σ' ∧ f_Mo_nextToken τ = some τ' ∧ pa_T c len p' e' k' σ' τ' ∧ e ≤ p' ∧ pa_fC σ σ' ∧ pa_fM τ τ' := by
  obtain ⟨σ', a1, a2, a3, a4, a5, a6⟩ := ta_next hl hc hC he h3 hw
  obtain ⟨τ', b1, b2, b3, b4, b5, b6, b7, b8, b9⟩ := mo_next hl hc hM he h19 hw2
  generalize hp : pt_p c len e = p at *
  have p1 : e ≤ p := by rw [← hp]; exact pa_adv_ge _ _ _
  have p2 : p ≤ len := by rw [← hp]; have := pa_adv_le (pa_sp c) (len - e) e; unfold pt_p; omega
  obtain ⟨g1, g2, g3⟩ := pt_ge (c := c) p2
  have K : pt_k c len e p w ≤ 4 ∧ (pt_k c len e p w ≠ 0 → p ≠ len) ∧ (pt_k c len e p w = 1 → pa_le c p = true) ∧ (pt_k c len e p w = 2 → pa_le c p ≠ true ∧ pa_di c p = true ∧ p ≠ len ∧ pt_e c len p - p ≤ 4) := by
    unfold pt_k
    by_cases g : p = len
    · rw [if_pos g]; exact ⟨by decide, fun q => absurd rfl q, fun q => absurd q (by decide), fun q => absurd q (by decide)⟩
    · rw [if_neg g]
      by_cases gl : pa_le c p = true
      · rw [if_pos gl]
        split <;> exact ⟨by decide, fun _ => g, fun _ => gl, fun q => absurd q (by decide)⟩
      · rw [if_neg gl]
        by_cases gd : pa_di c p = true
        · rw [if_pos gd]
          split
          · rename_i q; exact ⟨by decide, fun _ => g, fun q => absurd q (by decide), fun _ => ⟨gl, gd, g, q.2⟩⟩
          · exact ⟨by decide, fun _ => g, fun q => absurd q (by decide), fun q => absurd q (by decide)⟩
        · rw [if_neg gd]; exact ⟨by decide, fun _ => g, fun q => absurd q (by decide), fun q => absurd q (by decide)⟩
  obtain ⟨K1, K2, K3, K4⟩ := K
  refine ⟨σ', τ', p, pt_e c len p, pt_k c len e p w, a1, b1, ⟨⟨⟨by rw [a5 1 (by decide) (by decide) (by decide)]; exact hC.1, fun i hi => by rw [a6 9 0 (by omega)]; exact hC.2 i hi⟩, ⟨by rw [b8 17 (by omega)]; exact hM.1, fun i hi => by rw [b9 31 16 (by omega)]; exact hM.2 i hi⟩, g1, g2, K1, fun q => g3 (K2 q)⟩, ⟨a2, a3, a4⟩, ⟨b2, b3, b4⟩, fun q => ⟨b5 q, K3 q⟩, fun q => ⟨b7 q, (K4 q).2.2.2, fun i hi hi2 => ?_⟩, b6⟩, p1, ⟨a5, a6⟩, ⟨b8, b9⟩⟩
  obtain ⟨z1, z2, z3, z4⟩ := K4 q
  have ee : pt_e c len p = pa_adv (pa_di c) (len - p) p := by unfold pt_e; rw [if_neg z3, if_neg z1, if_pos z2]
  rw [ee] at hi2
  exact pa_adv_in _ _ _ i hi hi2
theorem pa_T.next {c : Nat → Nat} {len : Nat} (hl : len ≤ 96) (hc : ∀ i, c i < 256) {σ τ : sv_S} {p e k : Nat} (h : pa_T c len p e k σ τ) : ∃ (σ' τ' : sv_S) (p' e' k' : Nat), f_Ta_next σ = some σ' ∧ f_Mo_nextToken τ = some τ' ∧ pa_T c len p' e' k' σ' τ' ∧ e ≤ p' ∧ pa_fC σ σ' ∧ pa_fM τ τ' := by
  obtain ⟨⟨h1, h2, h3, h4, h5, h6⟩, ⟨h7, h8, h9⟩, ⟨h10, h11, h12⟩, -⟩ := h
  obtain ⟨t1, t2, -⟩ := pt_t2 hc (p := p) h5
  refine pa_next hl hc h1 h2 h4 h8 h11 (decide (k = 1 ∨ k = 2)) ?_ ?_
  · rw [h9, t1, t2, decide_eq_true_eq]
  · rw [h12, decide_eq_true_eq, show (1 : Int32) = nI 1 from rfl, show (2 : Int32) = nI 2 from rfl, nI_eq (by omega) (by omega), nI_eq (by omega) (by omega)]
    exact ⟨fun q => ⟨by have := h6 (by omega); omega, q⟩, fun q => q.2⟩
/-! the key -/
def pw (c : Nat → Nat) (p e : Nat) (l : List Nat) : Prop := e - p = l.length ∧ ∀ i, i < l.length → c (p + i) = l.getD i 0
def wl (q : Nat) : List Nat := if q = 0 then [104, 101, 97, 114] else if q = 1 then [115, 116, 97, 114, 116] else [102, 105, 110, 101]
theorem wl_ok : ∀ q, q < 3 → sv_tl.getD q 0 = (wl q).length ∧ (wl q).length ≤ 5 ∧ (∀ i, i < 6 → (wl q).getD i 0 < 256) ∧ ∀ i, i < (wl q).length → (sv_tb.getD q []).getD i 0 = nI ((wl q).getD i 0) := by decide +kernel
theorem ta_word20 {c : Nat → Nat} {len : Nat} (hl : len ≤ 96) (hc : ∀ i, c i < 256) {σ : sv_S} (h : pa_C c len σ) {p q : Nat} (hq : q < 3) (h2 : σ 8 0 2 = nI p) (hp : p + (wl q).length ≤ len) : ∀ (r k fuel : Nat), k + r = (wl q).length → r < fuel → ∃ v, f_Ta_isTheWord_20 fuel q (nI k) σ = some (v, σ) ∧ (v = 1 ∧ (∀ i, k ≤ i → i < (wl q).length → c (p + i) = (wl q).getD i 0) ∨ v = 0 ∧ ¬ (∀ i, k ≤ i → i < (wl q).length → c (p + i) = (wl q).getD i 0)) := by
  obtain ⟨w1, w2, w3, w4⟩ := wl_ok q hq
  intro r
  induction r with
  | zero =>
    intro k fuel hk hf
    obtain ⟨f, rfl⟩ : ∃ f, fuel = f + 1 := ⟨fuel - 1, by omega⟩
    refine ⟨1, ?_, Or.inl ⟨rfl, fun i a b => by omega⟩⟩
    rw [f_Ta_isTheWord_20]
    unfold f_Js_length
    rw [pz_b, w1, sv_if_t (nI_le (by omega) (by omega)), pz_11]
  | succ r ih =>
    intro k fuel hk hf
    obtain ⟨f, rfl⟩ : ∃ f, fuel = f + 1 := ⟨fuel - 1, by omega⟩
    rw [f_Ta_isTheWord_20]
    unfold f_Js_length f_Js_charAt
    rw [pz_b, w1, sv_if_f (nI_ge (by omega) (by omega)), h2, nI_add, ta_byte hl hc h (by omega), pz_b, pz_in (by omega) (by omega), pz_cl (by omega), pz_b, w4 k (by omega), nI_1]
    have b1 := hc (p + k)
    have b2 := w3 k (by omega)
    by_cases g : c (p + k) = (wl q).getD k 0
    · rw [sv_if_t (by rw [g])]
      obtain ⟨v, v1, v2⟩ := ih (k + 1) f (by omega) (by omega)
      refine ⟨v, v1, ?_⟩
      rcases v2 with ⟨a, b⟩ | ⟨a, b⟩
      · exact Or.inl ⟨a, fun i x y => by
          by_cases z : i = k
          · rw [z]; exact g
          · exact b i (by omega) y⟩
      · exact Or.inr ⟨a, fun z => b (fun i x y => z i (by omega) y)⟩
    · rw [sv_if_f (fun z => g ((nI_eq (by omega) (by omega)).mp z)), pz_01]
      exact ⟨0, rfl, Or.inr ⟨rfl, fun z => g (z k (Nat.le_refl k) (by omega))⟩⟩
theorem ta_word {c : Nat → Nat} {len : Nat} (hl : len ≤ 96) (hc : ∀ i, c i < 256) {σ : sv_S} (h : pa_C c len σ) {p e q : Nat} (hq : q < 3) (h2 : σ 8 0 2 = nI p) (h3 : σ 8 0 3 = nI e) (hpe : p ≤ e) (he : e ≤ len) : ∃ v, f_Ta_isTheWord q σ = some (v, σ) ∧ (v = 1 ∧ pw c p e (wl q) ∨ v = 0 ∧ ¬ pw c p e (wl q)) := by
  obtain ⟨w1, w2, w3, w4⟩ := wl_ok q hq
  have es : nI e - nI p = nI (e - p) := pk_sub hpe
  unfold f_Ta_isTheWord f_Js_length
  rw [pz_b, w1, h2, h3, es]
  by_cases g : e - p = (wl q).length
  · rw [sv_if_t (by rw [g])]
    obtain ⟨v, v1, v2⟩ := ta_word20 hl hc h hq h2 (by omega) (wl q).length 0 sv_fu (by omega) (by unfold sv_fu; omega)
    refine ⟨v, v1, ?_⟩
    rcases v2 with ⟨a, b⟩ | ⟨a, b⟩
    · exact Or.inl ⟨a, g, fun i x => b i (Nat.zero_le i) x⟩
    · exact Or.inr ⟨a, fun z => b (fun i _ y => z.2 i y)⟩
  · rw [sv_if_f (fun z => g ((nI_eq (by omega) (by omega)).mp z)), pz_01]
    exact ⟨0, rfl, Or.inr ⟨rfl, fun z => g z.1⟩⟩
theorem ta_key {c : Nat → Nat} {len : Nat} (hl : len ≤ 96) (hc : ∀ i, c i < 256) {σ τ : sv_S} {p e k : Nat} (h : pa_T c len p e k σ τ) : (f_Ta_isKey σ = some (0, σ) ∧ ¬ (k = 1 ∧ ∃ q, q < 3 ∧ pw c p e (wl q))) ∨ ∃ q, q < 3 ∧ f_Ta_isKey σ = some (1, sv_up σ 8 0 5 (nI q)) ∧ k = 1 ∧ pw c p e (wl q) ∧ ∀ q', q' < q → ¬ pw c p e (wl q') := by
  obtain ⟨⟨h1, h2, h3, h4, h5, h6⟩, ⟨h7, h8, h9⟩, -⟩ := h
  obtain ⟨t1, -⟩ := pt_t2 hc (p := p) h5
  unfold f_Ta_isKey sv_fu
  by_cases hk : k = 1
  · have tk : σ 8 0 4 = -2 := by rw [h9]; exact t1.mpr hk
    -- one word of the three
    have S : ∀ (q f : Nat), q < 3 → (pw c p e (wl q) ∧ f_Ta_isKey_2 (f + 1) (nI q) σ = some (1, sv_up σ 8 0 5 (nI q))) ∨ (¬ pw c p e (wl q) ∧ f_Ta_isKey_2 (f + 1) (nI q) σ = f_Ta_isKey_2 f (nI (q + 1)) σ) := by
      intro q f hq
      have ew : f_Te_wordOf (nI q) σ = some (q, σ) := by
        unfold f_Te_wordOf
        rw [pz_ti (by omega)]
        match q, hq with
        | 0, _ => rw [sv_if_t (by decide)]
        | 1, _ => rw [sv_if_f (by decide), sv_if_t (by decide)]
        | 2, _ => rw [sv_if_f (by decide), sv_if_f (by decide)]
        | q + 3, hq => omega
      obtain ⟨v, v1, v2⟩ := ta_word hl hc h1 hq h7 h8 h3 h4
      rw [f_Ta_isKey_2, sv_if_t tk, sv_if_f (show ¬ (3 : Int32) ≤ nI q from nI_ge (b := 3) hq (by omega)), ew, pz_b, v1, pz_b, nI_1]
      rcases v2 with ⟨a, b⟩ | ⟨a, b⟩
      · exact Or.inl ⟨b, by rw [a, sv_if_f (by decide)]; exact pz_11⟩
      · exact Or.inr ⟨b, by rw [a, sv_if_t rfl]⟩
    rcases S 0 3999 (by omega) with ⟨a, b⟩ | ⟨a, b⟩
    · exact Or.inr ⟨0, by omega, b, hk, a, fun q' hq' => absurd hq' (Nat.not_lt_zero q')⟩
    · rcases S 1 3998 (by omega) with ⟨a', b'⟩ | ⟨a', b'⟩
      · exact Or.inr ⟨1, by omega, b.trans b', hk, a', fun q' hq' => by rw [show q' = 0 by omega]; exact a⟩
      · rcases S 2 3997 (by omega) with ⟨a'', b''⟩ | ⟨a'', b''⟩
        · refine Or.inr ⟨2, by omega, b.trans (b'.trans b''), hk, a'', fun q' hq' => ?_⟩
          by_cases z : q' = 0
          · rw [z]; exact a
          · rw [show q' = 1 by omega]; exact a'
        · refine Or.inl ⟨(b.trans (b'.trans b'')).trans ?_, ?_⟩
          · rw [f_Ta_isKey_2, sv_if_t tk, sv_if_t (show (3 : Int32) ≤ nI (2 + 1) by decide), pz_01]
          · rintro ⟨-, q, hq, z⟩
            match q, hq with
            | 0, _ => exact a z
            | 1, _ => exact a' z
            | 2, _ => exact a'' z
            | q + 3, hq => omega
  · refine Or.inl ⟨?_, fun z => hk z.1⟩
    rw [f_Ta_isKey_2, sv_if_f (by rw [h9]; exact fun z => hk (t1.mp z)), pz_01]
theorem mo_key {c : Nat → Nat} {len : Nat} (hl : len ≤ 96) (hc : ∀ i, c i < 256) {σ τ : sv_S} {p e k : Nat} (h : pa_T c len p e k σ τ) : (f_Mo_key τ = some (-1, τ) ∧ ¬ (k = 1 ∧ ∃ q, q < 3 ∧ pw c p e (wl q))) ∨ ∃ q, q < 3 ∧ f_Mo_key τ = some (nI q, τ) ∧ k = 1 ∧ pw c p e (wl q) ∧ ∀ q', q' < q → ¬ pw c p e (wl q') := by
  obtain ⟨⟨h1, h2, h3, h4, h5, h6⟩, -, ⟨h10, h11, h12⟩, -⟩ := h
  have es : nI e - nI p = nI (e - p) := pk_sub h3
  have ne : ∀ (i a : Nat), a < 256 → (nI (c i) = nI a ↔ c i = a) := fun i a ha => nI_eq (by have := hc i; omega) (by omega)
  have W4 : ∀ (a b d f : Nat), a < 256 → b < 256 → d < 256 → f < 256 → f ≠ 0 → ∃ v, f_Mo_isWordAt (nI a) (nI b) (nI d) (nI f) τ = some (v, τ) ∧ (v = 1 ∧ k = 1 ∧ pw c p e [a, b, d, f] ∨ v = 0 ∧ ¬ (k = 1 ∧ pw c p e [a, b, d, f])) := by
    intro a b d f ha hb hd hf hf0
    have nf : ¬ nI f = (0 : Int32) := fun z => hf0 ((nI_eq (b := 0) (by omega) (by omega)).mp z)
    unfold f_Mo_isWordAt f_Mo_isWordAt_10
    rw [sv_if_f nf, h12, h10, h11, es]
    by_cases hk : k = 1
    · rw [sv_if_t (by rw [hk]; rfl)]
      by_cases g : e - p = 4
      · rw [sv_if_t (by rw [g]; rfl), pz_in (by omega) (by omega), pz_cl (by omega), h2.2 p (by omega), show nI p + (1 : Int32) = nI (p + 1) from nI_1 p, show nI p + (2 : Int32) = nI (p + 2) from nI_add p 2, show nI p + (3 : Int32) = nI (p + 3) from nI_add p 3, pz_in (by omega) (by omega), pz_cl (by omega), h2.2 (p + 1) (by omega), pz_in (by omega) (by omega), pz_cl (by omega), h2.2 (p + 2) (by omega), sv_if_f nf, pz_in (by omega) (by omega), pz_cl (by omega), h2.2 (p + 3) (by omega), pz_11, pz_01]
        by_cases g0 : c p = a
        · rw [sv_if_t ((ne _ _ ha).mpr g0)]
          by_cases g1 : c (p + 1) = b
          · rw [sv_if_t ((ne _ _ hb).mpr g1)]
            by_cases g2 : c (p + 2) = d
            · rw [sv_if_t ((ne _ _ hd).mpr g2)]
              by_cases g3 : c (p + 3) = f
              · rw [sv_if_t ((ne _ _ hf).mpr g3)]
                refine ⟨1, rfl, Or.inl ⟨rfl, hk, g, fun i hi => ?_⟩⟩
                match i, hi with
                | 0, _ => exact g0
                | 1, _ => exact g1
                | 2, _ => exact g2
                | 3, _ => exact g3
                | i + 4, hi => exact absurd hi (by show ¬ i + 4 < 4; omega)
              · rw [sv_if_f (fun z => g3 ((ne _ _ hf).mp z))]
                exact ⟨0, rfl, Or.inr ⟨rfl, fun z => g3 (z.2.2 3 (show 3 < 4 by decide))⟩⟩
            · rw [sv_if_f (fun z => g2 ((ne _ _ hd).mp z))]
              exact ⟨0, rfl, Or.inr ⟨rfl, fun z => g2 (z.2.2 2 (show 2 < 4 by decide))⟩⟩
          · rw [sv_if_f (fun z => g1 ((ne _ _ hb).mp z))]
            exact ⟨0, rfl, Or.inr ⟨rfl, fun z => g1 (z.2.2 1 (show 1 < 4 by decide))⟩⟩
        · rw [sv_if_f (fun z => g0 ((ne _ _ ha).mp z))]
          exact ⟨0, rfl, Or.inr ⟨rfl, fun z => g0 (z.2.2 0 (show 0 < 4 by decide))⟩⟩
      · rw [sv_if_f (show ¬ nI (e - p) = (4 : Int32) from fun z => g ((nI_eq (b := 4) (by omega) (by omega)).mp z)), pz_01]
        exact ⟨0, rfl, Or.inr ⟨rfl, fun z => g z.2.1⟩⟩
    · rw [sv_if_f (show ¬ nI k = (1 : Int32) from fun z => hk ((nI_eq (b := 1) (by omega) (by omega)).mp z)), pz_01]
      exact ⟨0, rfl, Or.inr ⟨rfl, fun z => hk z.1⟩⟩
  have W5 : ∀ (a b d f g' : Nat), a < 256 → b < 256 → d < 256 → f < 256 → g' < 256 → ∃ v, f_Mo_isLong (nI a) (nI b) (nI d) (nI f) (nI g') (0 : Int32) τ = some (v, τ) ∧ (v = 1 ∧ k = 1 ∧ pw c p e [a, b, d, f, g'] ∨ v = 0 ∧ ¬ (k = 1 ∧ pw c p e [a, b, d, f, g'])) := by
    intro a b d f g' ha hb hd hf hg
    unfold f_Mo_isLong f_Mo_isLong_11
    rw [sv_if_t rfl, h12, h10, h11, es]
    by_cases hk : k = 1
    · rw [sv_if_t (by rw [hk]; rfl)]
      by_cases g : e - p = 5
      · rw [sv_if_t (by rw [g]; rfl), pz_in (by omega) (by omega), pz_cl (by omega), h2.2 p (by omega), show nI p + (1 : Int32) = nI (p + 1) from nI_1 p, show nI p + (2 : Int32) = nI (p + 2) from nI_add p 2, show nI p + (3 : Int32) = nI (p + 3) from nI_add p 3, show nI p + (4 : Int32) = nI (p + 4) from nI_add p 4, pz_in (by omega) (by omega), pz_cl (by omega), h2.2 (p + 1) (by omega), pz_in (by omega) (by omega), pz_cl (by omega), h2.2 (p + 2) (by omega), pz_in (by omega) (by omega), pz_cl (by omega), h2.2 (p + 3) (by omega), pz_in (by omega) (by omega), pz_cl (by omega), h2.2 (p + 4) (by omega), sv_if_t rfl, pz_11, pz_01]
        by_cases g0 : c p = a
        · rw [sv_if_t ((ne _ _ ha).mpr g0)]
          by_cases g1 : c (p + 1) = b
          · rw [sv_if_t ((ne _ _ hb).mpr g1)]
            by_cases g2 : c (p + 2) = d
            · rw [sv_if_t ((ne _ _ hd).mpr g2)]
              by_cases g3 : c (p + 3) = f
              · rw [sv_if_t ((ne _ _ hf).mpr g3)]
                by_cases g4 : c (p + 4) = g'
                · rw [sv_if_t ((ne _ _ hg).mpr g4)]
                  refine ⟨1, rfl, Or.inl ⟨rfl, hk, g, fun i hi => ?_⟩⟩
                  match i, hi with
                  | 0, _ => exact g0
                  | 1, _ => exact g1
                  | 2, _ => exact g2
                  | 3, _ => exact g3
                  | 4, _ => exact g4
                  | i + 5, hi => exact absurd hi (by show ¬ i + 5 < 5; omega)
                · rw [sv_if_f (fun z => g4 ((ne _ _ hg).mp z))]
                  exact ⟨0, rfl, Or.inr ⟨rfl, fun z => g4 (z.2.2 4 (show 4 < 5 by decide))⟩⟩
              · rw [sv_if_f (fun z => g3 ((ne _ _ hf).mp z))]
                exact ⟨0, rfl, Or.inr ⟨rfl, fun z => g3 (z.2.2 3 (show 3 < 5 by decide))⟩⟩
            · rw [sv_if_f (fun z => g2 ((ne _ _ hd).mp z))]
              exact ⟨0, rfl, Or.inr ⟨rfl, fun z => g2 (z.2.2 2 (show 2 < 5 by decide))⟩⟩
          · rw [sv_if_f (fun z => g1 ((ne _ _ hb).mp z))]
            exact ⟨0, rfl, Or.inr ⟨rfl, fun z => g1 (z.2.2 1 (show 1 < 5 by decide))⟩⟩
        · rw [sv_if_f (fun z => g0 ((ne _ _ ha).mp z))]
          exact ⟨0, rfl, Or.inr ⟨rfl, fun z => g0 (z.2.2 0 (show 0 < 5 by decide))⟩⟩
      · rw [sv_if_f (show ¬ nI (e - p) = (5 : Int32) from fun z => g ((nI_eq (b := 5) (by omega) (by omega)).mp z)), pz_01]
        exact ⟨0, rfl, Or.inr ⟨rfl, fun z => g z.2.1⟩⟩
    · rw [sv_if_f (show ¬ nI k = (1 : Int32) from fun z => hk ((nI_eq (b := 1) (by omega) (by omega)).mp z)), pz_01]
      exact ⟨0, rfl, Or.inr ⟨rfl, fun z => hk z.1⟩⟩
  obtain ⟨v0, a0, b0⟩ := W4 104 101 97 114 (by omega) (by omega) (by omega) (by omega) (by omega)
  obtain ⟨v1, a1, b1⟩ := W5 115 116 97 114 116 (by omega) (by omega) (by omega) (by omega) (by omega)
  obtain ⟨v2, a2, b2⟩ := W4 102 105 110 101 (by omega) (by omega) (by omega) (by omega) (by omega)
  have e0 : f_Mo_isWordAt (104 : Int32) (101 : Int32) (97 : Int32) (114 : Int32) τ = some (v0, τ) := a0
  have e1 : f_Mo_isLong (115 : Int32) (116 : Int32) (97 : Int32) (114 : Int32) (116 : Int32) (0 : Int32) τ = some (v1, τ) := a1
  have e2 : f_Mo_isWordAt (102 : Int32) (105 : Int32) (110 : Int32) (101 : Int32) τ = some (v2, τ) := a2
  unfold f_Mo_key
  rw [e0, pz_b, e1, pz_b, e2, pz_b]
  rcases b0 with ⟨x0, y0, z0⟩ | ⟨x0, z0⟩
  · rw [x0, sv_if_f (by decide)]
    exact Or.inr ⟨0, by omega, rfl, y0, z0, fun q' hq' => absurd hq' (Nat.not_lt_zero q')⟩
  · rw [x0, sv_if_t rfl]
    rcases b1 with ⟨x1, y1, z1⟩ | ⟨x1, z1⟩
    · rw [x1, sv_if_f (by decide)]
      exact Or.inr ⟨1, by omega, rfl, y1, z1, fun q' hq' => by rw [show q' = 0 by omega]; exact fun z => z0 ⟨y1, z⟩⟩
    · rw [x1, sv_if_t rfl]
      rcases b2 with ⟨x2, y2, z2⟩ | ⟨x2, z2⟩
      · rw [x2, sv_if_f (by decide)]
        refine Or.inr ⟨2, by omega, rfl, y2, z2, fun q' hq' => ?_⟩
        by_cases z : q' = 0
        · rw [z]; exact fun z => z0 ⟨y2, z⟩
        · rw [show q' = 1 by omega]; exact fun z => z1 ⟨y2, z⟩
      · rw [x2, sv_if_t rfl]
        refine Or.inl ⟨rfl, ?_⟩
        rintro ⟨hk, q, hq, z⟩
        match q, hq with
        | 0, _ => exact z0 ⟨hk, z⟩
        | 1, _ => exact z1 ⟨hk, z⟩
        | 2, _ => exact z2 ⟨hk, z⟩
        | q + 3, hq => omega
