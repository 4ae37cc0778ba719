/-! ===== pure: codes, pieces, sides ===== -/
def pa_KC (q L ops : Nat) (cd : Nat → Int32) (σ : sv_S) : Prop := σ 8 0 5 = nI q ∧ σ 8 0 6 = nI ops ∧ σ 8 0 7 = nI L ∧ ∀ j, j < L → σ 10 0 j = cd j
def pa_KM (q base L ops br no : Nat) (cd : Nat → Int32) (τ : sv_S) : Prop := τ 30 0 23 = nI br ∧ τ 30 0 24 = nI no ∧ τ 30 0 25 = nI L ∧ τ 30 0 26 = nI base ∧ τ 30 0 27 = nI ops ∧ ∀ j, j < L → τ 31 0 (base + 2 * j) = tx_wh (cd j) ∧ τ 31 0 (base + 2 * j + 1) = tx_vl q (cd j)
def pa_KT (q L ops : Nat) (cd : Nat → Int32) : Prop := ops ≤ L ∧ (∀ k, k ≤ L → tx_h cd k ≤ ops) ∧ (∀ k, k < L → tx_ok q (cd k)) ∧ ∀ k, k < L → ¬ cd k < 20000 → if cd k = 20033 then 1 ≤ tx_h cd k else 2 ≤ tx_h cd k
def pa_FC (σ0 σ : sv_S) : Prop := ∀ r i, ¬ (r = 8 ∧ i = 0) → ¬ (r = 10 ∧ i = 0) → σ r i = σ0 r i
def pa_FM (base : Nat) (τ0 τ : sv_S) : Prop := (∀ r i, ¬ (r = 30 ∧ i = 0) → ¬ (r = 31 ∧ i = 0) → τ r i = τ0 r i) ∧ (∀ j, j < 17 ∨ 27 < j → τ 30 0 j = τ0 30 0 j) ∧ ∀ j, j < base ∨ base + 200 ≤ j → τ 31 0 j = τ0 31 0 j
theorem tx_h_eq {cd cd' : Nat → Int32} : ∀ L, (∀ j, j < L → cd' j = cd j) → tx_h cd' L = tx_h cd L := by
  intro L
  induction L with
  | zero => intro _; rfl
  | succ L ih =>
    intro h
    simp only [tx_h]
    rw [ih (fun j hj => h j (by omega)), h L (by omega)]
theorem pa_KT.nd {q L ops : Nat} {cd : Nat → Int32} {x : Int32} (h : pa_KT q L ops cd) (hx : x < 20000) (ok : tx_ok q x) : pa_KT q (L + 1) (ops + 1) (upd cd L x) ∧ tx_h (upd cd L x) (L + 1) = tx_h cd L + 1 := by
  obtain ⟨h1, h2, h3, h4⟩ := h
  have e : ∀ k, k ≤ L → tx_h (upd cd L x) k = tx_h cd k := fun k hk => tx_h_eq k (fun j hj => pk_un (by omega))
  have eL : tx_h (upd cd L x) (L + 1) = tx_h cd L + 1 := by
    simp only [tx_h]
    rw [pk_us, if_pos hx, e L (Nat.le_refl L)]
  refine ⟨⟨by omega, fun k hk => ?_, fun k hk => ?_, fun k hk hx' => ?_⟩, eL⟩
  · by_cases g : k = L + 1
    · rw [g, eL]; have := h2 L (Nat.le_refl L); omega
    · rw [e k (by omega)]; have := h2 k (by omega); omega
  · by_cases g : k = L
    · rw [g, pk_us]; exact ok
    · rw [pk_un g]; exact h3 k (by omega)
  · by_cases g : k = L
    · rw [g, pk_us] at hx'; exact absurd hx hx'
    · rw [pk_un g] at hx' ⊢; rw [e k (by omega)]; exact h4 k (by omega) hx'
theorem pa_KT.op {q L ops : Nat} {cd : Nat → Int32} {x : Int32} (h : pa_KT q L ops cd) (hx : ¬ x < 20000) (ok : tx_ok q x) (hh : if x = 20033 then 1 ≤ tx_h cd L else 2 ≤ tx_h cd L) : pa_KT q (L + 1) ops (upd cd L x) ∧ tx_h (upd cd L x) (L + 1) = if x = 20033 then tx_h cd L else tx_h cd L - 1 := by
  obtain ⟨h1, h2, h3, h4⟩ := h
  have e : ∀ k, k ≤ L → tx_h (upd cd L x) k = tx_h cd k := fun k hk => tx_h_eq k (fun j hj => pk_un (by omega))
  have eL : tx_h (upd cd L x) (L + 1) = if x = 20033 then tx_h cd L else tx_h cd L - 1 := by
    simp only [tx_h]
    rw [pk_us, if_neg hx, e L (Nat.le_refl L)]
  refine ⟨⟨by omega, fun k hk => ?_, fun k hk => ?_, fun k hk hx' => ?_⟩, eL⟩
  · by_cases g : k = L + 1
    · rw [g, eL]; have := h2 L (Nat.le_refl L); split <;> omega
    · rw [e k (by omega)]; exact h2 k (by omega)
  · by_cases g : k = L
    · rw [g, pk_us]; exact ok
    · rw [pk_un g]; exact h3 k (by omega)
  · by_cases g : k = L
    · rw [g, pk_us, e L (Nat.le_refl L)]; exact hh
    · rw [pk_un g] at hx' ⊢; rw [e k (by omega)]; exact h4 k (by omega) hx'
/-- the state of both parsers -/
def pa_I (c : Nat → Nat) (len q base : Nat) (σ0 τ0 : sv_S) (br no p e k L ops : Nat) (cd : Nat → Int32) (σ τ : sv_S) : Prop := pa_T c len p e k σ τ ∧ pa_KC q L ops cd σ ∧ pa_KM q base L ops br no cd τ ∧ pa_KT q L ops cd ∧ (pa_FC σ0 σ ∧ pa_FM base τ0 τ) ∧ L ≤ p
def pa_N (base : Nat) (σ0 τ0 σ τ : sv_S) : Prop := (pa_FC σ0 σ ∧ pa_FM base τ0 τ) ∧ σ 8 0 2 = τ 30 0 18
def pa_S (c : Nat → Nat) (len q base : Nat) (σ0 τ0 : sv_S) (br no dh p L : Nat) (cd : Nat → Int32) (σ' τ' : sv_S) : Prop := ∃ (p' e' k' L' ops' : Nat) (cd' : Nat → Int32), pa_I c len q base σ0 τ0 br no p' e' k' L' ops' cd' σ' τ' ∧ p + dh ≤ p' ∧ L' + p ≤ L + p' ∧ L ≤ L' ∧ (∀ j, j < L → cd' j = cd j) ∧ tx_h cd' L' = tx_h cd L + dh
def pa_O (c : Nat → Nat) (len q base : Nat) (σ0 τ0 : sv_S) (br no dh p L : Nat) (cd : Nat → Int32) (rC rM : Option (Int32 × sv_S)) : Prop := (∃ σ' τ', rC = some (0, σ') ∧ rM = some (0, τ') ∧ pa_N base σ0 τ0 σ' τ') ∨ ∃ σ' τ', rC = some (1, σ') ∧ rM = some (1, τ') ∧ pa_S c len q base σ0 τ0 br no dh p L cd σ' τ'
theorem pa_I.N {c : Nat → Nat} {len q base : Nat} {σ0 τ0 : sv_S} {br no p e k L ops : Nat} {cd : Nat → Int32} {σ τ : sv_S} (h : pa_I c len q base σ0 τ0 br no p e k L ops cd σ τ) : pa_N base σ0 τ0 σ τ := ⟨h.2.2.2.2.1, by rw [h.1.2.1.1, h.1.2.2.1.1]⟩
theorem pa_T.frC {c : Nat → Nat} {len p e k : Nat} {σ τ σ' : sv_S} (h : pa_T c len p e k σ τ) (a : ∀ j, j < 5 → σ' 8 0 j = σ 8 0 j) (b : σ' 9 0 = σ 9 0) : pa_T c len p e k σ' τ := by
  obtain ⟨⟨h1, h2, h3, h4, h5, h6⟩, ⟨h7, h8, h9⟩, h10⟩ := h
  exact ⟨⟨⟨by rw [a 1 (by omega)]; exact h1.1, by rw [b]; exact h1.2⟩, h2, h3, h4, h5, h6⟩, ⟨by rw [a 2 (by omega)]; exact h7, by rw [a 3 (by omega)]; exact h8, by rw [a 4 (by omega)]; exact h9⟩, h10⟩
theorem pa_T.frM {c : Nat → Nat} {len p e k : Nat} {σ τ τ' : sv_S} (h : pa_T c len p e k σ τ) (a : ∀ j, j < 23 → τ' 30 0 j = τ 30 0 j) (b : τ' 31 16 = τ 31 16) : pa_T c len p e k σ τ' := by
  obtain ⟨⟨h1, h2, h3⟩, h7, ⟨h10, h11, h12⟩, h13, h14, h15⟩ := h
  exact ⟨⟨h1, ⟨by rw [a 17 (by omega)]; exact h2.1, by rw [b]; exact h2.2⟩, h3⟩, h7, ⟨by rw [a 18 (by omega)]; exact h10, by rw [a 19 (by omega)]; exact h11, by rw [a 20 (by omega)]; exact h12⟩, by rw [a 22 (by omega)]; exact h13, by rw [a 21 (by omega)]; exact h14, by rw [a 22 (by omega)]; exact h15⟩
/-- both go on -/
theorem pa_I.next {c : Nat → Nat} {len : Nat} (hl : len ≤ 96) (hc : ∀ i, c i < 256) {q base : Nat} {σ0 τ0 : sv_S} {br no p e k L ops : Nat} {cd : Nat → Int32} {σ τ : sv_S} (h : pa_I c len q base σ0 τ0 br no p e k L ops cd σ τ) : ∃ (σ' τ' : sv_S) (p' e' k' : Nat), f_Ta_next σ = some σ' ∧ f_Mo_nextToken τ = some τ' ∧ pa_I c len q base σ0 τ0 br no p' e' k' L ops cd σ' τ' ∧ e ≤ p' := by
  obtain ⟨h1, ⟨h2, h3, h4, h5⟩, ⟨h6, h7, h8, h9, h10, h11⟩, h12, ⟨h13, h14, h15, h16⟩, h17⟩ := h
  obtain ⟨σ', τ', p', e', k', a1, a2, a3, a4, ⟨a5, a6⟩, ⟨a7, a8⟩⟩ := h1.next hl hc
  have pe : p ≤ e := h1.1.2.2.1
  refine ⟨σ', τ', p', e', k', a1, a2, ⟨a3, ⟨by rw [a5 5 (by decide) (by decide) (by decide)]; exact h2, by rw [a5 6 (by decide) (by decide) (by decide)]; exact h3, by rw [a5 7 (by decide) (by decide) (by decide)]; exact h4, by rw [a6 10 0 (by omega)]; exact h5⟩, ⟨by rw [a7 23 (by omega)]; exact h6, by rw [a7 24 (by omega)]; exact h7, by rw [a7 25 (by omega)]; exact h8, by rw [a7 26 (by omega)]; exact h9, by rw [a7 27 (by omega)]; exact h10, by rw [a8 31 0 (by omega)]; exact h11⟩, h12, ⟨fun r i x y => by rw [a6 r i x]; exact h13 r i x y, fun r i x y => by rw [a8 r i x]; exact h14 r i x y, fun j x => by rw [a7 j (by omega)]; exact h15 j x, fun j x => by rw [a8 31 0 (by omega)]; exact h16 j x⟩, by omega⟩, a4⟩
theorem pa_I.deep {c : Nat → Nat} {len q base : Nat} {σ0 τ0 : sv_S} {br no p e k L ops : Nat} {cd : Nat → Int32} {σ τ : sv_S} (h : pa_I c len q base σ0 τ0 br no p e k L ops cd σ τ) (br' : Nat) : pa_I c len q base σ0 τ0 br' no p e k L ops cd σ (sv_up τ 30 0 23 (nI br')) := by
  obtain ⟨h1, h2, ⟨h6, h7, h8, h9, h10, h11⟩, h12, ⟨h13, h14, h15, h16⟩, h17⟩ := h
  exact ⟨h1.frM (fun j hj => pz_uk (by omega)) (pz_up (by omega)), h2, ⟨pz_us _ _ _ _ _, by rw [pz_uk (by decide)]; exact h7, by rw [pz_uk (by decide)]; exact h8, by rw [pz_uk (by decide)]; exact h9, by rw [pz_uk (by decide)]; exact h10, by rw [pz_up (by omega)]; exact h11⟩, h12, ⟨h13, fun r i x y => by rw [pz_up x]; exact h14 r i x y, fun j x => by rw [pz_uk (by omega)]; exact h15 j x, fun j x => by rw [pz_ur (by decide)]; exact h16 j x⟩, h17⟩
theorem pa_I.turn {c : Nat → Nat} {len q base : Nat} {σ0 τ0 : sv_S} {br no p e k L ops : Nat} {cd : Nat → Int32} {σ τ : sv_S} (h : pa_I c len q base σ0 τ0 br no p e k L ops cd σ τ) (no' : Nat) : pa_I c len q base σ0 τ0 br no' p e k L ops cd σ (sv_up τ 30 0 24 (nI no')) := by
  obtain ⟨h1, h2, ⟨h6, h7, h8, h9, h10, h11⟩, h12, ⟨h13, h14, h15, h16⟩, h17⟩ := h
  exact ⟨h1.frM (fun j hj => pz_uk (by omega)) (pz_up (by omega)), h2, ⟨by rw [pz_uk (by decide)]; exact h6, pz_us _ _ _ _ _, by rw [pz_uk (by decide)]; exact h8, by rw [pz_uk (by decide)]; exact h9, by rw [pz_uk (by decide)]; exact h10, by rw [pz_up (by omega)]; exact h11⟩, h12, ⟨h13, fun r i x y => by rw [pz_up x]; exact h14 r i x y, fun j x => by rw [pz_uk (by omega)]; exact h15 j x, fun j x => by rw [pz_ur (by decide)]; exact h16 j x⟩, h17⟩
/-- a code is written -/
theorem pa_put {c : Nat → Nat} {len q base : Nat} {σ0 τ0 : sv_S} {br no p e k L ops : Nat} {cd : Nat → Int32} {σ τ : sv_S} (h : pa_I c len q base σ0 τ0 br no p e k L ops cd σ τ) (hb : base + 200 ≤ 3086) (hL : L < 96) (x : Int32) : ∃ σ' τ', f_Ta_write x σ = some σ' ∧ f_Mo_step (tx_wh x) (tx_vl q x) τ = some τ' ∧ pa_T c len p e k σ' τ' ∧ pa_KC q (L + 1) ops (upd cd L x) σ' ∧ pa_KM q base (L + 1) ops br no (upd cd L x) τ' ∧ (pa_FC σ0 σ' ∧ pa_FM base τ0 τ') := by
  obtain ⟨h1, ⟨h2, h3, h4, h5⟩, ⟨h6, h7, h8, h9, h10, h11⟩, h12, ⟨h13, h14, h15, h16⟩, h17⟩ := h
  have e1 : nI base + (2 : Int32) * nI L = nI (base + 2 * L) := by
    rw [show (2 : Int32) = nI 2 from rfl, pk_mul, nI_add]
  refine ⟨sv_up (sv_up σ 10 0 L x) 8 0 7 (nI (L + 1)), sv_up (sv_up (sv_up τ 31 0 (base + 2 * L) (tx_wh x)) 31 0 (base + 2 * L + 1) (tx_vl q x)) 30 0 25 (nI (L + 1)), ?_, ?_, ?_, ⟨?_, ?_, ?_, ?_⟩, ⟨?_, ?_, ?_, ?_, ?_, ?_⟩, ?_, ?_, ?_, ?_⟩
  · unfold f_Ta_write
    rw [h4, sv_if_f (show ¬ (96 : Int32) ≤ nI L from nI_ge (b := 96) hL (by omega)), pz_in (by omega) (by omega), pz_cl (by omega)]
    dsimp only
    rw [pz_ur (by decide), h4, nI_1]
  · unfold f_Mo_step
    rw [h9, h8, e1, pz_in (by omega) (by omega), pz_cl (by omega), pz_ur (by decide), pz_ur (by decide), h9, h8, e1, nI_1, pz_in (by omega) (by omega), pz_cl (by omega)]
    dsimp only
    rw [pz_ur (by decide), pz_ur (by decide), h8, nI_1]
  · exact (h1.frC (fun j hj => by rw [pz_uk (by omega), pz_ur (by decide)]) (by rw [pz_up (by omega), pz_up (by omega)])).frM (fun j hj => by rw [pz_uk (by omega), pz_ur (by decide), pz_ur (by decide)]) (by rw [pz_up (by omega), pz_up (by omega), pz_up (by omega)])
  · rw [pz_uk (by decide), pz_ur (by decide)]; exact h2
  · rw [pz_uk (by decide), pz_ur (by decide)]; exact h3
  · exact pz_us _ _ _ _ _
  · intro j hj
    rw [pz_ur (by decide)]
    by_cases g : j = L
    · rw [g, pz_us, pk_us]
    · rw [pz_uk g, pk_un g]; exact h5 j (by omega)
  · rw [pz_uk (by decide), pz_ur (by decide), pz_ur (by decide)]; exact h6
  · rw [pz_uk (by decide), pz_ur (by decide), pz_ur (by decide)]; exact h7
  · exact pz_us _ _ _ _ _
  · rw [pz_uk (by decide), pz_ur (by decide), pz_ur (by decide)]; exact h9
  · rw [pz_uk (by decide), pz_ur (by decide), pz_ur (by decide)]; exact h10
  · intro j hj
    rw [pz_up (by omega)]
    by_cases g : j = L
    · rw [g, pk_us, pz_uk (by omega), pz_us, pz_us]; exact ⟨rfl, rfl⟩
    · rw [pk_un g, pz_uk (by omega), pz_uk (by omega), pz_uk (by omega), pz_uk (by omega)]; exact h11 j (by omega)
  · intro r i x y; rw [pz_up x, pz_up y]; exact h13 r i x y
  · intro r i x y; rw [pz_up x, pz_up y, pz_up y]; exact h14 r i x y
  · intro j x; rw [pz_uk (by omega), pz_ur (by decide), pz_ur (by decide)]; exact h15 j x
  · intro j x; rw [pz_ur (by decide), pz_uk (by omega), pz_uk (by omega)]; exact h16 j x
/-- an operand is taken -/
theorem pa_takes {c : Nat → Nat} {len : Nat} (hl : len ≤ 96) (hc : ∀ i, c i < 256) {q base : Nat} {σ0 τ0 : sv_S} {br no p e k L ops : Nat} {cd : Nat → Int32} {σ τ : sv_S} (h : pa_I c len q base σ0 τ0 br no p e k L ops cd σ τ) (hb : base + 200 ≤ 3086) (hk : k ≠ 0) {x : Int32} (hx : x < 20000) (ok : tx_ok q x) : ∃ σ' τ', f_Ta_takes x σ = some (1, σ') ∧ (sv_b0 (f_Mo_step (tx_wh x) (tx_vl q x) τ) (fun σ1 => sv_b0 (f_Mo_nextToken (sv_up σ1 30 0 27 ((σ1 30 0 27) + (1 : Int32)))) (fun σ3 => sv_g ((1 : Int32) = 0 ∨ (1 : Int32) = 1) (some ((1 : Int32), σ3))))) = some (1, τ') ∧ pa_S c len q base σ0 τ0 br no 1 p L cd σ' τ' := by
  have pe : p < e := h.1.1.2.2.2.2.2 hk
  have el : e ≤ len := h.1.1.2.2.2.1
  have hLp := h.2.2.2.2.2
  obtain ⟨σ1, τ1, a1, a2, a3, ⟨b1, b2, b3, b4⟩, ⟨d1, d2, d3, d4, d5, d6⟩, ⟨f1, f2, f3, f4⟩⟩ := pa_put h hb (by omega) x
  obtain ⟨kt, kh⟩ := h.2.2.2.1.nd hx ok
  have T2 : pa_T c len p e k (sv_up σ1 8 0 6 (nI (ops + 1))) (sv_up τ1 30 0 27 (nI (ops + 1))) := (a3.frC (fun j hj => pz_uk (by omega)) (pz_up (by omega))).frM (fun j hj => pz_uk (by omega)) (pz_up (by omega))
  obtain ⟨σ2, τ2, p', e', k', g1, g2, g3, g4, ⟨g5, g6⟩, ⟨g7, g8⟩⟩ := T2.next hl hc
  refine ⟨σ2, τ2, ?_, ?_, p', e', k', L + 1, ops + 1, upd cd L x, ⟨g3, ⟨?_, ?_, ?_, ?_⟩, ⟨?_, ?_, ?_, ?_, ?_, ?_⟩, kt, ⟨?_, ?_, ?_, ?_⟩, by omega⟩, by omega, by omega, by omega, fun j hj => pk_un (by omega), kh⟩
  · unfold f_Ta_takes
    rw [a1, pz_b0]
    dsimp only
    rw [b2, nI_1, g1, pz_b0, pz_11]
  · rw [a2, pz_b0, d5, nI_1, g2, pz_b0, pz_11]
  · rw [g5 5 (by decide) (by decide) (by decide), pz_uk (by decide)]; exact b1
  · rw [g5 6 (by decide) (by decide) (by decide), pz_us]
  · rw [g5 7 (by decide) (by decide) (by decide), pz_uk (by decide)]; exact b3
  · rw [g6 10 0 (by omega), pz_up (by omega)]; exact b4
  · rw [g7 23 (by omega), pz_uk (by decide)]; exact d1
  · rw [g7 24 (by omega), pz_uk (by decide)]; exact d2
  · rw [g7 25 (by omega), pz_uk (by decide)]; exact d3
  · rw [g7 26 (by omega), pz_uk (by decide)]; exact d4
  · rw [g7 27 (by omega), pz_us]
  · rw [g8 31 0 (by omega), pz_up (by omega)]; exact d6
  · intro r i x y; rw [g6 r i x, pz_up x]; exact f1 r i x y
  · intro r i x y; rw [g8 r i x, pz_up x]; exact f2 r i x y
  · intro j x; rw [g7 j (by omega), pz_uk (by omega)]; exact f3 j x
  · intro j x; rw [g8 31 0 (by omega), pz_up (by omega)]; exact f4 j x
theorem mo_sign {c : Nat → Nat} {len : Nat} (hc : ∀ i, c i < 256) {σ τ : sv_S} {p e k : Nat} (h : pa_T c len p e k σ τ) {s : Nat} (hs : s < 256) : f_Mo_isSign (nI s) τ = some (if k = 3 ∧ c p = s then 1 else 0, τ) := by
  have hk := h.1.2.2.2.2.1
  have hcp := hc p
  unfold f_Mo_isSign
  rw [h.2.2.1.2.2]
  by_cases g : k = 3
  · rw [sv_if_t (by rw [g]; rfl), h.2.2.2.2.2 g]
    by_cases g2 : c p = s
    · rw [sv_if_t (by rw [g2]), pz_11, if_pos ⟨g, g2⟩]
    · rw [sv_if_f (fun z => g2 ((nI_eq (by omega) (by omega)).mp z)), pz_01, if_neg (fun z => g2 z.2)]
  · rw [sv_if_f (show ¬ nI k = (3 : Int32) from fun z => g ((nI_eq (b := 3) (by omega) (by omega)).mp z)), pz_01, if_neg (fun z => g z.1)]
/-! names -/
theorem pa_name {q s : Nat} (hq : q < 3) (hs : s < 256) (τ : sv_S) : (∃ i, i < 3 ∧ (i = 2 → q < 2) ∧ tx_l q i = s ∧ sv_ix (nI s) (sv_tb.getD (3 + q) []) 0 = nI i ∧ f_Mo_isName (nI q) (nI s) τ = some (1, τ)) ∨ (sv_ix (nI s) (sv_tb.getD (3 + q) []) 0 = -1 ∧ f_Mo_isName (nI q) (nI s) τ = some (0, τ)) := by
  have ne : ∀ a : Nat, a < 256 → (nI s = nI a ↔ s = a) := fun a ha => nI_eq (by omega) (by omega)
  have ne' : ∀ a : Nat, a < 256 → (nI a = nI s ↔ a = s) := fun a ha => nI_eq (by omega) (by omega)
  have n3 : ∀ (x y w : Nat), x < 256 → y < 256 → w < 256 → sv_ix (nI s) [nI x, nI y, nI w] 0 = if x = s then nI 0 else if y = s then nI 1 else if w = s then nI 2 else -1 := by
    intro x y w hx hy hw
    simp only [sv_ix]
    simp only [ne' x hx, ne' y hy, ne' w hw]
  have n2 : ∀ (x y : Nat), x < 256 → y < 256 → sv_ix (nI s) [nI x, nI y] 0 = if x = s then nI 0 else if y = s then nI 1 else -1 := by
    intro x y hx hy
    simp only [sv_ix]
    simp only [ne' x hx, ne' y hy]
  have m3 : ∀ (x y w : Nat), x < 256 → y < 256 → w < 256 → (sv_if (nI s = nI x) (sv_g ((1 : Int32) = 0 ∨ (1 : Int32) = 1) (some ((1 : Int32), τ))) (sv_if (nI s = nI y) (sv_g ((1 : Int32) = 0 ∨ (1 : Int32) = 1) (some ((1 : Int32), τ))) (sv_if (nI s = nI w) (sv_g ((1 : Int32) = 0 ∨ (1 : Int32) = 1) (some ((1 : Int32), τ))) (sv_g ((0 : Int32) = 0 ∨ (0 : Int32) = 1) (some ((0 : Int32), τ)))))) = some (if x = s ∨ y = s ∨ w = s then 1 else 0, τ) := by
    intro x y w hx hy hw
    rw [pz_11, pz_01]
    by_cases a : x = s
    · rw [sv_if_t (by rw [a]), if_pos (Or.inl a)]
    · rw [sv_if_f (fun z => a ((ne x hx).mp z).symm)]
      by_cases b : y = s
      · rw [sv_if_t (by rw [b]), if_pos (Or.inr (Or.inl b))]
      · rw [sv_if_f (fun z => b ((ne y hy).mp z).symm)]
        by_cases d : w = s
        · rw [sv_if_t (by rw [d]), if_pos (Or.inr (Or.inr d))]
        · rw [sv_if_f (fun z => d ((ne w hw).mp z).symm), if_neg (by omega)]
  have m2 : ∀ (x y : Nat), x < 256 → y < 256 → (sv_if (nI s = nI x) (sv_g ((1 : Int32) = 0 ∨ (1 : Int32) = 1) (some ((1 : Int32), τ))) (sv_if (nI s = nI y) (sv_g ((1 : Int32) = 0 ∨ (1 : Int32) = 1) (some ((1 : Int32), τ))) (sv_g ((0 : Int32) = 0 ∨ (0 : Int32) = 1) (some ((0 : Int32), τ))))) = some (if x = s ∨ y = s then 1 else 0, τ) := by
    intro x y hx hy
    rw [pz_11, pz_01]
    by_cases a : x = s
    · rw [sv_if_t (by rw [a]), if_pos (Or.inl a)]
    · rw [sv_if_f (fun z => a ((ne x hx).mp z).symm)]
      by_cases b : y = s
      · rw [sv_if_t (by rw [b]), if_pos (Or.inr b)]
      · rw [sv_if_f (fun z => b ((ne y hy).mp z).symm), if_neg (by omega)]
  have A3 : ∀ (x y w : Nat), x < 256 → y < 256 → w < 256 → q < 2 → tx_l q 0 = x → tx_l q 1 = y → tx_l q 2 = w → sv_tb.getD (3 + q) [] = [nI x, nI y, nI w] → f_Mo_isName (nI q) (nI s) τ = some (if x = s ∨ y = s ∨ w = s then 1 else 0, τ) → (∃ i, i < 3 ∧ (i = 2 → q < 2) ∧ tx_l q i = s ∧ sv_ix (nI s) (sv_tb.getD (3 + q) []) 0 = nI i ∧ f_Mo_isName (nI q) (nI s) τ = some (1, τ)) ∨ (sv_ix (nI s) (sv_tb.getD (3 + q) []) 0 = -1 ∧ f_Mo_isName (nI q) (nI s) τ = some (0, τ)) := by
    intro x y w hx hy hw hq2 l0 l1 l2 hb hm
    rw [hb, hm, n3 x y w hx hy hw]
    by_cases a : x = s
    · exact Or.inl ⟨0, by omega, by omega, l0.trans a, by rw [if_pos a], by rw [if_pos (Or.inl a)]⟩
    · by_cases b : y = s
      · exact Or.inl ⟨1, by omega, by omega, l1.trans b, by rw [if_neg a, if_pos b], by rw [if_pos (Or.inr (Or.inl b))]⟩
      · by_cases d : w = s
        · exact Or.inl ⟨2, by omega, fun _ => hq2, l2.trans d, by rw [if_neg a, if_neg b, if_pos d], by rw [if_pos (Or.inr (Or.inr d))]⟩
        · exact Or.inr ⟨by rw [if_neg a, if_neg b, if_neg d], by rw [if_neg (by omega)]⟩
  match q, hq with
  | 0, _ => exact A3 108 114 110 (by omega) (by omega) (by omega) (by omega) rfl rfl rfl rfl (by unfold f_Mo_isName; rw [sv_if_t (by decide)]; exact m3 108 114 110 (by omega) (by omega) (by omega))
  | 1, _ => exact A3 115 110 98 (by omega) (by omega) (by omega) (by omega) rfl rfl rfl rfl (by unfold f_Mo_isName; rw [sv_if_f (by decide), sv_if_t (by decide)]; exact m3 115 110 98 (by omega) (by omega) (by omega))
  | 2, _ =>
    have hm : f_Mo_isName (nI 2) (nI s) τ = some (if 109 = s ∨ 98 = s then 1 else 0, τ) := by
      unfold f_Mo_isName
      rw [sv_if_f (by decide), sv_if_f (by decide)]
      exact m2 109 98 (by omega) (by omega)
    have hb : sv_tb.getD (3 + 2) [] = [nI 109, nI 98] := rfl
    rw [hm, hb, n2 109 98 (by omega) (by omega)]
    by_cases a : 109 = s
    · exact Or.inl ⟨0, by omega, by omega, a, by rw [if_pos a], by rw [if_pos (Or.inl a)]⟩
    · by_cases b : 98 = s
      · exact Or.inl ⟨1, by omega, by omega, b, by rw [if_neg a, if_pos b], by rw [if_pos (Or.inr b)]⟩
      · exact Or.inr ⟨by rw [if_neg a, if_neg b], by rw [if_neg (by omega)]⟩
  | q + 3, hq => omega
theorem ch_16 : ∀ n, n < 256 → ((nI n).toUInt32 % 65536).toInt32 = nI n := by decide +kernel
/-- the class's number -/
theorem ta_num {c : Nat → Nat} {len : Nat} (hl : len ≤ 96) (hc : ∀ i, c i < 256) {σ : sv_S} (h : pa_C c len σ) {p e : Nat} (he : e ≤ len) (h3 : σ 8 0 3 = nI e) : ∀ (r k fuel : Nat), p + k + r = e → r < fuel → f_Ta_number_7 fuel (pa_num c p k) (nI (p + k)) σ = some (pa_num c p (k + r), σ) := by
  intro r
  induction r with
  | zero =>
    intro k fuel hk hf
    obtain ⟨f, rfl⟩ : ∃ f, fuel = f + 1 := ⟨fuel - 1, by omega⟩
    rw [f_Ta_number_7, h3, sv_if_t (nI_le (by omega) (by omega))]
    rfl
  | succ r ih =>
    intro k fuel hk hf
    obtain ⟨f, rfl⟩ : ∃ f, fuel = f + 1 := ⟨fuel - 1, by omega⟩
    rw [f_Ta_number_7, h3, sv_if_f (nI_ge (by omega) (by omega)), ta_byte hl hc h (by omega), pz_b, nI_1]
    have g := ih (k + 1) f (by omega) (by omega)
    rw [show k + 1 + r = k + (r + 1) by omega] at g
    exact g
