/-! ===== Tape.readText ===== -/
section TYA
variable {p : Program} {l : Launch} {e : Env} {R : Room} {s : State} {m : MethodId} {args : Array Value} {below : List Frame} {meth : Method} {c : Code} {H : Heap} {locs : List Loc} {Q : State → Prop}
theorem ty_after {cl sl mc ms pc : Nat} {ls : Array Slot} {st0 rest : List Value} {Qa : State → Outcome → State → Prop} {free A : Nat → Prop} (hr : va_Run p l e R s m args below meth c H locs cl sl mc ms (F0 m pc ls st0) rest Qa free) (hfree : ∀ q, free q → A q) (hS : va_S A s.heap H locs) (hQ : ∀ st o t, st.heap = H → Qa st (.returned o) t → va_F A st t)
    (kk : ∀ (o : Option Value) (H1 : Heap) (locs1 : List Loc), (∃ st t : State, st.heap = H ∧ t.heap = H1 ∧ Qa st (.returned o) t) → va_S A s.heap H1 locs1 → W p l e R s m args below meth c H1 locs1 (cl + mc) (sl + ms) Q (F0 m (pc + 3) ls (o.toList ++ rest))) : W p l e R s m args below meth c H locs cl sl Q (F0 m pc ls st0) := by
  intro T hT X
  obtain ⟨v, st₀, t, T', L, h0, X', hL, e1, e2, hq, st⟩ := hr T hT X
  obtain ⟨hz, hk⟩ := hQ st₀ v t h0 hq
  rw [h0] at hz hk
  obtain ⟨t2, a1, b1⟩ := kk v T'.heap (locs ++ L) ⟨st₀, t, h0, e1.symm, hq⟩
    ⟨Nat.le_trans hS.1 (by rw [e1]; exact hz), fun q h1 h2 => by rw [e1, hk q (Nat.lt_of_lt_of_le h1 hS.1) h2]; exact hS.2.1 q h1 h2, fun q hq => by
      rcases List.mem_append.mp hq with h | h
      · exact hS.2.2 q h
      · exact hfree _ (hL q h)⟩ T' rfl X'
  exact ⟨t2, st t2 a1, b1⟩
end TYA
theorem sv_rep.lt {base : Nat} {ad : Nat → Nat → Nat} {dC : Nat → ClassId} {dI : Nat → Nat → Nat} {cA : Nat → ClassId} {σ : sv_S} {H : Heap} (h : sv_rep base ad dC dI cA σ H) {r i : Nat} (hl : sv_lv (sv_ct σ) r i) (hm : sv_my r) : ad r i < H.size := by
  have g := (h.1 r i hl hm).2
  unfold sv_cell at g
  split at g
  · obtain ⟨cell, q, -⟩ := g
    exact (Array.getElem?_eq_some_iff.mp q).1
  · exact (Array.getElem?_eq_some_iff.mp g).1
theorem sv_rep.far {base : Nat} {ad : Nat → Nat → Nat} {dC : Nat → ClassId} {dI : Nat → Nat → Nat} {cA : Nat → ClassId} {σ : sv_S} {H H1 : Heap} (h : sv_rep base ad dC dI cA σ H) (hq : ∀ q, q < H.size → H1[q]? = H[q]?) : sv_rep base ad dC dI cA σ H1 :=
  ⟨fun r i hl hm => ⟨(h.1 r i hl hm).1, (h.1 r i hl hm).2.kept rfl rfl (hq _ (h.lt hl hm))⟩, h.2.1, h.2.2⟩
def rt_kn (base : Nat) (ad : Nat → Nat → Nat) (dC : Nat → ClassId) (dI : Nat → Nat → Nat) (cA : Nat → ClassId) (U : State) : Prop := sv_kn base ad dC dI cA U ∧ hw_kn dC dI cA U ∧ va_Nw tk_cl U
theorem rt_kn.go {base : Nat} {ad : Nat → Nat → Nat} {dC : Nat → ClassId} {dI : Nat → Nat → Nat} {cA : Nat → ClassId} {s U : State} (h : rt_kn base ad dC dI cA s) (hW : s.WarmedH U.vm) (hq : ∀ a : Nat, a < s.heap.size → ¬ base ≤ a → U.heap[a]? = s.heap[a]?) : rt_kn base ad dC dI cA U := ⟨h.1.go hW hq, h.2.1.go hW, va_Nw.warmC hW h.2.2⟩
theorem rt_kn.same {base : Nat} {ad : Nat → Nat → Nat} {dC : Nat → ClassId} {dI : Nat → Nat → Nat} {cA : Nat → ClassId} {s U : State} (h : rt_kn base ad dC dI cA s) (hv : U.vm = s.vm) (hh : U.heap = s.heap) : rt_kn base ad dC dI cA U := ⟨h.1.same hv hh, h.2.1.same hv, va_Nw.same rfl hv.symm h.2.2⟩
/-- the cells of a new text -/
def rt_w (key ops : Int32) (L : Nat) (f : Nat → Int32) : List hw_E := [.inl (9, [.inl key, .inl ops, sv_R 0 1, sv_R 0 2]), .inr (0, (L, (.inl 0, cy_ups f L))), .inr (0, (ops.toNatClampNeg, (.inl 0, [])))]
def rt_Pc (base sz : Nat) (ad : Nat → Nat → Nat) (dC : Nat → ClassId) (dI : Nat → Nat → Nat) (cA : Nat → ClassId) (σ : sv_S) : Array Value → State → Prop := fun v U => v = ([.ref (ad 8 0)] : List Value).toArray ∧ rt_kn base ad dC dI cA U ∧ sv_rep base ad dC dI cA σ U.heap ∧ U.heap.size = sz
def rt_Qc (sz : Nat) (dC : Nat → ClassId) (dI : Nat → Nat → Nat) (cA : Nat → ClassId) (σ : sv_S) (L : Nat) : Array Value → State → Outcome → State → Prop := fun _ st oc t => oc = .returned (some (.ref sz)) ∧ HW sz dC dI cA (rt_w (σ 8 0 5) (σ 8 0 6) L (σ 10 0)) t.heap ∧ va_F (fun q => sz ≤ q) st t
theorem rt_blind {base sz : Nat} {ad : Nat → Nat → Nat} {dC : Nat → ClassId} {dI : Nat → Nat → Nat} {cA : Nat → ClassId} {σ : sv_S} : FrameBlind (rt_Pc base sz ad dC dI cA σ) :=
  fun _ _ _ _ h => ⟨h.1, h.2.1.same rfl rfl, h.2.2⟩
set_option maxHeartbeats 4000000 in
set_option maxRecDepth 20000 in
theorem m_readText (l : Launch) (base sz : Nat) (ad : Nat → Nat → Nat) (dC : Nat → ClassId) (dI : Nat → Nat → Nat) (cA : Nat → ClassId) (σ : sv_S) (L : Nat) (hL : L ≤ 96) (h7 : σ 8 0 7 = nI L) (ho1 : ¬ σ 8 0 6 < 0) (ho2 : (σ 8 0 6).toNatClampNeg ≤ 96) : Met l yX8_readText (sv_ws yX8_readText cX8_readText 1 (some (.object "OneStroke$Text"))) (hw_rm 2 3 196) (rt_Pc base sz ad dC dI cA σ) (rt_Qc sz dC dI cA σ L) 3 196 (fun q => sz ≤ q) := by
  refine va_MetF (cc := cX8_readText) (maxL := 1) (ret := some (.object "OneStroke$Text")) (by decide) rfl ?_
  intro p e s m args below meth c s₁ B hml hv
  obtain ⟨rfl, hkn, hrep, hsz⟩ := hv
  have hx := B.exec
  have hb := B.bytes
  have hr := B.returns
  have hts0 := atoms_spec (ws := sv_ws yX8_readText cX8_readText 1 (some (.object "OneStroke$Text"))) B.pre
  have hts : ∀ w ∈ gw_tbl, w.before ([.ref (ad 8 0)] : List Value).toArray s = true := fun w hw => hts0 w (List.mem_cons_of_mem _ hw)
  have hown : s.vm.findClass "OneStroke$Tape" = some m.cls := findClass_of_methodNamed B.named
  have hlocks := B.notSynchronized
  have hK := hkn.1.1
  have hl := lv_entry ([.ref (ad 8 0)]) (n := 1) (Nat.le_of_ble_eq_true rfl)
  rw [lg_entry_eq]
  generalize (lg_sl ([.ref (ad 8 0)]) ++ List.replicate (1 - (lg_sl ([.ref (ad 8 0)])).length) Slot.unset).toArray = ls at hl ⊢
  have hl : lv_has ls 1 [(0, .ref (ad 8 0))] := hl
  have hS : va_S (fun q => sz ≤ q) s.heap s.heap [] := va_S.rf
  have hW : HW sz dC dI cA [] s.heap := ⟨hsz, fun k E h => by simp at h⟩
  have S : CallFix p m c cX8_readText 1 s ([.ref (ad 8 0)] : List Value).toArray gw_tbl "OneStroke$Tape" := ⟨hx, hb, hml, hown, hts⟩
  have hlv : ∀ r i, i < sv_nb (sv_ct σ) r → r ≠ 31 → sv_lv (sv_ct σ) r i := fun r i h1 h2 => ⟨h1, fun q => absurd q h2⟩
  have l8 : sv_lv (sv_ct σ) 8 0 := hlv 8 0 (by show 0 < 1; decide) (by decide)
  have l10 : sv_lv (sv_ct σ) 10 0 := hlv 10 0 (by show 0 < 1; decide) (by decide)
  have rep : ∀ {H1 : Heap} {locs1 : List Loc}, va_S (fun q => sz ≤ q) s.heap H1 locs1 → sv_rep base ad dC dI cA σ H1 := fun h => hrep.far (fun q hq => h.2.1 q hq (by omega))
  refine hw_new (ci := 9) (q := (RX9, TX9, 4)) (fs := [.inl 0, .inl 0, sv_N, sv_N]) hx hb hts hown hK hW hS rfl ck_9 tyX9_ok (fun k hk => by
    rcases (show k = 0 ∨ k = 1 ∨ k = 2 ∨ k = 3 by have : k < 4 := hk; omega) with rfl | rfl | rfl | rfl <;> rfl) tw_853 tw_854 tw_67 (by show 0 + 1 ≤ 3; decide) (by show 0 + 4 ≤ 196; decide) dd_rt_0 (fun H1 hW1 hS1 => ?_)
  refine lv_dup hx hb dd_rt_3 rfl ?_
  refine lv_aload_n hx hb dd_rt_4 rfl (lv_at hl 0 rfl) ?_
  refine sv_get (ci := 8) (k := 5) hx hb hts hown hK (rep hS1) l8 rfl (ck_all 8) ⟨_, rfl, by decide, tw_232⟩ dd_rt_5 ?_
  refine lv_aload_n hx hb dd_rt_8 rfl (lv_at hl 0 rfl) ?_
  refine sv_get (ci := 8) (k := 6) hx hb hts hown hK (rep hS1) l8 rfl (ck_all 8) ⟨_, rfl, by decide, tw_233⟩ dd_rt_9 ?_
  refine lv_aload_n hx hb dd_rt_12 rfl (lv_at hl 0 rfl) ?_
  refine sv_get (ci := 8) (k := 8) hx hb hts hown hK (rep hS1) l8 rfl (ck_all 8) ⟨_, rfl, by decide, tw_235⟩ dd_rt_13 ?_
  refine lv_aload_n hx hb dd_rt_16 rfl (lv_at hl 0 rfl) ?_
  refine sv_get (ci := 8) (k := 7) hx hb hts hown hK (rep hS1) l8 rfl (ck_all 8) ⟨_, rfl, by decide, tw_234⟩ dd_rt_17 ?_
  rw [h7]
  have hgood : GoodIn gw_tbl (va_wsS "OneStroke$Tape" 34 yJ7_copyOf_59c91 (sv_ws yJ7_copyOf_59c91 cJ7_copyOf_59c91 3 (some (.array .int)))) := gw_goodIn (fun w h => by
    unfold va_wsS at h
    rcases List.mem_append.mp h with h | h
    · exact sv_w3 tw_855 tw_856 tw_62 w h
    · exact sv_ws_in tw_857 w h)
  have hc10 : H1[ad 10 0]? = some (arrV (cA 0) 96 (fun j => .int (σ 10 0 j))) := ((rep hS1).1 10 0 l10 ⟨by decide, by decide, by decide, by decide⟩).2.ar rfl
  have h10 : ad 10 0 < sz := by rw [← hsz]; exact hrep.lt l10 ⟨by decide, by decide, by decide, by decide⟩
  refine ty_after (A := fun q => sz ≤ q) (rest := [.int (σ 8 0 6), .int (σ 8 0 5), .ref (sz + 0), .ref (sz + 0)]) (va_runS (As := [.ref (ad 10 0), .int (nI L)]) S (m_copyOf l sz dC dI cA (ad 10 0) L hL (σ 10 0) [.inl (9, [.inl 0, .inl 0, sv_N, sv_N])]) (va_cwS 2 hts hgood rfl rfl rfl ⟨by decide, by decide, by decide +kernel⟩ ⟨by show 1 + 1 ≤ 2; decide, by show 8 + (3 + 11) + 64 ≤ 128; decide⟩) ⟨cy_blind, fun U hU hWa => ⟨rfl, va_K.moved hWa.alike hK, va_Nw.warmC hWa hkn.2.2, by rw [hU]; exact hW1, by rw [hU]; exact hc10, h10⟩⟩ rfl rfl hl.1 rfl (lv_room (Nat.le_of_ble_eq_true rfl)) dd_rt_20 ⟨by show 0 + 1 + 1 ≤ 3; decide, by show 0 + 4 + 96 ≤ 196; decide⟩) (fun _ h => h) hS1 (fun st o t _ h => h.2.2) (fun o H2 locs2 ho hS2 => ?_)
  obtain ⟨st, t, -, ht, ho, hW2, -⟩ := ho
  rw [ht] at hW2
  cases ho
  have hgood2 : GoodIn gw_tbl (sv_ws yX9_init cX9_init 4 none) := gw_goodIn (sv_ws_in tw_869)
  have hf := hf_X9_is (σ 8 0 5) (σ 8 0 6) (.inr (0, (L, (.inl 0, cy_ups (σ 10 0) L)))) ho1 ho2
  refine hw_after (base := sz) (dC := dC) (dI := dI) (cA := cA) (mc := 1) (ms := 96) (w' := rt_w (σ 8 0 5) (σ 8 0 6) L (σ 10 0)) (rest := [.ref (sz + 0)]) (va_runI (As := [.int (σ 8 0 5), .int (σ 8 0 6), .ref (sz + 1)]) (b := sz + 0) S (hm_X9_init l sz dC dI cA [sv_R 0 0, .inl (σ 8 0 5), .inl (σ 8 0 6), sv_R 0 1] _ _ hf) (cwI 3 hts hgood2 rfl rfl rfl (hts _ tw_67) (hts _ tw_867) (hts _ tw_868) rfl ⟨by decide, by decide, by decide +kernel⟩ ⟨by show 1 + 1 ≤ 2; decide, by show 8 + (4 + 11) + 64 * 1 ≤ 128; decide⟩) ⟨hw_blind, fun U hU hWa => ⟨rfl, hkn.2.1.go hWa, by rw [hU]; exact hW2⟩⟩ rfl rfl hl.1 rfl (lv_room (Nat.le_of_ble_eq_true rfl)) dd_rt_23 ⟨by show 0 + 1 + 1 + 1 ≤ 3; decide, by show 0 + 4 + 96 + 96 ≤ 196; decide⟩) hS2 (fun H3 locs3 hW3 hS3 => ?_)
  exact W.aret hx hb hr (Or.inl ⟨_, rfl⟩) (Or.inr ⟨_, rfl⟩) (fun t ht hWa => ⟨rfl, by rw [ht]; exact hW3, hS3.F ht⟩) hS3.2.2 dd_rt_26
/-! ===== the store and the heap with one text more ===== -/
/-- the store with one text more -/
def rt_s (σ : sv_S) (L : Nat) : sv_S := fun r i j => if r = 22 then (if i = 0 ∧ j = 0 then nI (sv_ct σ + 1) else σ r i j) else if i = sv_ct σ then (if r = 18 then (if j = 0 then σ 8 0 5 else if j = 1 then σ 8 0 6 else if j = 9 then σ 8 0 7 else 0) else if r = 19 then σ 10 0 j else if r = 20 then 0 else σ r i j) else σ r i j
def rt_ad (ad : Nat → Nat → Nat) (id sz : Nat) : Nat → Nat → Nat := fun r i => if i = id then (if r = 18 then sz else if r = 19 then sz + 1 else if r = 20 then sz + 2 else ad r i) else ad r i
theorem rt_ad_o {ad : Nat → Nat → Nat} {id sz r i : Nat} (h : ¬ ((r = 18 ∨ r = 19 ∨ r = 20) ∧ i = id)) : rt_ad ad id sz r i = ad r i := by
  unfold rt_ad
  by_cases g : i = id
  · rw [if_pos g, if_neg (fun q => h ⟨Or.inl q, g⟩), if_neg (fun q => h ⟨Or.inr (Or.inl q), g⟩), if_neg (fun q => h ⟨Or.inr (Or.inr q), g⟩)]
  · rw [if_neg g]
theorem rt_s_o {σ : sv_S} {L r i : Nat} (h : ¬ ((r = 18 ∨ r = 19 ∨ r = 20) ∧ i = sv_ct σ)) (h22 : r ≠ 22) : rt_s σ L r i = σ r i := by
  funext j
  unfold rt_s
  rw [if_neg h22]
  by_cases g : i = sv_ct σ
  · rw [if_pos g, if_neg (fun q => h ⟨Or.inl q, g⟩), if_neg (fun q => h ⟨Or.inr (Or.inl q), g⟩), if_neg (fun q => h ⟨Or.inr (Or.inr q), g⟩)]
  · rw [if_neg g]
theorem rt_s_18 {σ : sv_S} {L j : Nat} : rt_s σ L 18 (sv_ct σ) j = if j = 0 then σ 8 0 5 else if j = 1 then σ 8 0 6 else if j = 9 then σ 8 0 7 else 0 := by
  unfold rt_s
  rw [if_neg (by decide), if_pos rfl, if_pos rfl]
theorem rt_s_is (σ : sv_S) (L : Nat) : tx_is σ (rt_s σ L) (sv_ct σ) L := by
  refine ⟨by rw [rt_s_18, if_pos rfl], by rw [rt_s_18, if_neg (by decide), if_pos rfl], by rw [rt_s_18, if_neg (by decide), if_neg (by decide), if_pos rfl], fun j hj => ?_, ?_, fun r i h h22 => rt_s_o h h22⟩
  · unfold rt_s
    rw [if_neg (by decide), if_pos rfl, if_neg (by decide), if_pos rfl]
  · unfold rt_s
    rw [if_pos rfl, if_pos ⟨rfl, rfl⟩]
theorem rt_s_ct {σ : sv_S} {L : Nat} (h : sv_ct σ < 1000) : sv_ct (rt_s σ L) = sv_ct σ + 1 := by
  have := (rt_s_is σ L).2.2.2.2.1
  unfold sv_ct at *
  rw [this, nI_clamp (by omega)]
theorem rt_lv {n r i : Nat} (h : sv_lv (n + 1) r i) (hne : ¬ ((r = 18 ∨ r = 19 ∨ r = 20) ∧ i = n)) : sv_lv n r i := by
  refine ⟨?_, h.2⟩
  have h1 := h.1
  by_cases g : r = 18 ∨ r = 19 ∨ r = 20
  · have e1 : sv_nb (n + 1) r = n + 1 := by rcases g with rfl | rfl | rfl <;> rfl
    have e2 : sv_nb n r = n := by rcases g with rfl | rfl | rfl <;> rfl
    rw [e1] at h1
    rw [e2]
    have : i ≠ n := fun q => hne ⟨g, q⟩
    omega
  · have e : sv_nb (n + 1) r = sv_nb n r := by
      unfold sv_nb
      split <;> first | rfl | (exfalso; exact g (by simp))
    rw [← e]
    exact h1
theorem rt_fr {c i k r j : Nat} (h : sv_fr c i k = some (r, j)) : ¬ (r = 18 ∨ r = 19 ∨ r = 20) ∨ (c = 9 ∧ j = i) := by
  unfold sv_fr at h
  split at h
  all_goals first
    | (cases h; done)
    | (cases hb : sv_ar k with
        | true => rw [hb] at h; simp only [cond_true, Option.some.injEq, Prod.mk.injEq] at h; omega
        | false => rw [hb] at h; cases h)
    | (split at h <;> first
        | (cases h; done)
        | (simp only [Option.some.injEq, Prod.mk.injEq] at h; omega))
theorem rt_kd9 {r i : Nat} (h : sv_kd r i = .inl 9) : r = 18 := by
  unfold sv_kd at h
  split at h
  all_goals first
    | rfl
    | (simp only [Sum.inl.injEq] at h; omega)
    | (cases h; done)
    | (split at h <;> (simp only [Sum.inl.injEq] at h; omega))
theorem rt_c {ad : Nat → Nat → Nat} {id sz : Nat} {v : sv_V} (h : ∀ r i, v = sv_R r i → ¬ ((r = 18 ∨ r = 19 ∨ r = 20) ∧ i = id)) : sv_c (rt_ad ad id sz) v = sv_c ad v := by
  rcases v with n | n | _ | ⟨r, i⟩
  · rfl
  · rfl
  · rfl
  · show Value.ref (rt_ad ad id sz r i) = Value.ref (ad r i)
    rw [rt_ad_o (h r i rfl)]
theorem rt_rep {base sz : Nat} {ad : Nat → Nat → Nat} {dC : Nat → ClassId} {dI : Nat → Nat → Nat} {cA : Nat → ClassId} {σ : sv_S} {L : Nat} {H H1 : Heap} (hct : sv_ct σ < 1000) (hL : L ≤ 96) (h7 : σ 8 0 7 = nI L) (h : sv_rep base ad dC dI cA σ H) (hb : base ≤ sz) (hz : H.size = sz) (hq : ∀ q, q < sz → H1[q]? = H[q]?) (hW : HW sz dC dI cA (rt_w (σ 8 0 5) (σ 8 0 6) L (σ 10 0)) H1) : sv_rep base (rt_ad ad (sv_ct σ) sz) dC dI cA (rt_s σ L) H1 := by
  have hal : ∀ r i, sv_lv (sv_ct σ) r i → sv_my r → ad r i < sz := fun r i hl hm => by rw [← hz]; exact h.lt hl hm
  have hne : ∀ r i, sv_lv (sv_ct σ) r i → ¬ ((r = 18 ∨ r = 19 ∨ r = 20) ∧ i = sv_ct σ) := by
    rintro r i ⟨h1, -⟩ ⟨h2, h3⟩
    have e2 : sv_nb (sv_ct σ) r = sv_ct σ := by rcases h2 with rfl | rfl | rfl <;> rfl
    rw [e2] at h1
    omega
  have a18 : rt_ad ad (sv_ct σ) sz 18 (sv_ct σ) = sz := by unfold rt_ad; rw [if_pos rfl, if_pos rfl]
  have a19 : rt_ad ad (sv_ct σ) sz 19 (sv_ct σ) = sz + 1 := by unfold rt_ad; rw [if_pos rfl, if_neg (by decide), if_pos rfl]
  have a20 : rt_ad ad (sv_ct σ) sz 20 (sv_ct σ) = sz + 2 := by unfold rt_ad; rw [if_pos rfl, if_neg (by decide), if_neg (by decide), if_pos rfl]
  unfold sv_rep
  rw [rt_s_ct hct]
  refine ⟨fun r i hl hm => ?_, fun r i r' i' hl hl' hm hm' he => ?_, fun a j => ?_⟩
  · by_cases g : (r = 18 ∨ r = 19 ∨ r = 20) ∧ i = sv_ct σ
    · obtain ⟨g, rfl⟩ := g
      rcases g with rfl | rfl | rfl
      · refine ⟨by rw [a18]; exact hb, ?_⟩
        unfold sv_cell
        show t_OB (rt_ad ad (sv_ct σ) sz 18 (sv_ct σ)) (dC 9) (sv_nf 9) (dI 9) H1 (fun j => sv_c (rt_ad ad (sv_ct σ) sz) (sv_df 9 (sv_ct σ) j (rt_s σ L 18 (sv_ct σ) j)))
        rw [a18]
        refine (hw_ob hW (k := 0) rfl).to (fun j hj => ?_)
        rcases (show j = 0 ∨ j = 1 ∨ j = 2 ∨ j = 3 by have : j < 4 := hj; omega) with rfl | rfl | rfl | rfl
        · show Value.int (σ 8 0 5) = Value.int (rt_s σ L 18 (sv_ct σ) 0)
          rw [rt_s_18, if_pos rfl]
        · show Value.int (σ 8 0 6) = Value.int (rt_s σ L 18 (sv_ct σ) 1)
          rw [rt_s_18, if_neg (by decide), if_pos rfl]
        · show Value.ref (sz + 1) = Value.ref (rt_ad ad (sv_ct σ) sz 19 (sv_ct σ))
          rw [a19]
        · show Value.ref (sz + 2) = Value.ref (rt_ad ad (sv_ct σ) sz 20 (sv_ct σ))
          rw [a20]
      · refine ⟨by rw [a19]; omega, ?_⟩
        unfold sv_cell
        show H1[rt_ad ad (sv_ct σ) sz 19 (sv_ct σ)]? = some (arrV (cA 0) (rt_s σ L 18 (sv_ct σ) 9).toNatClampNeg (fun j => Value.int (rt_s σ L 19 (sv_ct σ) j)))
        rw [a19, hw_ar hW (k := 1) rfl, rt_s_18, if_neg (by decide), if_neg (by decide), if_pos rfl, h7, nI_clamp (by omega)]
        refine congrArg some (arrV_to (fun j hj => ?_))
        rw [cy_lk hj, (rt_s_is σ L).2.2.2.1 j hj]
        rfl
      · refine ⟨by rw [a20]; omega, ?_⟩
        unfold sv_cell
        show H1[rt_ad ad (sv_ct σ) sz 20 (sv_ct σ)]? = some (arrV (cA 0) (rt_s σ L 18 (sv_ct σ) 1).toNatClampNeg (fun j => Value.int (rt_s σ L 20 (sv_ct σ) j)))
        rw [a20, hw_ar hW (k := 2) rfl, rt_s_18, if_neg (by decide), if_pos rfl]
        refine congrArg some (arrV_to (fun j hj => ?_))
        show Value.int 0 = Value.int (rt_s σ L 20 (sv_ct σ) j)
        unfold rt_s
        rw [if_neg (by decide), if_pos rfl, if_neg (by decide), if_neg (by decide), if_pos rfl]
    · have hl0 := rt_lv hl g
      obtain ⟨b1, b2⟩ := h.1 r i hl0 hm
      refine ⟨by rw [rt_ad_o g]; exact b1, ?_⟩
      have h22 : r ≠ 22 := by
        rintro rfl
        exact absurd hl0.1 (Nat.not_lt_zero _)
      have hq' : H1[ad r i]? = H[ad r i]? := hq _ (hal r i hl0 hm)
      have hln : sv_ln r i (rt_s σ L) = sv_ln r i σ := by
        by_cases q : r = 19 ∨ r = 20
        · have hi : i ≠ sv_ct σ := fun q' => g ⟨Or.inr q, q'⟩
          rcases q with rfl | rfl
          · show (rt_s σ L 18 i 9).toNatClampNeg = (σ 18 i 9).toNatClampNeg
            rw [rt_s_o (fun z => hi z.2) (by decide)]
          · show (rt_s σ L 18 i 1).toNatClampNeg = (σ 18 i 1).toNatClampNeg
            rw [rt_s_o (fun z => hi z.2) (by decide)]
        · unfold sv_ln
          split <;> first | rfl | (exfalso; exact q (by simp))
      unfold sv_cell at b2 ⊢
      rw [rt_ad_o g, hln, rt_s_o g h22]
      split
      · rename_i k hk
        rw [hk] at b2
        refine (t_OB.kept b2 hq').to (fun j hj => ?_)
        rw [rt_c]
        intro r' i' e
        unfold sv_df at e
        split at e
        · rename_i q hq2
          obtain ⟨q1, q2⟩ := q
          simp only [Sum.inr.injEq, Option.some.injEq, Prod.mk.injEq] at e
          obtain ⟨rfl, rfl⟩ := e
          rcases rt_fr hq2 with z | ⟨rfl, rfl⟩
          · exact fun y => z y.1
          · have := rt_kd9 hk
            subst this
            exact fun y => g ⟨Or.inl rfl, y.2⟩
        · cases e
      · rename_i t ht
        rw [ht] at b2
        show H1[ad r i]? = _
        rw [hq', b2]
        refine congrArg some (arrV_to (fun j hj => ?_))
        rw [rt_c]
        intro r' i' e
        by_cases q : t = 3
        · subst q
          have := hs_kd3 ht
          subst this
          have e' : sv_tx (σ 4 i j) sv_N (fun t => sv_R 18 t) = sv_R r' i' := e
          unfold sv_tx at e'
          rcases h.2.2 i j with z | ⟨t, z1, z2⟩
          · rw [sv_if_t z] at e'
            cases e'
          · rw [z2, sv_if_f (nI_ne0 (by omega) (by omega)), nI_clamp (by omega)] at e'
            simp only [Sum.inr.injEq, Option.some.injEq, Prod.mk.injEq] at e'
            omega
        · have : ∀ (t : Nat) (n : Int32), t ≠ 3 → sv_de t i j n = sv_R r' i' → r' = 2 ∨ r' = 7 ∨ r' = 12 := by
            intro t n ht3 e
            match t, ht3, e with
            | 0, _, e => cases e
            | 1, _, e => cases e
            | 2, _, e => exact Or.inl (by have e : sv_R 2 (10 * i + j) = sv_R r' i' := e; simp only [Sum.inr.injEq, Option.some.injEq, Prod.mk.injEq] at e; omega)
            | 3, z, _ => exact absurd rfl z
            | 4, _, e => exact Or.inr (Or.inl (by have e : sv_R 7 j = sv_R r' i' := e; simp only [Sum.inr.injEq, Option.some.injEq, Prod.mk.injEq] at e; omega))
            | 5, _, e => exact Or.inr (Or.inr (by have e : sv_R 12 (4 * i + j) = sv_R r' i' := e; simp only [Sum.inr.injEq, Option.some.injEq, Prod.mk.injEq] at e; omega))
            | n + 6, _, e => cases e
          have := this t _ q e
          omega
  · by_cases g : (r = 18 ∨ r = 19 ∨ r = 20) ∧ i = sv_ct σ
    · by_cases g' : (r' = 18 ∨ r' = 19 ∨ r' = 20) ∧ i' = sv_ct σ
      · obtain ⟨g1, rfl⟩ := g
        obtain ⟨g2, rfl⟩ := g'
        rcases g1 with rfl | rfl | rfl <;> rcases g2 with rfl | rfl | rfl <;> first | exact ⟨rfl, rfl⟩ | (exfalso; simp only [a18, a19, a20] at he; omega)
      · exfalso
        have := hal r' i' (rt_lv hl' g') hm'
        rw [rt_ad_o g'] at he
        obtain ⟨g1, rfl⟩ := g
        rcases g1 with rfl | rfl | rfl
        · rw [a18] at he; omega
        · rw [a19] at he; omega
        · rw [a20] at he; omega
    · by_cases g' : (r' = 18 ∨ r' = 19 ∨ r' = 20) ∧ i' = sv_ct σ
      · exfalso
        have := hal r i (rt_lv hl g) hm
        rw [rt_ad_o g] at he
        obtain ⟨g1, rfl⟩ := g'
        rcases g1 with rfl | rfl | rfl
        · rw [a18] at he; omega
        · rw [a19] at he; omega
        · rw [a20] at he; omega
      · rw [rt_ad_o g, rt_ad_o g'] at he
        exact h.2.1 r i r' i' (rt_lv hl g) (rt_lv hl' g') hm hm' he
  · rw [rt_s_o (by omega) (by decide)]
    rcases h.2.2 a j with z | ⟨t, z1, z2⟩
    · exact Or.inl z
    · exact Or.inr ⟨t, by omega, z2⟩
