/-! ===== OneStroke.text ===== -/
theorem tw_677 : Cond.methodLink "OneStroke" 238 ⟨"OneStroke$Tape", "isText", "()Z"⟩ ∈ gw_tbl := gw_at 677 (by decide +kernel) rfl
theorem tw_678 : Cond.instanceMethod ⟨"OneStroke$Tape", "isText", "()Z"⟩ ∈ gw_tbl := gw_at 678 (by decide +kernel) rfl
theorem tw_679 : Cond.selects "OneStroke$Tape" ⟨"OneStroke$Tape", "isText", "()Z"⟩ ⟨"OneStroke$Tape", "isText", "()Z"⟩ ∈ gw_tbl := gw_at 679 (by decide +kernel) rfl
theorem tw_680 : Cond.code yX8_isText cX8_isText 1 (some .boolean) ∈ gw_tbl := gw_at 680 (by decide +kernel) rfl
theorem tw_849 : Cond.methodLink "OneStroke" 247 ⟨"OneStroke$Tape", "readText", "()LOneStroke$Text;"⟩ ∈ gw_tbl := gw_at 849 (by decide +kernel) rfl
theorem tw_850 : Cond.instanceMethod ⟨"OneStroke$Tape", "readText", "()LOneStroke$Text;"⟩ ∈ gw_tbl := gw_at 850 (by decide +kernel) rfl
theorem tw_851 : Cond.selects "OneStroke$Tape" ⟨"OneStroke$Tape", "readText", "()LOneStroke$Text;"⟩ ⟨"OneStroke$Tape", "readText", "()LOneStroke$Text;"⟩ ∈ gw_tbl := gw_at 851 (by decide +kernel) rfl
theorem tw_852 : Cond.code yX8_readText cX8_readText 1 (some (.object "OneStroke$Text")) ∈ gw_tbl := gw_at 852 (by decide +kernel) rfl
theorem tw_887 : Cond.methodLink "OneStroke" 251 ⟨"OneStroke$Line", "takeLaw", "(LOneStroke$Text;)I"⟩ ∈ gw_tbl := gw_at 887 (by decide +kernel) rfl
theorem tw_888 : Cond.instanceMethod ⟨"OneStroke$Line", "takeLaw", "(LOneStroke$Text;)I"⟩ ∈ gw_tbl := gw_at 888 (by decide +kernel) rfl
theorem tw_889 : Cond.selects "OneStroke$Line" ⟨"OneStroke$Line", "takeLaw", "(LOneStroke$Text;)I"⟩ ⟨"OneStroke$Line", "takeLaw", "(LOneStroke$Text;)I"⟩ ∈ gw_tbl := gw_at 889 (by decide +kernel) rfl
theorem tw_890 : Cond.code yX5_takeLaw cX5_takeLaw 2 (some .int) ∈ gw_tbl := gw_at 890 (by decide +kernel) rfl
def cd_On_text : sv_C := [(0, (.aload_n 0, (sv_N, (1, (0, []))))), (1, (.getfield 45, (sv_N, (4, (0, []))))), (4, (.invokevirtual 238, (sv_N, (7, (0, []))))), (7, (.istore_n 1, (sv_N, (8, (0, []))))), (8, (.aload_n 0, (sv_N, (9, (0, []))))), (9, (.getfield 45, (sv_N, (12, (0, []))))), (12, (.iconst 0, (.inl (0 : Int32), (13, (0, []))))), (13, (.putfield 232, (sv_N, (16, (0, []))))), (16, (.iload_n 1, (sv_N, (17, (0, []))))), (17, (.ifCond .ne 14, (sv_N, (20, (31, []))))), (20, (.bipush (-100), (.inl (-100 : Int32), (22, (0, []))))), (22, (.aload_n 0, (sv_N, (23, (0, []))))), (23, (.getfield 45, (sv_N, (26, (0, []))))), (26, (.getfield 241, (sv_N, (29, (0, []))))), (29, (.isub, (sv_N, (30, (0, []))))), (30, (.ireturn, (sv_N, (31, (0, []))))), (31, (.aload_n 0, (sv_N, (32, (0, []))))), (32, (.getfield 30, (sv_N, (35, (0, []))))), (35, (.getfield 244, (sv_N, (38, (0, []))))), (38, (.bipush 14, (.inl (14 : Int32), (40, (0, []))))), (40, (.if_icmp .lt 8, (sv_N, (43, (48, []))))), (43, (.ldc 92, (sv_N, (45, (0, []))))), (45, (.goto 17, (sv_N, (48, (62, []))))), (48, (.aload_n 0, (sv_N, (49, (0, []))))), (49, (.getfield 30, (sv_N, (52, (0, []))))), (52, (.aload_n 0, (sv_N, (53, (0, []))))), (53, (.getfield 45, (sv_N, (56, (0, []))))), (56, (.invokevirtual 247, (sv_N, (59, (0, []))))), (59, (.invokevirtual 251, (sv_N, (62, (0, []))))), (62, (.ireturn, (sv_N, (63, (0, [])))))]
theorem sv_kn.ad {base : Nat} {ad ad' : Nat → Nat → Nat} {dC : Nat → ClassId} {dI : Nat → Nat → Nat} {cA : Nat → ClassId} {U : State} (h : sv_kn base ad dC dI cA U) (h1 : ∀ r i, r ≠ 18 → r ≠ 19 → r ≠ 20 → ad' r i = ad r i) : sv_kn base ad' dC dI cA U := by
  have e1 : ad' 21 = ad 21 := funext fun i => h1 21 i (by decide) (by decide) (by decide)
  have e2 : ad' 23 = ad 23 := funext fun i => h1 23 i (by decide) (by decide) (by decide)
  have e3 : ad' 25 = ad 25 := funext fun i => h1 25 i (by decide) (by decide) (by decide)
  unfold sv_kn at *
  rw [e1, e2, e3]
  exact h
theorem rt_kn.ad {base : Nat} {ad ad' : Nat → Nat → Nat} {dC : Nat → ClassId} {dI : Nat → Nat → Nat} {cA : Nat → ClassId} {U : State} (h : rt_kn base ad dC dI cA U) (h1 : ∀ r i, r ≠ 18 → r ≠ 19 → r ≠ 20 → ad' r i = ad r i) : rt_kn base ad' dC dI cA U := ⟨h.1.ad h1, h.2⟩
noncomputable def ev_On_text : sv_E := (fun i => sv_lk i fl_11, (fun i => sv_lk i kc_11, (fun i => bif Nat.beq i 166 then 1 else 0, (true, (fun pc => sv_lk pc [(4, (1, .inl n_Ta_isText)), (59, (2, .inl n_Li_takeLaw))], none)))))
/-- what text's answer must be: the reference answers so, and the relation holds -/
noncomputable def tt_rt (v : sv_V) (σ : sv_S) : Option Unit := match v with
  | .inl n => sv_g (∃ τ, f_Mo_text σ = some (n, τ) ∧ R_A τ) (some ())
  | _ => none
theorem d_On_text : cd_On_text.all (sv_dk cX11_text) = true := by decide +kernel
set_option maxRecDepth 20000 in
theorem e_On_text (k : sv_Lo → List sv_V → sv_S → Option Unit) (σ : sv_S) : sv_ex ev_On_text tt_rt (fun pc => sv_lk pc [(56, k)]) cd_On_text 40 0 [some (sv_R 0 0), none] [] σ = sv_b (f_Ta_isText σ) (fun v σ1 => sv_if (v = 0) (tt_rt (.inl ((-100 : Int32) - (sv_up σ1 8 0 1 0) 8 0 2)) (sv_up σ1 8 0 1 0)) (sv_if ((sv_up σ1 8 0 1 0) 1 0 8 < 14) (k [some (sv_R 0 0), some (.inl v)] [sv_R 8 0, sv_R 1 0] (sv_up σ1 8 0 1 0)) (tt_rt (.inl (-1000000003 : Int32)) (sv_up σ1 8 0 1 0)))) := by
  delta ev_On_text n_Ta_isText n_Li_takeLaw
  generalize f_Ta_isText = c0
  generalize f_Li_takeLaw = c1
  generalize tt_rt = c2
  rfl
set_option maxRecDepth 20000 in
theorem e_On_text59 (v : Int32) (id : Nat) (σ : sv_S) : sv_ex ev_On_text tt_rt (fun pc => sv_lk pc []) cd_On_text 10 59 [some (sv_R 0 0), some (.inl v)] [sv_R 18 id, sv_R 1 0] σ = sv_b (f_Li_takeLaw 0 id σ) (fun v σ => tt_rt (.inl v) σ) := by
  delta ev_On_text n_Ta_isText n_Li_takeLaw
  generalize f_Ta_isText = c0
  generalize f_Li_takeLaw = c1
  generalize tt_rt = c2
  rfl
def tt_P (base : Nat) (ad : Nat → Nat → Nat) (dC : Nat → ClassId) (dI : Nat → Nat → Nat) (cA : Nat → ClassId) (σ : sv_S) : Array Value → State → Prop := fun v U => v = ([.ref (ad 0 0)] : List Value).toArray ∧ rt_kn base ad dC dI cA U ∧ sv_rep base ad dC dI cA σ U.heap
def tt_Q (base : Nat) (ad : Nat → Nat → Nat) (dC : Nat → ClassId) (dI : Nat → Nat → Nat) (cA : Nat → ClassId) (σ : sv_S) : Array Value → State → Outcome → State → Prop := fun _ st oc t => ∃ (v : Int32) (σ' : sv_S) (ad' : Nat → Nat → Nat), oc = .returned (some (.int v)) ∧ sv_rep base ad' dC dI cA σ' t.heap ∧ va_F (fun q => base ≤ q) st t ∧ (∀ r i, r ≠ 18 → r ≠ 19 → r ≠ 20 → ad' r i = ad r i) ∧ (sv_ct σ' = sv_ct σ ∨ sv_ct σ' = sv_ct σ + 1) ∧ ∃ τ, f_Mo_text σ' = some (v, τ) ∧ R_A τ
theorem tt_blind {base : Nat} {ad : Nat → Nat → Nat} {dC : Nat → ClassId} {dI : Nat → Nat → Nat} {cA : Nat → ClassId} {σ : sv_S} : FrameBlind (tt_P base ad dC dI cA σ) :=
  fun _ _ _ _ h => ⟨h.1, h.2.1.same rfl rfl, h.2.2⟩
set_option maxHeartbeats 4000000 in
set_option maxRecDepth 20000 in
theorem m_text (l : Launch) (base : Nat) (ad : Nat → Nat → Nat) (dC : Nat → ClassId) (dI : Nat → Nat → Nat) (cA : Nat → ClassId) (σ : sv_S) (hA : R_A σ) (hct : sv_ct σ < 1000) : Met l yX11_text (sv_ws yX11_text cX11_text 2 (some .int)) (hw_rm 802 3 196) (tt_P base ad dC dI cA σ) (tt_Q base ad dC dI cA σ) 3 196 (fun q => base ≤ q) := by
  refine va_MetF (cc := cX11_text) (maxL := 2) (ret := some .int) (by decide) rfl ?_
  intro p e s m args below meth c s₁ B hml hv
  obtain ⟨rfl, hkn, hrep⟩ := hv
  have hx := B.exec
  have hb := B.bytes
  have hr := B.returns
  have hts0 := atoms_spec (ws := sv_ws yX11_text cX11_text 2 (some .int)) B.pre
  have hts : ∀ w ∈ gw_tbl, w.before ([.ref (ad 0 0)] : List Value).toArray s = true := fun w hw => hts0 w (List.mem_cons_of_mem _ hw)
  have hown : s.vm.findClass "OneStroke" = some m.cls := findClass_of_methodNamed B.named
  have hlocks := B.notSynchronized
  have hl := lv_entry ([.ref (ad 0 0)]) (n := 2) (Nat.le_of_ble_eq_true rfl)
  rw [lg_entry_eq]
  generalize (lg_sl ([.ref (ad 0 0)]) ++ List.replicate (2 - (lg_sl ([.ref (ad 0 0)])).length) Slot.unset).toArray = ls at hl ⊢
  have hl : lv_has ls 2 [(0, .ref (ad 0 0))] := hl
  have hS : va_S (fun q => base ≤ q) s.heap s.heap [] := va_S.rf
  have S : CallFix p m c cX11_text 2 s ([.ref (ad 0 0)] : List Value).toArray gw_tbl "OneStroke" := ⟨hx, hb, hml, hown, hts⟩
  have hR : 802 ≤ (headSpec (sv_ws yX11_text cX11_text 2 (some .int)) (hw_rm 802 3 196)).room.frames ∧ 64 * 802 ≤ (headSpec (sv_ws yX11_text cX11_text 2 (some .int)) (hw_rm 802 3 196)).room.locals := ⟨Nat.le_refl _, Nat.le_refl _⟩
  have hok : ∀ (ad' : Nat → Nat → Nat) (n0 cells slots : Nat), (∀ r i, r ≠ 18 → r ≠ 19 → r ≠ 20 → ad' r i = ad r i) → (n0 = sv_ct σ ∨ n0 = sv_ct σ + 1) → cells ≤ 3 → slots ≤ 196 → sv_Ok (p, (l, (e, ((headSpec (sv_ws yX11_text cX11_text 2 (some .int)) (hw_rm 802 3 196)).room, (s, (m, (([.ref (ad 0 0)] : List Value).toArray, (below, (meth, (c, (cells, (slots, (MQ below (tt_Q base ad dC dI cA σ) ([.ref (ad 0 0)] : List Value).toArray s 3 196 (fun q => base ≤ q), (base, (ad', (dC, (dI, (cA, (true, (2, n0)))))))))))))))))))) ev_On_text cX11_text tt_rt () := by
    intro ad' n0 cells slots hag hn0 hc hs
    have hkn' := hkn.1.ad hag
    refine ⟨rfl, hx, hb, hts, ⟨"OneStroke", hown, ln_gen fk_11 kk_11 gk_11⟩, hkn', fun pc n f hcs => ?_, fun q h => (by cases h), ?_, ?_, ?_⟩
    · refine sv_lk_all (P := fun pc (x : Nat × sv_F) => sv_cok p l e (headSpec (sv_ws yX11_text cX11_text 2 (some .int)) (hw_rm 802 3 196)).room s m ([.ref (ad 0 0)] : List Value).toArray below meth c cells slots (MQ below (tt_Q base ad dC dI cA σ) ([.ref (ad 0 0)] : List Value).toArray s 3 196 (fun q => base ≤ q)) base ad' dC dI cA true 2 n0 pc x.1 x.2) ?_ pc (n, f) hcs
      exact List.forall_mem_cons.mpr ⟨(sv_cV S hkn' (m_Ta_isText l) ⟨Nat.le_trans (by decide) hR.1, Nat.le_trans (by decide) hR.2⟩ (by decide) ⟨hc, hs⟩ rfl (g_Ta_isText) (sv_w5 tw_677 tw_678 tw_679 tw_63 tw_680) (by decide +kernel) (sv_dc3 d_On_text (pc := 4) rfl rfl)).I,
        List.forall_mem_cons.mpr ⟨(sv_cV S hkn' (m_Li_takeLaw l) ⟨Nat.le_trans (by decide) hR.1, Nat.le_trans (by decide) hR.2⟩ (by decide) ⟨hc, hs⟩ rfl (g_Li_takeLaw) (sv_w5 tw_887 tw_888 tw_889 tw_60 tw_890) (by decide +kernel) (sv_dc3 d_On_text (pc := 59) rfl rfl)).I,
        fun _ h => absurd h List.not_mem_nil⟩⟩
    · intro pc lo n τ hdg hn H locs ls' hR1 hS1 hL1 hct1 hst1 hlo1
      have hq := (sv_g_some hn).1
      refine W.widen (k := 3) (n := 196) hc hs ?_
      exact W.iret hx hb hr (fun t ht hW => ⟨n, τ, ad', rfl, by rw [ht]; exact hR1, hS1.F ht, hag, by rw [hct1]; exact hn0, hq⟩) hS1.2.2 hdg
    · intro pc lo v τ hdg hv hn
      rcases hv with rfl | ⟨r', i', rfl⟩ <;> cases hn
    · intro pc lo τ hdg hn
      cases hn
  have hL : sv_lh ad ls 2 [some (sv_R 0 0), none] := ⟨rfl, hl⟩
  have hlo : ∀ i v, sv_ga [some (sv_R 0 0), none] i = some v → sv_ok (sv_ct σ) v ∧ (true = true → sv_1 v) := by
    intro i v hi
    match i, hi with
    | 0, hi => cases hi; exact ⟨⟨by show 0 < 1; decide, fun q => by cases q⟩, fun _ => trivial⟩
    | 1, hi => cases hi
    | i + 2, hi => cases hi
  obtain ⟨v, σ1, hi, hk1, hd⟩ := R_text hA hct
  have hct1 : sv_ct (sv_up σ1 8 0 1 0) = sv_ct σ := by
    rw [sv_ct_up (by decide)]
    unfold sv_ct
    rw [hk1 22 0 (by decide) (by decide)]
  rcases hd with ⟨rfl, τ, h1, h2⟩ | ⟨rfl, h14, τ, h1, h2⟩ | ⟨rfl, nt, L, ops, q, hnt, hL96, hops, hq3, h8, h5, h6, h7, h3⟩
  · have key := sv_run (hok ad (sv_ct σ) 0 0 (fun _ _ _ _ _ => rfl) (Or.inl rfl) (by decide) (by decide)) d_On_text (K := fun pc => sv_lk pc [(56, fun _ _ _ => none)]) (sv_lk_all (P := fun pc (k : sv_Lo → List sv_V → sv_S → Option Unit) => ∀ lo st σ, k lo st σ = some () → sv_T _ pc lo st σ) (List.forall_mem_cons.mpr ⟨fun lo st σ h => (by cases h), fun _ h => absurd h List.not_mem_nil⟩)) 40 0 [some (sv_R 0 0), none] [] σ (by
      rw [e_On_text, hi, pz_b, sv_if_t rfl]
      show sv_g _ _ = _
      rw [sv_g_t ⟨τ, by rw [pz_uk (by decide)]; exact h1, h2⟩])
    exact key s.heap [] ls hrep hS hL rfl (fun v hv => by cases hv) hlo
  · have key := sv_run (hok ad (sv_ct σ) 0 0 (fun _ _ _ _ _ => rfl) (Or.inl rfl) (by decide) (by decide)) d_On_text (K := fun pc => sv_lk pc [(56, fun _ _ _ => none)]) (sv_lk_all (P := fun pc (k : sv_Lo → List sv_V → sv_S → Option Unit) => ∀ lo st σ, k lo st σ = some () → sv_T _ pc lo st σ) (List.forall_mem_cons.mpr ⟨fun lo st σ h => (by cases h), fun _ h => absurd h List.not_mem_nil⟩)) 40 0 [some (sv_R 0 0), none] [] σ (by
      rw [e_On_text, hi, pz_b, sv_if_f (by decide), sv_if_f (by rw [pz_ur (by decide), h14]; decide)]
      show sv_g _ _ = _
      rw [sv_g_t ⟨τ, h1, h2⟩])
    exact key s.heap [] ls hrep hS hL rfl (fun v hv => by cases hv) hlo
  · have g8 : (sv_up σ1 8 0 1 0) 8 0 7 = nI L := by rw [pz_uk (by decide)]; exact h7
    have g6 : (sv_up σ1 8 0 1 0) 8 0 6 = nI ops := by rw [pz_uk (by decide)]; exact h6
    have key := sv_run (hok ad (sv_ct σ) 0 0 (fun _ _ _ _ _ => rfl) (Or.inl rfl) (by decide) (by decide)) d_On_text (K := fun pc => sv_lk pc [(56, fun lo st υ => sv_g (lo = [some (sv_R 0 0), some (.inl 1)] ∧ st = [sv_R 8 0, sv_R 1 0] ∧ υ = sv_up σ1 8 0 1 0) (some ()))]) (sv_lk_all (P := fun pc (k : sv_Lo → List sv_V → sv_S → Option Unit) => ∀ lo st σ, k lo st σ = some () → sv_T _ pc lo st σ) (List.forall_mem_cons.mpr ⟨fun lo st υ h => ?_, fun _ h => absurd h List.not_mem_nil⟩)) 40 0 [some (sv_R 0 0), none] [] σ (by
      rw [e_On_text, hi, pz_b, sv_if_f (by decide), sv_if_t (by rw [pz_ur (by decide), h8]; exact nI_lt (b := 14) hnt (by decide))]
      exact sv_g_t ⟨rfl, rfl, rfl⟩)
    · exact key s.heap [] ls hrep hS hL rfl (fun v hv => by cases hv) hlo
    · obtain ⟨⟨rfl, rfl, rfl⟩, -⟩ := sv_g_some h
      intro H locs ls' hR1 hS1 hL1 hc1 hst1 hlo1
      have l8 : sv_lv (sv_ct (sv_up σ1 8 0 1 0)) 8 0 := ⟨by show 0 < 1; decide, fun q => by cases q⟩
      have m8 : sv_my 8 := ⟨by decide, by decide, by decide, by decide⟩
      have hbz : base ≤ H.size := Nat.le_trans (hR1.1 8 0 l8 m8).1 (Nat.le_of_lt (hR1.lt l8 m8))
      have hgood : GoodIn gw_tbl (wsV "OneStroke" 247 "OneStroke$Tape" yX8_readText (sv_ws yX8_readText cX8_readText 1 (some (.object "OneStroke$Text")))) := gw_goodIn (fun w h => by
        unfold wsV at h
        rcases List.mem_append.mp h with h | h
        · exact sv_w4 tw_849 tw_850 tw_851 tw_63 w h
        · exact sv_ws_in tw_852 w h)
      refine ty_after (A := fun q => base ≤ q) (rest := [.ref (ad 1 0)]) (va_runV (As := []) (b := ad 8 0) S (m_readText l base H.size ad dC dI cA (sv_up σ1 8 0 1 0) L hL96 g8 (by rw [g6]; exact nI_pos (by omega)) (by rw [g6, nI_clamp (by omega)]; exact hops)) (cwV 0 hts hgood rfl rfl rfl ⟨rfl, by decide, by decide, by decide +kernel⟩ ⟨by show 2 + 1 ≤ 802; decide, by show 8 + (1 + 11) + 64 * 2 ≤ 64 * 802; decide⟩) ⟨rt_blind, sv_recv hkn.1 hR1 l8 rfl rfl, fun U hU hWa => ⟨rfl, hkn.go hWa (fun a h1 h2 => by rw [hU]; exact hS1.2.1 a h1 h2), by rw [hU]; exact hR1, by rw [hU]⟩⟩ rfl rfl hL1.2.1 rfl (lv_room (Nat.le_of_ble_eq_true rfl)) (sv_dc3 d_On_text (pc := 56) rfl rfl) ⟨by show 0 + 3 ≤ 3; decide, by show 0 + 196 ≤ 196; decide⟩) (fun q h => Nat.le_trans hbz h) hS1 (fun st o t h0 h => ⟨h.2.2.1, fun q h1 h2 => h.2.2.2 q h1 (by rw [h0] at h1; omega)⟩) (fun o H2 locs2 ho hS2 => ?_)
      obtain ⟨st, t, h0, ht, ho, hW2, hF2⟩ := ho
      rw [ht] at hW2
      cases ho
      have hq2 : ∀ q, q < H.size → H2[q]? = H[q]? := fun q hq => by
        have := hF2.2 q (by rw [h0]; exact hq) (by omega)
        rw [ht, h0] at this
        exact this
      have rep3 := rt_rep (by rw [hct1]; exact hct) hL96 g8 hR1 hbz rfl hq2 hW2
      rw [hct1] at rep3
      have hs3 := rt_s_is (sv_up σ1 8 0 1 0) L
      rw [hct1] at hs3
      obtain ⟨σ4, τ, hT, hM, hRA⟩ := h3 _ hs3
      have hag : ∀ r i, r ≠ 18 → r ≠ 19 → r ≠ 20 → rt_ad ad (sv_ct σ) H.size r i = ad r i := fun r i a1 a2 a3 => rt_ad_o (by rintro ⟨z | z | z, -⟩ <;> contradiction)
      have a18 : rt_ad ad (sv_ct σ) H.size 18 (sv_ct σ) = H.size := by unfold rt_ad; rw [if_pos rfl, if_pos rfl]
      have key2 := sv_run (hok (rt_ad ad (sv_ct σ) H.size) (sv_ct σ + 1) 3 196 hag (Or.inr rfl) (by decide) (by decide)) d_On_text (K := fun pc => sv_lk pc []) (fun pc k h => by cases h) 10 59 [some (sv_R 0 0), some (.inl 1)] [sv_R 18 (sv_ct σ), sv_R 1 0] (rt_s (sv_up σ1 8 0 1 0) L) (by
        rw [e_On_text59, hT, pz_b]
        show sv_g _ _ = _
        rw [sv_g_t ⟨τ, hM, hRA⟩])
      have g := key2 H2 locs2 ls' rep3 hS2 ⟨hL1.1, by
        have := hL1.2
        show lv_has ls' 2 [(0, .ref (rt_ad ad (sv_ct σ) H.size 0 0)), (1, .int 1)]
        rw [hag 0 0 (by decide) (by decide) (by decide)]
        exact this⟩ (by rw [rt_s_ct (by rw [hct1]; exact hct), hct1]) (fun v hv => by
          simp only [List.mem_cons, List.not_mem_nil, or_false] at hv
          rcases hv with rfl | rfl
          · exact ⟨by show sv_ct σ < sv_ct σ + 1; omega, fun q => by cases q⟩
          · exact ⟨by show 0 < 3; decide, fun q => by cases q⟩) (fun i v hi => by
          match i, hi with
          | 0, hi => cases hi; exact ⟨⟨by show 0 < 1; decide, fun q => by cases q⟩, fun _ => trivial⟩
          | 1, hi => cases hi; exact ⟨trivial, fun _ => trivial⟩
          | i + 2, hi => cases hi)
      have eS : ([sv_R 18 (sv_ct σ), sv_R 1 0] : List sv_V).map (sv_c (rt_ad ad (sv_ct σ) H.size)) = [.ref H.size, .ref (ad 1 0)] := by
        show [Value.ref (rt_ad ad (sv_ct σ) H.size 18 (sv_ct σ)), Value.ref (rt_ad ad (sv_ct σ) H.size 1 0)] = _
        rw [a18, hag 1 0 (by decide) (by decide) (by decide)]
      rw [eS] at g
      exact g
