/-! ===== the law's text, its head, its loop, its start ===== -/
theorem tw_1322 : Cond.methodLink "OneStrokeLaw" 116 ⟨"OneStrokeModel", "text", "()I"⟩ ∈ gw_tbl := gw_at 1322 (by decide +kernel) rfl
theorem tw_1323 : Cond.instanceMethod ⟨"OneStrokeModel", "text", "()I"⟩ ∈ gw_tbl := gw_at 1323 (by decide +kernel) rfl
theorem tw_1324 : Cond.selects "OneStrokeModel" ⟨"OneStrokeModel", "text", "()I"⟩ ⟨"OneStrokeModel", "text", "()I"⟩ ∈ gw_tbl := gw_at 1324 (by decide +kernel) rfl
theorem tw_1325 : Cond.code yX12_text cX12_text 3 (some .int) ∈ gw_tbl := gw_at 1325 (by decide +kernel) rfl
theorem tw_673 : Cond.methodLink "OneStrokeLaw" 113 ⟨"OneStroke", "text", "()I"⟩ ∈ gw_tbl := gw_at 673 (by decide +kernel) rfl
theorem tw_674 : Cond.instanceMethod ⟨"OneStroke", "text", "()I"⟩ ∈ gw_tbl := gw_at 674 (by decide +kernel) rfl
theorem tw_675 : Cond.selects "OneStroke" ⟨"OneStroke", "text", "()I"⟩ ⟨"OneStroke", "text", "()I"⟩ ∈ gw_tbl := gw_at 675 (by decide +kernel) rfl
theorem tw_676 : Cond.code yX11_text cX11_text 2 (some .int) ∈ gw_tbl := gw_at 676 (by decide +kernel) rfl
theorem tw_74 : Cond.classLink "OneStrokeLaw" 7 "OneStroke" ∈ gw_tbl := gw_at 74 (by decide +kernel) rfl
theorem tw_76 : Cond.methodLink "OneStrokeLaw" 9 ⟨"OneStroke", "<init>", "()V"⟩ ∈ gw_tbl := gw_at 76 (by decide +kernel) rfl
theorem tw_77 : Cond.instanceMethod ⟨"OneStroke", "<init>", "()V"⟩ ∈ gw_tbl := gw_at 77 (by decide +kernel) rfl
theorem tw_78 : Cond.code yX11_init cX11_init 3 none ∈ gw_tbl := gw_at 78 (by decide +kernel) rfl
theorem tw_984 : Cond.classLink "OneStrokeLaw" 10 "OneStrokeModel" ∈ gw_tbl := gw_at 984 (by decide +kernel) rfl
theorem tw_986 : Cond.methodLink "OneStrokeLaw" 12 ⟨"OneStrokeModel", "<init>", "()V"⟩ ∈ gw_tbl := gw_at 986 (by decide +kernel) rfl
theorem tw_987 : Cond.instanceMethod ⟨"OneStrokeModel", "<init>", "()V"⟩ ∈ gw_tbl := gw_at 987 (by decide +kernel) rfl
theorem tw_988 : Cond.code yX12_init cX12_init 2 none ∈ gw_tbl := gw_at 988 (by decide +kernel) rfl
theorem dw_0 : decode code 0 = .ok (.new 7, 3) := by decide +kernel
theorem dw_3 : decode code 3 = .ok (.dup, 1) := by decide +kernel
theorem dw_4 : decode code 4 = .ok (.invokespecial 9, 3) := by decide +kernel
theorem dw_7 : decode code 7 = .ok (.astore_n 1, 1) := by decide +kernel
theorem dw_8 : decode code 8 = .ok (.new 10, 3) := by decide +kernel
theorem dw_11 : decode code 11 = .ok (.dup, 1) := by decide +kernel
theorem dw_12 : decode code 12 = .ok (.invokespecial 12, 3) := by decide +kernel
theorem dw_15 : decode code 15 = .ok (.astore_n 2, 1) := by decide +kernel
theorem dw_16 : decode code 16 = .ok (.iconst 0, 1) := by decide +kernel
theorem dw_17 : decode code 17 = .ok (.istore_n 3, 1) := by decide +kernel
theorem dw_874 : decode code 874 = .ok (.aload_n 1, 1) := by decide +kernel
theorem dw_875 : decode code 875 = .ok (.invokevirtual 113, 3) := by decide +kernel
def cl_text : sv_C := [(874, (.aload_n 1, (sv_N, (875, (0, []))))), (875, (.invokevirtual 113, (sv_N, (878, (0, []))))), (878, (.aload_n 2, (sv_N, (879, (0, []))))), (879, (.invokevirtual 116, (sv_N, (882, (0, []))))), (882, (.if_icmp .eq 503, (sv_N, (885, (1385, []))))), (885, (.iconst 0, (.inl (0 : Int32), (886, (0, []))))), (886, (.ireturn, (sv_N, (887, (0, [])))))]
theorem dl_text : cl_text.all (sv_dk code) = true := by decide +kernel
set_option maxRecDepth 20000 in
theorem el_text (L : Nat) (xs : Nat → Int32) (i : Nat) (v : Int32) (σ : sv_S) : sv_ex (lw_ev [(879, (1, .inl n_Mo_text))] L xs) lw_rt (fun pc => sv_lk pc [(1385, lw_k i)]) cl_text 10 878 (lw_lo i) [.inl v] σ = sv_b (f_Mo_text σ) (fun w σ => sv_if (v = w) (lw_k i (lw_lo i) [] σ) (lw_rt (.inl 0) σ)) := by
  delta lw_ev n_Mo_text
  generalize f_Mo_text = c1
  generalize lw_k i = c2
  generalize lw_rt = c3
  rfl
/-- the arms' places -/
def lw_al : List Nat := [212, 245, 278, 311, 344, 387, 410, 433, 456, 479, 492, 515, 558, 571, 584, 607, 630, 663, 696, 729, 752, 795, 808, 851, 874, 887, 920, 943, 986, 1029, 1052, 1085, 1148, 1191, 1224, 1257, 1290, 1313, 1336, 1349, 1362, 1385]
def lw_in (t : Nat) : Bool := lw_al.any (fun x => Nat.beq t x)
def lw_swl : List (Int × Nat) := [(0, 212), (1, 245), (2, 278), (3, 311), (4, 344), (5, 387), (6, 410), (7, 433), (8, 456), (9, 479), (10, 492), (11, 515), (12, 558), (13, 571), (14, 584), (15, 607), (16, 630), (17, 663), (18, 696), (19, 729), (20, 752), (21, 795), (22, 808), (23, 851), (24, 874), (25, 887), (26, 920), (27, 943), (28, 986), (29, 1029), (30, 1052), (31, 1085), (32, 1148), (33, 1191), (34, 1224), (35, 1257), (36, 1290), (37, 1313), (38, 1336), (39, 1349), (40, 1362)]
theorem lw_swl_in : ∀ q ∈ lw_swl, lw_in q.2 = true := by decide +kernel
def cl_head : sv_C := [(18, (.iload_n 3, (sv_N, (19, (0, []))))), (19, (.aload_n 0, (sv_N, (20, (0, []))))), (20, (.arraylength, (sv_N, (21, (0, []))))), (21, (.bipush 6, (.inl (6 : Int32), (23, (0, []))))), (23, (.isub, (sv_N, (24, (0, []))))), (24, (.if_icmp .gt 1367, (sv_N, (27, (1391, []))))), (27, (.aload_n 0, (sv_N, (28, (0, []))))), (28, (.iload_n 3, (sv_N, (29, (0, []))))), (29, (.iaload, (sv_N, (30, (0, []))))), (30, (.bipush 63, (.inl (63 : Int32), (32, (0, []))))), (32, (.iand, (sv_N, (33, (0, []))))), (33, (.tableswitch 1352 0 40 #[179, 212, 245, 278, 311, 354, 377, 400, 423, 446, 459, 482, 525, 538, 551, 574, 597, 630, 663, 696, 719, 762, 775, 818, 841, 854, 887, 910, 953, 996, 1019, 1052, 1115, 1158, 1191, 1224, 1257, 1280, 1303, 1316, 1329], (sv_N, (33, (1385, [(0, 212), (1, 245), (2, 278), (3, 311), (4, 344), (5, 387), (6, 410), (7, 433), (8, 456), (9, 479), (10, 492), (11, 515), (12, 558), (13, 571), (14, 584), (15, 607), (16, 630), (17, 663), (18, 696), (19, 729), (20, 752), (21, 795), (22, 808), (23, 851), (24, 874), (25, 887), (26, 920), (27, 943), (28, 986), (29, 1029), (30, 1052), (31, 1085), (32, 1148), (33, 1191), (34, 1224), (35, 1257), (36, 1290), (37, 1313), (38, 1336), (39, 1349), (40, 1362)]))))), (1391, (.iconst 1, (.inl (1 : Int32), (1392, (0, []))))), (1392, (.ireturn, (sv_N, (1393, (0, [])))))]
theorem dl_head : cl_head.all (sv_dk code) = true := by decide +kernel
def cl_inc : sv_C := [(1385, (.iinc 3 6, (.inl (6 : Int32), (1388, (0, []))))), (1388, (.goto (-1370), (sv_N, (1391, (18, [])))))]
theorem dl_inc : cl_inc.all (sv_dk code) = true := by decide +kernel
set_option maxRecDepth 20000 in
theorem el_head (k : sv_Lo → List sv_V → sv_S → Option Unit) (L : Nat) (xs : Nat → Int32) (i : Nat) (σ : sv_S) : ∃ go : Nat → Option Unit, sv_ex (lw_ev [] L xs) lw_rt (fun pc => bif lw_in pc then some k else none) cl_head 20 18 (lw_lo i) [] σ = sv_if (nI L - 6 < nI i) (lw_rt (.inl 1) σ) (sv_g (sv_in (nI i) L) (sv_sw (xs (nI i).toNatClampNeg &&& 63).toInt 1385 go lw_swl)) ∧ ∀ t, lw_in t = true → go t = k (lw_lo i) [] σ := by
  refine ⟨fun t => match (bif lw_in t then some k else none) with
    | some k => k (lw_lo i) [] σ
    | none => sv_ex (lw_ev [] L xs) lw_rt (fun pc => bif lw_in pc then some k else none) cl_head 8 t (lw_lo i) [] σ, ?_, fun t ht => ?_⟩
  · delta lw_ev
    generalize lw_rt = c3
    rfl
  · dsimp only
    rw [ht]
    rfl
set_option maxRecDepth 20000 in
theorem el_inc (k : sv_Lo → List sv_V → sv_S → Option Unit) (L : Nat) (xs : Nat → Int32) (i : Nat) (σ : sv_S) : sv_ex (lw_ev [] L xs) lw_rt (fun pc => sv_lk pc [(18, k)]) cl_inc 10 1385 (lw_lo i) [] σ = k [some (sv_R 24 0), some (sv_R 0 0), some (sv_R 30 0), some (.inl (nI i + 6))] [] σ := rfl
theorem lw_sw {β : Type} {x : Int} {d : Nat} {go : Nat → Option β} {r : Option β} (hd : go d = r) : ∀ {l : List (Int × Nat)}, (∀ q ∈ l, go q.2 = r) → sv_sw x d go l = r
  | [], _ => hd
  | q :: l, h => by
    unfold sv_sw
    by_cases g : x = q.1
    · rw [sv_if_t g]; exact h q List.mem_cons_self
    · rw [sv_if_f g]; exact lw_sw hd (fun q' h' => h q' (List.mem_cons_of_mem _ h'))
theorem lw_lt {L i : Nat} (hL : L ≤ 384) (hi : i ≤ 400) : nI L - 6 < nI i ↔ ¬ i + 6 ≤ L := by
  have e : (nI L - 6).toInt = (L : Int) - 6 := by
    have h : ∀ L : Nat, L ≤ 384 → (nI L - 6).toInt = (L : Int) - 6 := by
      intro L hL
      rw [Int32.toInt_sub, nI_toInt (by omega)]
      show Int.bmod ((L : Int) - 6) (2 ^ 32) = _
      exact Int.bmod_eq_of_le (by omega) (by omega)
    exact h L hL
  rw [Int32.lt_iff_toInt_lt, e, nI_toInt (by omega)]
  omega
section LWB
variable {p : Program} {l : Launch} {e : Env} {s : State} {m : MethodId} {b : Nat} {below : List Frame} {meth : Method} {c : Code} {L : Nat} {xs : Nat → Int32} {cells slots : Nat} {ad : Nat → Nat → Nat} {dC : Nat → ClassId} {dI : Nat → Nat → Nat} {cA : Nat → ClassId} {n0 : Nat}
set_option maxHeartbeats 4000000 in
set_option maxRecDepth 20000 in
theorem la_text (X : lw_X p s m meth c b L xs cells slots ad dC dI cA) {i : Nat} {σ : sv_S} (hR : R_A σ) (hn : n0 < 1000) (hc : cells + 3 ≤ 600000) (hs : slots + 196 ≤ 7302249) (next : ∀ (ad' : Nat → Nat → Nat) (n' : Nat) (υ : sv_S), (∀ r i, r ≠ 18 → r ≠ 19 → r ≠ 20 → ad' r i = ad r i) → n' ≤ n0 + 1 → R_A υ → sv_T (lw_G p l e s m b below meth c (cells + 3) (slots + 196) ad' dC dI cA n') 1385 (lw_lo i) [] υ) : sv_T (lw_G p l e s m b below meth c cells slots ad dC dI cA n0) 874 (lw_lo i) [] σ := by
  intro H locs ls hrep hS hLo hct0 hst hlo
  subst hct0
  obtain ⟨hx, hb, hml, hown, hts⟩ := X.1
  have hkn := X.2.2.2.1
  refine lv_aload_n hx hb dw_874 rfl (hLo.at (i := 1) (v := sv_R 0 0) rfl) ?_
  have l0 : sv_lv (sv_ct σ) 0 0 := ⟨by show 0 < 1; decide, fun q => by cases q⟩
  have hgood : GoodIn gw_tbl (wsV "OneStrokeLaw" 113 "OneStroke" yX11_text (sv_ws yX11_text cX11_text 2 (some .int))) := gw_goodIn (fun w h => by
    unfold wsV at h
    rcases List.mem_append.mp h with h | h
    · exact sv_w4 tw_673 tw_674 tw_675 tw_53 w h
    · exact sv_ws_in tw_676 w h)
  refine ty_after (A := fun q => s.heap.size ≤ q) (rest := []) (va_runV (As := []) (b := ad 0 0) X.1 (m_text l s.heap.size ad dC dI cA σ hR hn) (cwV 0 hts hgood rfl rfl rfl ⟨rfl, by decide, by decide, by decide +kernel⟩ ⟨Nat.le_of_ble_eq_true rfl, Nat.le_of_ble_eq_true rfl⟩) ⟨tt_blind, sv_recv hkn.1 hrep l0 rfl rfl, fun U hU hWa => ⟨rfl, hkn.go hWa (fun a h1 h2 => by rw [hU]; exact hS.2.1 a h1 h2), by rw [hU]; exact hrep⟩⟩ rfl rfl hLo.2.1 rfl (lv_room (Nat.le_of_ble_eq_true rfl)) dw_875 ⟨hc, hs⟩) (fun _ h => h) hS (fun st o t h0 h => by
    obtain ⟨_, _, _, _, _, h, _⟩ := h
    exact h) (fun o H1 locs1 ho hS1 => ?_)
  obtain ⟨st, t, h0, ht, v, σ', ad', ho, hrep', hF, hag, hctr, τ, hM, hRA⟩ := ho
  cases ho
  rw [ht] at hrep'
  have X' : lw_X p s m meth c b L xs (cells + 3) (slots + 196) ad' dC dI cA := X.to hag hc hs
  have key := sv_run (lw_ok (l := l) (e := e) (below := below) (n0 := sv_ct σ') X' (cs := [(879, (1, .inl n_Mo_text))]) (List.forall_mem_cons.mpr ⟨(sv_cV X'.1 X'.2.2.2.1.1 (m_Mo_text l) ⟨Nat.le_of_ble_eq_true rfl, Nat.le_of_ble_eq_true rfl⟩ (by decide) X'.2.2.2.2.2.2 rfl (g_Mo_text) (sv_w5 tw_1322 tw_1323 tw_1324 tw_65 tw_1325) (by decide +kernel) (sv_dc3 dl_text (pc := 879) rfl rfl)).I, fun _ h => absurd h List.not_mem_nil⟩)) dl_text (K := fun pc => sv_lk pc [(1385, lw_k i)]) (lw_Kok (fun υ hυ => next ad' (sv_ct σ') υ hag (by omega) hυ)) 10 878 (lw_lo i) [.inl v] σ' (by
    rw [el_text, hM, pz_b, sv_if_t rfl]
    exact lw_k_t hRA)
  exact key H1 locs1 ls hrep' hS1 ⟨hLo.1, by
    have := hLo.2
    show lv_has ls 4 [(0, .ref (ad' 24 0)), (1, .ref (ad' 0 0)), (2, .ref (ad' 30 0)), (3, .int (nI i))]
    rw [hag 24 0 (by decide) (by decide) (by decide), hag 0 0 (by decide) (by decide) (by decide), hag 30 0 (by decide) (by decide) (by decide)]
    exact this⟩ rfl (fun v hv => by
      rw [List.mem_singleton.mp hv]
      exact trivial) (lw_lo_ok i _)
theorem la_all (X : lw_X p s m meth c b L xs cells slots ad dC dI cA) {i : Nat} (hi : i + 6 ≤ L) (hL : L ≤ 384) {σ : sv_S} (hR : R_A σ) (htext : sv_T (lw_G p l e s m b below meth c cells slots ad dC dI cA n0) 874 (lw_lo i) [] σ) (next : ∀ υ, R_A υ → sv_T (lw_G p l e s m b below meth c cells slots ad dC dI cA n0) 1385 (lw_lo i) [] υ) : ∀ t, lw_in t = true → sv_T (lw_G p l e s m b below meth c cells slots ad dC dI cA n0) t (lw_lo i) [] σ := by
  have h : ∀ t ∈ lw_al, sv_T (lw_G p l e s m b below meth c cells slots ad dC dI cA n0) t (lw_lo i) [] σ := List.forall_mem_cons.mpr ⟨la_0 X hi hL hR next, List.forall_mem_cons.mpr ⟨la_1 X hi hL hR next, List.forall_mem_cons.mpr ⟨la_2 X hi hL hR next, List.forall_mem_cons.mpr ⟨la_3 X hi hL hR next, List.forall_mem_cons.mpr ⟨la_4 X hi hL hR next, List.forall_mem_cons.mpr ⟨la_5 X hi hL hR next, List.forall_mem_cons.mpr ⟨la_6 X hi hL hR next, List.forall_mem_cons.mpr ⟨la_7 X hi hL hR next, List.forall_mem_cons.mpr ⟨la_8 X hi hL hR next, List.forall_mem_cons.mpr ⟨la_9 X hi hL hR next, List.forall_mem_cons.mpr ⟨la_10 X hi hL hR next, List.forall_mem_cons.mpr ⟨la_11 X hi hL hR next, List.forall_mem_cons.mpr ⟨la_12 X hi hL hR next, List.forall_mem_cons.mpr ⟨la_13 X hi hL hR next, List.forall_mem_cons.mpr ⟨la_14 X hi hL hR next, List.forall_mem_cons.mpr ⟨la_15 X hi hL hR next, List.forall_mem_cons.mpr ⟨la_16 X hi hL hR next, List.forall_mem_cons.mpr ⟨la_17 X hi hL hR next, List.forall_mem_cons.mpr ⟨la_18 X hi hL hR next, List.forall_mem_cons.mpr ⟨la_19 X hi hL hR next, List.forall_mem_cons.mpr ⟨la_20 X hi hL hR next, List.forall_mem_cons.mpr ⟨la_21 X hi hL hR next, List.forall_mem_cons.mpr ⟨la_22 X hi hL hR next, List.forall_mem_cons.mpr ⟨la_23 X hi hL hR next, List.forall_mem_cons.mpr ⟨htext, List.forall_mem_cons.mpr ⟨la_25 X hi hL hR next, List.forall_mem_cons.mpr ⟨la_26 X hi hL hR next, List.forall_mem_cons.mpr ⟨la_27 X hi hL hR next, List.forall_mem_cons.mpr ⟨la_28 X hi hL hR next, List.forall_mem_cons.mpr ⟨la_29 X hi hL hR next, List.forall_mem_cons.mpr ⟨la_30 X hi hL hR next, List.forall_mem_cons.mpr ⟨la_31 X hi hL hR next, List.forall_mem_cons.mpr ⟨la_32 X hi hL hR next, List.forall_mem_cons.mpr ⟨la_33 X hi hL hR next, List.forall_mem_cons.mpr ⟨la_34 X hi hL hR next, List.forall_mem_cons.mpr ⟨la_35 X hi hL hR next, List.forall_mem_cons.mpr ⟨la_36 X hi hL hR next, List.forall_mem_cons.mpr ⟨la_37 X hi hL hR next, List.forall_mem_cons.mpr ⟨la_38 X hi hL hR next, List.forall_mem_cons.mpr ⟨la_39 X hi hL hR next, List.forall_mem_cons.mpr ⟨la_40 X hi hL hR next, List.forall_mem_cons.mpr ⟨next σ hR, fun _ h => absurd h List.not_mem_nil⟩⟩⟩⟩⟩⟩⟩⟩⟩⟩⟩⟩⟩⟩⟩⟩⟩⟩⟩⟩⟩⟩⟩⟩⟩⟩⟩⟩⟩⟩⟩⟩⟩⟩⟩⟩⟩⟩⟩⟩⟩⟩
  intro t ht
  obtain ⟨x, hx, hb⟩ := List.any_eq_true.mp ht
  rw [Nat.eq_of_beq_eq_true hb]
  exact h x hx
theorem lw_head (X : lw_X p s m meth c b L xs cells slots ad dC dI cA) {i : Nat} (hi : i ≤ 400) (hL : L ≤ 384) {σ : sv_S} (arms : i + 6 ≤ L → ∀ t, lw_in t = true → sv_T (lw_G p l e s m b below meth c cells slots ad dC dI cA n0) t (lw_lo i) [] σ) : sv_T (lw_G p l e s m b below meth c cells slots ad dC dI cA n0) 18 (lw_lo i) [] σ := by
  refine sv_run (lw_ok X (cs := []) (fun _ h => absurd h List.not_mem_nil)) dl_head (K := fun pc => bif lw_in pc then some (fun lo st υ => sv_g (lo = lw_lo i ∧ st = [] ∧ υ = σ ∧ i + 6 ≤ L) (some ())) else none) (fun pc k hk lo st υ h => ?_) 20 18 (lw_lo i) [] σ ?_
  · cases hb : lw_in pc with
    | true =>
      rw [hb] at hk
      cases hk
      obtain ⟨⟨rfl, rfl, rfl, h6⟩, -⟩ := sv_g_some h
      exact arms h6 pc hb
    | false =>
      rw [hb] at hk
      cases hk
  · obtain ⟨go, h1, h2⟩ := el_head (fun lo st υ => sv_g (lo = lw_lo i ∧ st = [] ∧ υ = σ ∧ i + 6 ≤ L) (some ())) L xs i σ
    rw [h1]
    by_cases g : i + 6 ≤ L
    · rw [sv_if_f (fun q => (lw_lt hL hi).mp q g), pz_in (by omega) (by omega)]
      have hk : ∀ t, lw_in t = true → go t = some () := fun t ht => by rw [h2 t ht]; exact sv_g_t ⟨rfl, rfl, rfl, g⟩
      exact lw_sw (hk 1385 (by decide)) (fun q hq => hk _ (lw_swl_in q hq))
    · rw [sv_if_t ((lw_lt hL hi).mpr g)]
      exact sv_g_t rfl
theorem lw_inc (X : lw_X p s m meth c b L xs cells slots ad dC dI cA) {i : Nat} {σ : sv_S} (next : sv_T (lw_G p l e s m b below meth c cells slots ad dC dI cA n0) 18 (lw_lo (i + 6)) [] σ) : sv_T (lw_G p l e s m b below meth c cells slots ad dC dI cA n0) 1385 (lw_lo i) [] σ := by
  refine sv_run (lw_ok X (cs := []) (fun _ h => absurd h List.not_mem_nil)) dl_inc (K := fun pc => sv_lk pc [(18, fun lo st υ => sv_g (lo = lw_lo (i + 6) ∧ st = [] ∧ υ = σ) (some ()))]) (sv_lk_all (P := fun pc (k : sv_Lo → List sv_V → sv_S → Option Unit) => ∀ lo st σ, k lo st σ = some () → sv_T _ pc lo st σ) (List.forall_mem_cons.mpr ⟨fun lo st υ h => (by
    obtain ⟨⟨rfl, rfl, rfl⟩, -⟩ := sv_g_some h
    exact next), fun _ h => absurd h List.not_mem_nil⟩)) 10 1385 (lw_lo i) [] σ ?_
  rw [el_inc]
  refine sv_g_t ⟨?_, rfl, rfl⟩
  have e : nI i + 6 = nI (i + 6) := by
    unfold nI
    exact (Int32.ofNat_add i 6).symm
  rw [e]
  rfl
end LWB
theorem lw_loop {p : Program} {l : Launch} {e : Env} {s : State} {m : MethodId} {b : Nat} {below : List Frame} {meth : Method} {c : Code} {L : Nat} {xs : Nat → Int32} {dC : Nat → ClassId} {dI : Nat → Nat → Nat} {cA : Nat → ClassId} (hL : L ≤ 384) : ∀ (n i cells slots : Nat) (ad : Nat → Nat → Nat) (n0 : Nat) (σ : sv_S), lw_X p s m meth c b L xs cells slots ad dC dI cA → L < i + 6 + 6 * n → cells + 3 * n ≤ 600000 → slots + 196 * n ≤ 7302249 → n0 + n < 1000 → i ≤ 400 → R_A σ → sv_T (lw_G p l e s m b below meth c cells slots ad dC dI cA n0) 18 (lw_lo i) [] σ
  | 0, i, cells, slots, ad, n0, σ, X, h1, h2, h3, h4, h5, hR => lw_head X h5 hL (fun h => absurd h (by omega))
  | n + 1, i, cells, slots, ad, n0, σ, X, h1, h2, h3, h4, h5, hR => lw_head X h5 hL (fun hi => la_all X hi hL hR
      (la_text X hR (by omega) (by omega) (by omega) (fun ad' n' υ hag hn' hυ => lw_inc (X.to hag (by omega) (by omega)) (lw_loop hL n (i + 6) (cells + 3) (slots + 196) ad' n' υ (X.to hag (by omega) (by omega)) (by omega) (by omega) (by omega) (by omega) (by omega) hυ)))
      (fun υ hυ => lw_inc X (lw_loop hL n (i + 6) cells slots ad n0 υ X (by omega) (by omega) (by omega) (by omega) (by omega) hυ)))
set_option maxRecDepth 20000 in
theorem hs_1_len : hs_1.map List.length = some 83 := by decide +kernel
theorem lw_z11 : ∀ k, k < 13 → defaultValue (tyX11 k) = hw_z 11 k := by decide +kernel
theorem lw_z12 : ∀ k, k < 34 → defaultValue (tyX12 k) = hw_z 12 k := by decide +kernel
set_option maxHeartbeats 4000000 in
set_option maxRecDepth 20000 in
/-- the law, from its entry -/
theorem whole_start {p : Program} {e : Env} {s : State} {m : MethodId} {below : List Frame} {meth : Method} {c : Code} (l : Launch) (hflags : l.flags = flags0) {b L : Nat} {xs : Nat → Int32} (hL : L ≤ 384) (C0 : lw_At p s m meth c b L xs) : W p l e room_1 s m #[Value.ref b] below meth c s.heap [] 0 0 (lw_Z below #[Value.ref b] s) (entryFrame m ([Value.ref b] : List Value).toArray 4) := by
  obtain ⟨hx, hb, hr, hml, hown, htl, hX, hbl, hlocks, hgv⟩ := id C0
  obtain ⟨dC, dI, cA, g, g24, hkn⟩ := lk_kn htl hgv
  have hts : ∀ w ∈ gw_tbl, w.before #[Value.ref b] s = true := fun w hw => htl w (List.mem_filter.mp hw).1
  have hK := hkn.1.1
  have S : CallFix p m c code 4 s #[Value.ref b] gw_tbl "OneStrokeLaw" := ⟨hx, hb, hml, hown, hts⟩
  obtain ⟨w1, h1⟩ := Option.isSome_iff_exists.mp hs_1_is
  obtain ⟨w2, h2⟩ := Option.isSome_iff_exists.mp hs_2_is
  have hl1 : w1.length = 83 := by
    have := hs_1_len
    rw [h1] at this
    exact Option.some.inj this
  have f1 : hf_X11_init [sv_R 0 0] [.inl (11, hw_df 11)] = some w1 := h1
  have f2 : hf_X12_init [sv_R 0 w1.length] (w1 ++ [.inl (12, hw_df 12)]) = some w2 := by
    have q := h2
    unfold hs_2 at q
    rw [h1] at q
    exact q
  have a24 : hs_ad s.heap.size g 24 0 = b := (if_pos (by omega)).trans g24
  have a0 : hs_ad s.heap.size g 0 0 = s.heap.size + 0 := if_neg (by omega)
  have a30 : hs_ad s.heap.size g 30 0 = s.heap.size + 83 := if_neg (by omega)
  have hS : va_S (fun q => s.heap.size ≤ q) s.heap s.heap [] := va_S.rf
  have hW : HW s.heap.size dC dI cA [] s.heap := ⟨rfl, fun k E h => by simp at h⟩
  have hl := lv_entry ([.ref b]) (n := 4) (Nat.le_of_ble_eq_true rfl)
  rw [lg_entry_eq]
  generalize (lg_sl ([.ref b]) ++ List.replicate (4 - (lg_sl ([.ref b])).length) Slot.unset).toArray = ls at hl ⊢
  have hl : lv_has ls 4 [(0, .ref b)] := hl
  have hg11 : GoodIn gw_tbl (sv_ws yX11_init cX11_init 3 none) := gw_goodIn (sv_ws_in tw_78)
  have hg12 : GoodIn gw_tbl (sv_ws yX12_init cX12_init 2 none) := gw_goodIn (sv_ws_in tw_988)
  refine hw_new (ci := 11) (q := (RX11, TX11, 13)) (fs := hw_df 11) hx hb hts hown hK hW hS rfl ck_11 tyX11_ok (fun k hk => by rw [lw_z11 k hk, hw_df_z hk]) tw_74 tw_75 tw_53 (Nat.le_of_ble_eq_true rfl) (Nat.le_of_ble_eq_true rfl) dw_0 (fun H1 hW1 hS1 => ?_)
  refine lv_dup hx hb dw_3 rfl ?_
  refine hw_after (base := s.heap.size) (dC := dC) (dI := dI) (cA := cA) (mc := 400) (ms := 4000) (w' := w1) (rest := [.ref (s.heap.size + 0)]) (va_runI (As := []) (b := s.heap.size + 0) S (hm_X11_init l s.heap.size dC dI cA [sv_R 0 0] _ _ f1) (cwI 0 hts hg11 rfl rfl rfl (hts _ tw_53) (hts _ tw_76) (hts _ tw_77) rfl ⟨by decide, by decide, by decide +kernel⟩ ⟨Nat.le_of_ble_eq_true rfl, Nat.le_of_ble_eq_true rfl⟩) ⟨hw_blind, fun U hU hWa => ⟨rfl, hkn.2.1.go hWa, by rw [hU]; exact hW1⟩⟩ rfl rfl hl.1 rfl (lv_room (Nat.le_of_ble_eq_true rfl)) dw_4 ⟨Nat.le_of_ble_eq_true rfl, Nat.le_of_ble_eq_true rfl⟩) hS1 (fun H2 locs2 hW2 hS2 => ?_)
  refine lv_astore_n (lv' := [(1, .ref (s.heap.size + 0)), (0, .ref b)]) hx hb dw_7 rfl hl (by decide) rfl (fun ls hl => ?_)
  refine hw_new (ci := 12) (q := (RX12, TX12, 34)) (fs := hw_df 12) hx hb hts hown hK hW2 hS2 rfl ck_12 tyX12_ok (fun k hk => by rw [lw_z12 k hk, hw_df_z hk]) tw_984 tw_985 tw_65 (Nat.le_of_ble_eq_true rfl) (Nat.le_of_ble_eq_true rfl) dw_8 (fun H3 hW3 hS3 => ?_)
  refine lv_dup hx hb dw_11 rfl ?_
  refine hw_after (base := s.heap.size) (dC := dC) (dI := dI) (cA := cA) (mc := 20) (ms := 12000) (w' := w2) (rest := [.ref (s.heap.size + w1.length)]) (va_runI (As := []) (b := s.heap.size + w1.length) S (hm_X12_init l s.heap.size dC dI cA [sv_R 0 w1.length] _ _ f2) (cwI 0 hts hg12 rfl rfl rfl (hts _ tw_65) (hts _ tw_986) (hts _ tw_987) rfl ⟨by decide, by decide, by decide +kernel⟩ ⟨Nat.le_of_ble_eq_true rfl, Nat.le_of_ble_eq_true rfl⟩) ⟨hw_blind, fun U hU hWa => ⟨rfl, hkn.2.1.go hWa, by rw [hU]; exact hW3⟩⟩ rfl rfl hl.1 rfl (lv_room (Nat.le_of_ble_eq_true rfl)) dw_12 ⟨Nat.le_of_ble_eq_true rfl, Nat.le_of_ble_eq_true rfl⟩) hS3 (fun H4 locs4 hW4 hS4 => ?_)
  refine lv_astore_n (lv' := [(2, .ref (s.heap.size + w1.length)), (1, .ref (s.heap.size + 0)), (0, .ref b)]) hx hb dw_15 rfl hl (by decide) rfl (fun ls hl => ?_)
  refine lv_iconst (v := 0) hx hb dw_16 (by decide) ?_
  refine lv_istore_n (lv' := [(3, .int 0), (2, .ref (s.heap.size + w1.length)), (1, .ref (s.heap.size + 0)), (0, .ref b)]) hx hb dw_17 rfl hl (by decide) rfl (fun ls hl => ?_)
  have X : lw_X p s m meth c b L xs 422 16047 (hs_ad s.heap.size g) dC dI cA := ⟨S, hr, hlocks, hkn, by rw [a24]; exact hX, by rw [a24]; exact hbl, Nat.le_of_ble_eq_true rfl, Nat.le_of_ble_eq_true rfl⟩
  refine W.widen (k := 422) (n := 16047) (Nat.le_of_ble_eq_true rfl) (Nat.le_of_ble_eq_true rfl) ?_
  have key := lw_loop (l := l) (e := e) (below := below) hL 64 0 422 16047 (hs_ad s.heap.size g) 0 hs_s X (by omega) (by omega) (by omega) (by omega) (by omega) hs_R
  refine key H4 locs4 ls (hs_rep h2 hW4) hS4 ⟨rfl, ?_⟩ hs_ct (fun v hv => by cases hv) (lw_lo_ok 0 _)
  show lv_has ls 4 [(0, .ref (hs_ad s.heap.size g 24 0)), (1, .ref (hs_ad s.heap.size g 0 0)), (2, .ref (hs_ad s.heap.size g 30 0)), (3, .int (nI 0))]
  rw [a24, a0, a30, ← hl1]
  exact lv_sub hl [3, 2, 1, 0] rfl
