/-! ===== System.arraycopy; a method's contract for some of its arguments ===== -/
noncomputable def sv_cp (σ : sv_S) (q i j sp dp n : Nat) : sv_S := fun r' i' k' => if r' = q ∧ i' = j then va_cpy (σ q i) (σ q j) sp dp n k' else σ r' i' k'
noncomputable def f_ac (q : Nat) (i : Nat) (sp : Int32) (j : Nat) (dp n : Int32) (σ : sv_S) : Option sv_S := sv_g (¬ sp < 0 ∧ ¬ dp < 0 ∧ ¬ n < 0 ∧ sp.toNatClampNeg + n.toNatClampNeg ≤ sv_ln q i σ ∧ dp.toNatClampNeg + n.toNatClampNeg ≤ sv_ln q j σ) (some (sv_cp σ q i j sp.toNatClampNeg dp.toNatClampNeg n.toNatClampNeg))
noncomputable def f_ac5 (i : Nat) (sp : Int32) (j : Nat) (dp n : Int32) (σ : sv_S) : Option sv_S := f_ac 5 i sp j dp n σ
noncomputable def f_ac13 (i : Nat) (sp : Int32) (j : Nat) (dp n : Int32) (σ : sv_S) : Option sv_S := f_ac 13 i sp j dp n σ
noncomputable def n_ac5 : List sv_V → sv_S → Option sv_S
  | [.inr (.inr (some (5, i))), .inl sp, .inr (.inr (some (5, j))), .inl dp, .inl n], σ => f_ac5 i sp j dp n σ
  | _, _ => none
noncomputable def n_ac13 : List sv_V → sv_S → Option sv_S
  | [.inr (.inr (some (13, i))), .inl sp, .inr (.inr (some (13, j))), .inl dp, .inl n], σ => f_ac13 i sp j dp n σ
  | _, _ => none
theorem sv_rep.upG {base : Nat} {ad : Nat → Nat → Nat} {dC : Nat → ClassId} {dI : Nat → Nat → Nat} {cA : Nat → ClassId} {σ σ' : sv_S} {H H1 : Heap} {r i : Nat} (h : sv_rep base ad dC dI cA σ H) (hl : sv_lv (sv_ct σ) r i) (hm : sv_my r) (h18 : r ≠ 18) (h22 : r ≠ 22) (h4 : r ≠ 4) (hσ : ∀ r' i', ¬ (r' = r ∧ i' = i) → σ' r' i' = σ r' i')
    (hc : sv_cell ad dC dI cA σ' r i H1) (hq : ∀ q : Nat, q ≠ ad r i → H1[q]? = H[q]?) : sv_ct σ' = sv_ct σ ∧ sv_rep base ad dC dI cA σ' H1 := by
  have hct : sv_ct σ' = sv_ct σ := by unfold sv_ct; rw [hσ 22 0 (fun q => h22 q.1.symm)]
  have hln : ∀ r' i', sv_ln r' i' σ' = sv_ln r' i' σ := by
    intro r' i'
    have e : ∀ j, σ' 18 j = σ 18 j := fun j => hσ 18 j (fun q => h18 q.1.symm)
    unfold sv_ln
    split <;> first | rfl | rw [e]
  refine ⟨hct, ?_⟩
  unfold sv_rep
  rw [hct]
  refine ⟨fun r' i' hl' hm' => ?_, h.2.1, fun a j => by rw [hσ 4 a (fun q => h4 q.1.symm)]; exact h.2.2 a j⟩
  by_cases he : r' = r ∧ i' = i
  · obtain ⟨rfl, rfl⟩ := he
    exact ⟨(h.1 r' i' hl' hm').1, hc⟩
  · exact ⟨(h.1 r' i' hl' hm').1, (h.1 r' i' hl' hm').2.kept (hσ _ _ he) (hln _ _) (hq _ (fun q => he (h.2.1 _ _ _ _ hl' hl hm' hm q)))⟩
section SVN
variable {p : Program} {l : Launch} {e : Env} {R : Room} {s : State} {m : MethodId} {args : Array Value} {below : List Frame} {meth : Method} {c : Code} {cells slots : Nat} {Q : State → Prop}
variable {cc : ByteArray} {base : Nat} {ad : Nat → Nat → Nat} {dC : Nat → ClassId} {dI : Nat → Nat → Nat} {cA : Nat → ClassId} {own : String} {nL n0 : Nat} {nl : Bool}
set_option maxHeartbeats 4000000 in
theorem sv_acopy (S : CallFix p m c cc nL s args gw_tbl own) (hkn : sv_kn base ad dC dI cA s) {idx pc q : Nat} (hq : ∀ i, sv_kd q i = .inr 0) (hR : 1 ≤ R.frames ∧ 64 * 1 ≤ R.locals) (hw : ∀ w ∈ [Cond.methodLink own idx arraycopyName, Cond.native arraycopyName, Cond.static arraycopyName, Cond.initialized "java/lang/System"], w ∈ gw_tbl) (hdg : decode cc pc = .ok (.invokestatic idx, 3))
    {F : List sv_V → sv_S → Option sv_S} (hF : ∀ as σ x, F as σ = some x → ∃ i sp j dp n, as = [sv_R q i, .inl sp, sv_R q j, .inl dp, .inl n] ∧ f_ac q i sp j dp n σ = some x) : sv_cg p l e R s m args below meth c cells slots Q base ad dC dI cA nl nL n0 pc 5 (sv_gV F) := by
  intro as rest lo σ r σ' hn hsm hG hWt H locs ls hRp hS hL hct hst hlo
  subst hct
  obtain ⟨τ, h1, h2⟩ := sv_b0_some hG
  cases h2
  obtain ⟨i, sp, j, dp, n, rfl, hf⟩ := hF _ _ _ h1
  obtain ⟨⟨g1, g2, g3, g4, g5⟩, hf⟩ := sv_g_some hf
  cases hf
  have hlv : ∀ v ∈ [sv_R q i, .inl sp, sv_R q j, .inl dp, .inl n], sv_ok (sv_ct σ) v := fun v hv => hst v (List.mem_append_left _ (List.mem_reverse.mpr hv))
  have hli : sv_lv (sv_ct σ) q i := hlv _ List.mem_cons_self
  have hlj : sv_lv (sv_ct σ) q j := hlv (sv_R q j) (by simp)
  obtain ⟨hx, hb, hml, hown, hts⟩ := S
  have hmy : sv_my q := sv_my_arr (hq i) (by decide)
  obtain ⟨h18, h22⟩ := sv_no18 (hq i) (by decide)
  have hc0 : H[ad q i]? = some (arrV (cA 0) (sv_ln q i σ) (fun k => .int (σ q i k))) := (hRp.1 q i hli hmy).2.ar (hq i)
  obtain ⟨hA, hcj⟩ := hRp.1 q j hlj hmy
  have hc1 : H[ad q j]? = some (arrV (cA 0) (sv_ln q j σ) (fun k => .int (σ q j k))) := hcj.ar (hq j)
  have hK := hkn.1
  have nn : ∀ z : Int32, ¬ z < 0 → z.toInt = (z.toNatClampNeg : Int) := by
    intro z hz
    have hz0 : (0 : Int) ≤ z.toInt := by
      have := Int32.not_lt.mp hz
      simpa using Int32.le_iff_toInt_le.mp this
    show z.toInt = ((z.toInt.toNat : Nat) : Int)
    omega
  intro T hT X
  obtain ⟨-, k0, hk0, cm0, hkk0⟩ := (hK.2 0 _ rfl).1 (sv_ln q i σ) (fun k => .int (σ q i k))
  obtain ⟨-, k1, hk1, cm1, hkk1⟩ := (hK.2 0 _ rfl).1 (sv_ln q j σ) (fun k => .int (σ q j k))
  have hloc : ((rest.map (sv_c ad)).map fun v => v.category).sum + (nativeFrameWords "java/lang/System" "arraycopy" 5 + 11) ≤ R.locals := by
    have h8 := sv_sm8 (ad := ad) hsm
    have hnf : nativeFrameWords "java/lang/System" "arraycopy" 5 + 11 ≤ 56 := by decide +kernel
    omega
  obtain ⟨vm', X', step⟩ := X.arraycopy hx hown (hts (Cond.methodLink own idx arraycopyName) (hw _ (by simp))) (hts (Cond.native arraycopyName) (hw _ (by simp))) (hts (Cond.static arraycopyName) (hw _ (by simp))) (hts (Cond.initialized "java/lang/System") (hw _ (by simp))) (src := ad q i) (dst := ad q j) (srcPos := sp) (destPos := dp) (n := n) (by rw [hT]; exact hc0) (by rw [hT]; exact hc1)
    (fun _ h => by cases h) (fun _ h => by cases h) (fun h => by cases h) (fun h => by cases h) hk0 hk1 hkk0 hkk1 (by simp [refKind]) g1 g2 g3
    (by rw [nn sp g1, nn n g3, arrV_size]; omega)
    (by rw [nn dp g2, nn n g3, arrV_size]; omega)
    (fun vm₁ _ k hk => by
      have e : (arrV (cA 0) (sv_ln q i σ) (fun k => .int (σ q i k))).slots.getD (sp.toNatClampNeg + k) .null = .int (σ q i (sp.toNatClampNeg + k)) := by
        rw [Array.getD_eq_getD_getElem?, arrV_read _ _ (by omega)]
        rfl
      refine ⟨?_, ?_⟩
      · rw [e]; rfl
      · rw [e]; exact trivial)
    (g := F0 m pc ls (.int n :: .int dp :: .ref (ad q j) :: .int sp :: .ref (ad q i) :: rest.map (sv_c ad))) rfl (by show ls.size = c.maxLocals; rw [hml]; exact hL.2.1) (rest := rest.map (sv_c ad)) rfl (by rw [hb]; exact hdg) hR.1 (by show 2 * 0 + _ + _ ≤ _; omega)
  have e1 : copied (arrV (cA 0) (sv_ln q i σ) (fun k => Value.int (σ q i k))) (arrV (cA 0) (sv_ln q j σ) (fun k => Value.int (σ q j k))) sp dp n = arrV (cA 0) (sv_ln q j σ) (fun k => .int (va_cpy (σ q i) (σ q j) sp.toNatClampNeg dp.toNatClampNeg n.toNatClampNeg k)) := va_copied (fun z => .int z) (cA 0) (cA 0) (σ q i) (σ q j) g4
  rw [e1] at X' step
  have hlt : ad q j < H.size := (Array.getElem?_eq_some_iff.mp hc1).1
  generalize hce : arrV (cA 0) (sv_ln q j σ) (fun k => .int (va_cpy (σ q i) (σ q j) sp.toNatClampNeg dp.toNatClampNeg n.toNatClampNeg k)) = ce at X' step
  have hheap : ((T.setVm vm').setCell (ad q j) ce).heap = H.setIfInBounds (ad q j) ce := by rw [← hT]; rfl
  have oq : ∀ z : Nat, z ≠ ad q j → (H.setIfInBounds (ad q j) ce)[z]? = H[z]? := fun z hz => by simp [Array.getElem?_setIfInBounds, Ne.symm hz]
  have hat : (H.setIfInBounds (ad q j) ce)[ad q j]? = some ce := by simp [Array.getElem?_setIfInBounds, hlt]
  have hσ : ∀ r' i', ¬ (r' = q ∧ i' = j) → sv_cp σ q i j sp.toNatClampNeg dp.toNatClampNeg n.toNatClampNeg r' i' = σ r' i' := by
    intro r' i' hne
    funext k
    unfold sv_cp
    rw [if_neg hne]
  have hself : sv_cp σ q i j sp.toNatClampNeg dp.toNatClampNeg n.toNatClampNeg q j = va_cpy (σ q i) (σ q j) sp.toNatClampNeg dp.toNatClampNeg n.toNatClampNeg := by
    funext k
    unfold sv_cp
    rw [if_pos ⟨rfl, rfl⟩]
  have hln : sv_ln q j (sv_cp σ q i j sp.toNatClampNeg dp.toNatClampNeg n.toNatClampNeg) = sv_ln q j σ := by
    have e : ∀ z, sv_cp σ q i j sp.toNatClampNeg dp.toNatClampNeg n.toNatClampNeg 18 z = σ 18 z := fun z => hσ 18 z (fun w => h18 w.1.symm)
    unfold sv_ln
    split <;> first | rfl | rw [e]
  obtain ⟨hct', hrep'⟩ := hRp.upG (σ' := sv_cp σ q i j sp.toNatClampNeg dp.toNatClampNeg n.toNatClampNeg) hlj hmy h18 h22 (fun z => by have := hq j; rw [z] at this; simp [sv_kd] at this) hσ (by
    unfold sv_cell
    rw [hq j]
    show (H.setIfInBounds (ad q j) ce)[ad q j]? = _
    rw [hat, hln, hself, ← hce]
    rfl) oq
  obtain ⟨t, a1, b1⟩ := hWt _ _ ls hrep' ⟨by simp; exact hS.1, fun z g1 g2 => by
      rw [oq z (fun e => g2 (by rw [e]; exact hA))]
      exact hS.2.1 z g1 g2, fun z hz => by
      rcases List.mem_append.mp hz with h | h
      · exact hS.2.2 z h
      · obtain ⟨w, -, hw⟩ := List.mem_map.mp h
        rw [← hw]
        exact hA⟩ hL hct' (fun v hv => hst v (List.mem_append_right _ hv)) hlo _ hheap X'
  exact ⟨t, step t a1, b1⟩
end SVN
theorem sv_M.sub {l : Launch} {y : MethodName} {b : ByteArray} {n h : Nat} {ret : Option FieldType} {G G' : sv_D} (hM : sv_M l y b n ret G h) (hs : ∀ as σ x, G' as σ = some x → G as σ = some x) : sv_M l y b n ret G' h := fun base ad dC dI cA as σ r σ' hG => hM base ad dC dI cA as σ r σ' (hs _ _ _ hG)
/-- a function of the KINDS, for one of them -/
noncomputable def sv_a7 (j : Nat) (G : sv_D) : sv_D := fun as σ => match as with
  | .inr (.inr (some (7, i))) :: _ => sv_g (i = j) (G as σ)
  | _ => none
theorem sv_a7_sub {j : Nat} {G : sv_D} (as : List sv_V) (σ : sv_S) (x : Option sv_V × sv_S) (h : sv_a7 j G as σ = some x) : G as σ = some x := by
  unfold sv_a7 at h
  split at h
  · exact (sv_g_some h).2
  · cases h
theorem sv_a7_at {j : Nat} {G : sv_D} (as : List sv_V) (σ : sv_S) (x : Option sv_V × sv_S) (h : sv_a7 j G as σ = some x) : ∃ as', as = sv_R 7 j :: as' := by
  unfold sv_a7 at h
  split at h
  · rename_i i as'
    obtain ⟨rfl, -⟩ := sv_g_some h
    exact ⟨as', rfl⟩
  · cases h
theorem sv_a7_of {j : Nat} {G : sv_D} {as : List sv_V} {σ : sv_S} {x : Option sv_V × sv_S} (h : G (sv_R 7 j :: as) σ = some x) : sv_a7 j G (sv_R 7 j :: as) σ = some x := by
  show sv_g (j = j) _ = _
  rw [sv_g_t rfl]
  exact h
