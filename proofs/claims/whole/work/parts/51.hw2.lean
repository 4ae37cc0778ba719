/-! ===== the machine of constructors, and that it is right ===== -/
def hw_over : List String := ["OneStroke$Kind", "OneStroke$Drummer", "OneStroke$Text", "OneStroke$Sheet"]
abbrev hw_F : Type := List sv_V → List hw_E → Option (List hw_E)
/-- fields: their link's number, class, slot, whether an int, whether final; new; rows of objects; Object's constructor; calls by their pc: how many values they take, how many cells and slots they make -/
abbrev hw_T : Type := List (Nat × (Nat × (Nat × (Bool × Bool)))) × (List (Nat × Nat) × (List (Nat × (Nat × String)) × (Nat × List (Nat × (Nat × (Nat × (Nat × hw_F)))))))
abbrev hw_Cd : Type := List (Nat × (Instr × (Nat × Nat)))
abbrev hw_Go : Type := Nat → sv_Lo → List sv_V → List hw_E → Nat → Nat → Option (List hw_E)
def hw_df (ci : Nat) : List sv_V := (List.range (sv_nf ci)).map (fun k => if sv_ft ci k = 0 ∨ sv_ft ci k = 1 then .inl 0 else sv_N)
def hw_jn (b : Bool) (x : Option (List hw_E)) : Option (List hw_E) := bif b then x else none
def hw_cst (n : Int32) (pc : Nat) (lo : sv_Lo) (st : List sv_V) (w : List hw_E) (cl sl : Nat) (go : hw_Go) : Option (List hw_E) := go pc lo (.inl n :: st) w cl sl
def hw_i (X : hw_T) (MC MS : Nat) (pc len tg : Nat) (lo : sv_Lo) (st : List sv_V) (w : List hw_E) (cl sl : Nat) (go : hw_Go) : Instr → Option (List hw_E)
  | .iconst n => hw_jn (Nat.beq len 1) (go (pc + 1) lo (.inl (Int32.ofInt n) :: st) w cl sl)
  | .bipush n => hw_jn (Nat.beq len 2) (go (pc + 2) lo (.inl (Int8.ofInt n).toInt32 :: st) w cl sl)
  | .sipush n => hw_jn (Nat.beq len 3) (go (pc + 3) lo (.inl (Int16.ofInt n).toInt32 :: st) w cl sl)
  | .aload_n k => (match sv_ga lo k with
    | some (.inr (.inr (some (r, j)))) => hw_jn (Nat.beq len 1) (go (pc + 1) lo (sv_R r j :: st) w cl sl)
    | _ => none)
  | .iload_n k => (match sv_ga lo k with
    | some (.inl n) => hw_jn (Nat.beq len 1) (go (pc + 1) lo (.inl n :: st) w cl sl)
    | _ => none)
  | .istore_n k => (match st with
    | .inl n :: st => hw_jn (Nat.beq len 1 && Nat.ble (k + 1) lo.length) (go (pc + 1) (sv_se lo k (.inl n)) st w cl sl)
    | _ => none)
  | .astore_n k => (match st with
    | .inr (.inr (some (r, j))) :: st => hw_jn (Nat.beq len 1 && Nat.ble (k + 1) lo.length) (go (pc + 1) (sv_se lo k (sv_R r j)) st w cl sl)
    | _ => none)
  | .iinc k d => (match sv_ga lo k with
    | some (.inl n) => hw_jn (Nat.beq len 3) (go (pc + 3) (sv_se lo k (.inl (n + Int32.ofInt d))) st w cl sl)
    | _ => none)
  | .dup => (match st with
    | .inr (.inr (some (r, j))) :: st => hw_jn (Nat.beq len 1) (go (pc + 1) lo (sv_R r j :: sv_R r j :: st) w cl sl)
    | _ => none)
  | .goto _ => hw_jn (Nat.beq len 3) (go tg lo st w cl sl)
  | .if_icmp .ge _ => (match st with
    | .inl y :: .inl x :: st => hw_jn (Nat.beq len 3) (bif decide (y ≤ x) then go tg lo st w cl sl else go (pc + 3) lo st w cl sl)
    | _ => none)
  | .new idx => (match sv_lk idx X.2.1 with
    | some ci => hw_jn (Nat.beq len 3 && (Nat.ble (cl + 1) MC && Nat.ble (sl + sv_nf ci) MS)) (go (pc + 3) lo (sv_R 0 w.length :: st) (w ++ [.inl (ci, hw_df ci)]) (cl + 1) (sl + sv_nf ci))
    | _ => none)
  | .newarray .int => (match st with
    | .inl n :: st => hw_jn (Nat.beq len 2 && (!(decide (n < 0)) && (Nat.ble n.toNatClampNeg 10000 && (Nat.ble (cl + 1) MC && Nat.ble (sl + n.toNatClampNeg) MS)))) (go (pc + 2) lo (sv_R 0 w.length :: st) (w ++ [.inr (0, (n.toNatClampNeg, (.inl 0, [])))]) (cl + 1) (sl + n.toNatClampNeg))
    | _ => none)
  | .newarray .byte => (match st with
    | .inl n :: st => hw_jn (Nat.beq len 2 && (!(decide (n < 0)) && (Nat.ble n.toNatClampNeg 10000 && (Nat.ble (cl + 1) MC && Nat.ble (sl + n.toNatClampNeg) MS)))) (go (pc + 2) lo (sv_R 0 w.length :: st) (w ++ [.inr (1, (n.toNatClampNeg, (.inl 0, [])))]) (cl + 1) (sl + n.toNatClampNeg))
    | _ => none)
  | .anewarray idx => (match st, sv_lk idx X.2.2.1 with
    | .inl n :: st, some (t, _) => hw_jn (Nat.beq len 3 && (!(decide (n < 0)) && (Nat.ble n.toNatClampNeg 10000 && (Nat.ble (cl + 1) MC && Nat.ble (sl + n.toNatClampNeg) MS)))) (go (pc + 3) lo (sv_R 0 w.length :: st) (w ++ [.inr (t, (n.toNatClampNeg, (sv_N, [])))]) (cl + 1) (sl + n.toNatClampNeg))
    | _, _ => none)
  | .getfield idx => (match st, sv_lk idx X.1 with
    | .inr (.inr (some (_, j))) :: st, some (ci, (k, _)) => (match w[j]? with
      | some (.inl (ci', fs)) => hw_jn (Nat.beq len 3 && Nat.beq ci ci') (go (pc + 3) lo (fs.getD k sv_N :: st) w cl sl)
      | _ => none)
    | _, _ => none)
  | .putfield idx => (match st, sv_lk idx X.1 with
    | .inl n :: .inr (.inr (some (_, j))) :: st, some (ci, (k, (true, _))) => (match w[j]? with
      | some (.inl (ci', fs)) => hw_jn (Nat.beq len 3 && (Nat.beq ci ci' && Nat.ble (k + 1) fs.length)) (go (pc + 3) lo st (w.set j (.inl (ci, fs.set k (.inl n)))) cl sl)
      | _ => none)
    | .inr (.inr (some (_, v))) :: .inr (.inr (some (_, j))) :: st, some (ci, (k, (false, _))) => (match w[j]? with
      | some (.inl (ci', fs)) => hw_jn (Nat.beq len 3 && (Nat.beq ci ci' && Nat.ble (k + 1) fs.length)) (go (pc + 3) lo st (w.set j (.inl (ci, fs.set k (sv_R 0 v)))) cl sl)
      | _ => none)
    | _, _ => none)
  | .arraylength => (match st with
    | .inr (.inr (some (_, j))) :: st => (match w[j]? with
      | some (.inr (0, (n, (_, _)))) => hw_jn (Nat.beq len 1) (go (pc + 1) lo (.inl (nI n) :: st) w cl sl)
      | _ => none)
    | _ => none)
  | .iastore => (match st with
    | .inl y :: .inl x :: .inr (.inr (some (_, j))) :: st => (match w[j]? with
      | some (.inr (0, (n, (df, ups)))) => hw_jn (Nat.beq len 1 && decide (sv_in x n)) (go (pc + 1) lo st (w.set j (.inr (0, (n, (df, (x.toNatClampNeg, .inl y) :: ups))))) cl sl)
      | _ => none)
    | _ => none)
  | .aastore => (match st with
    | .inr (.inr (some (_, v))) :: .inl x :: .inr (.inr (some (_, j))) :: st => (match w[j]?, w[v]? with
      | some (.inr (t, (n, (df, ups)))), some (.inl (cv, _)) => hw_jn (Nat.beq len 1 && (decide (sv_in x n) && ((Nat.beq t 2 && Nat.beq cv 1) || ((Nat.beq t 5 && Nat.beq cv 6) || (Nat.beq t 4 && (Nat.beq cv 3 || (Nat.beq cv 7 || (Nat.beq cv 2 || (Nat.beq cv 4 || (Nat.beq cv 10 || Nat.beq cv 0))))))))))
          (go (pc + 1) lo st (w.set j (.inr (t, (n, (df, (x.toNatClampNeg, sv_R 0 v) :: ups))))) cl sl)
      | _, _ => none)
    | _ => none)
  | .invokespecial idx => (match sv_lk pc X.2.2.2.2 with
    | some (n, (mc, (ms, F))) => (match sv_tk n [] st with
      | some (as, rest) => (match F as w with
        | some w' => hw_jn (Nat.beq len 3 && (sv_sm rest && (Nat.ble (cl + mc) MC && Nat.ble (sl + ms) MS))) (go (pc + 3) lo rest w' (cl + mc) (sl + ms))
        | none => none)
      | none => none)
    | none => (match st with
      | .inr (.inr (some _)) :: rest => hw_jn (Nat.beq len 3 && (Nat.beq idx X.2.2.2.1 && (sv_sm rest && Nat.ble 1 idx))) (go (pc + 3) lo rest w cl sl)
      | _ => none))
  | .invokestatic _ => (match sv_lk pc X.2.2.2.2 with
    | some (n, (mc, (ms, F))) => (match sv_tk n [] st with
      | some (as, rest) => (match F as w with
        | some w' => hw_jn (Nat.beq len 3 && (sv_sm rest && (Nat.ble (cl + mc) MC && Nat.ble (sl + ms) MS))) (go (pc + 3) lo rest w' (cl + mc) (sl + ms))
        | none => none)
      | none => none)
    | none => none)
  | .return_ => hw_jn (Nat.beq len 1 && (Nat.ble cl MC && Nat.ble sl MS)) (match st with
    | [] => some w
    | _ => none)
  | _ => none
def hw_ca (pc : Nat) : hw_Cd → Option (Instr × (Nat × Nat))
  | [] => none
  | q :: l => bif Nat.beq pc q.1 then some q.2 else hw_ca pc l
def hw_ex (X : hw_T) (MC MS : Nat) (cd : hw_Cd) : Nat → hw_Go
  | 0, _, _, _, _, _, _ => none
  | n + 1, pc, lo, st, w, cl, sl => match hw_ca pc cd with
    | some (ins, (len, tg)) => hw_i X MC MS pc len tg lo st w cl sl (hw_ex X MC MS cd n) ins
    | none => none
def hw_tg (pc tg : Nat) : Instr → Bool
  | .goto o => decide ((pc : Int) + o = (tg : Int))
  | .if_icmp _ o => decide ((pc : Int) + o = (tg : Int))
  | _ => true
def hw_dk (cc : ByteArray) (q : Nat × (Instr × (Nat × Nat))) : Bool := match decode cc q.1 with
  | .ok (ins, len) => decide (ins = q.2.1) && (Nat.beq len q.2.2.1 && hw_tg q.1 q.2.2.2 ins)
  | _ => false
theorem hw_dk_spec {cc : ByteArray} {pc len tg : Nat} {ins : Instr} (h : hw_dk cc (pc, (ins, (len, tg))) = true) : decode cc pc = .ok (ins, len) ∧ hw_tg pc tg ins = true := by
  unfold hw_dk at h
  dsimp only at h
  split at h
  · rename_i i0 l0 hd
    simp only [Bool.and_eq_true, decide_eq_true_eq] at h
    obtain ⟨rfl, h1, h2⟩ := h
    have e := Nat.eq_of_beq_eq_true h1
    subst e
    exact ⟨hd, h2⟩
  · cases h
theorem hw_jn_t {b : Bool} {x : Option (List hw_E)} {y : List hw_E} (h : hw_jn b x = some y) : b = true ∧ x = some y := by
  unfold hw_jn at h
  cases b with
  | true => exact ⟨rfl, h⟩
  | false => cases h
def hw_z (ci k : Nat) : Value := if sv_ft ci k = 0 ∨ sv_ft ci k = 1 then .int 0 else .null
theorem hw_df_z {base ci k : Nat} (hk : k < sv_nf ci) : sv_c (hw_ad base) ((hw_df ci).getD k sv_N) = hw_z ci k := by
  unfold hw_df hw_z
  simp only [List.getD, List.getElem?_map, List.getElem?_range hk]
  show sv_c (hw_ad base) (if sv_ft ci k = 0 ∨ sv_ft ci k = 1 then .inl 0 else sv_N) = _
  split <;> rfl
def hw_Wt (p : Program) (l : Launch) (e : Env) (R : Room) (s : State) (m : MethodId) (args : Array Value) (below : List Frame) (meth : Method) (c : Code) (Q : State → Prop) (base : Nat) (dC : Nat → ClassId) (dI : Nat → Nat → Nat) (cA : Nat → ClassId) (nL : Nat) (pc : Nat) (lo : sv_Lo) (st : List sv_V) (w : List hw_E) (cl sl : Nat) : Prop :=
  ∀ (H : Heap) (locs : List Loc) (ls : Array Slot), HW base dC dI cA w H → va_S (fun q => base ≤ q) s.heap H locs → sv_lh (hw_ad base) ls nL lo → (∀ i v, sv_ga lo i = some v → sv_1 v) → W p l e R s m args below meth c H locs cl sl Q (F0 m pc ls (st.map (sv_c (hw_ad base))))
def hw_cok (p : Program) (l : Launch) (e : Env) (R : Room) (s : State) (m : MethodId) (args : Array Value) (below : List Frame) (meth : Method) (c : Code) (Q : State → Prop) (base : Nat) (dC : Nat → ClassId) (dI : Nat → Nat → Nat) (cA : Nat → ClassId) (nL MC MS : Nat) (pc n mc ms : Nat) (F : hw_F) : Prop :=
  ∀ (as rest : List sv_V) (lo : sv_Lo) (w w' : List hw_E) (cl sl : Nat), as.length = n → sv_sm rest = true → F as w = some w' → cl + mc ≤ MC → sl + ms ≤ MS → hw_Wt p l e R s m args below meth c Q base dC dI cA nL (pc + 3) lo rest w' (cl + mc) (sl + ms) → hw_Wt p l e R s m args below meth c Q base dC dI cA nL pc lo (as.reverse ++ rest) w cl sl
section HWI
variable {p : Program} {l : Launch} {e : Env} {R : Room} {s : State} {m : MethodId} {args : Array Value} {below : List Frame} {meth : Method} {c : Code} {Q : State → Prop}
variable {cc : ByteArray} {base : Nat} {dC : Nat → ClassId} {dI : Nat → Nat → Nat} {cA : Nat → ClassId} {own : String} {nL MC MS : Nat} {X : hw_T}
set_option maxHeartbeats 4000000 in
theorem hw_i_ok (hx : p.tables.exec = Jvm.exec) (hb : c.code = cc) (hml : c.maxLocals = nL) (hts : ∀ w ∈ gw_tbl, w.before args s = true) (hown : s.vm.findClass own = some m.cls) (hK : va_K (dC, dI) vwCl (sv_tys cA) s) (hck : ∀ ci q, vwCl[ci]? = some q → sv_ck ci q) (hR : MC ≤ R.cells ∧ MS ≤ R.slots ∧ 1 ≤ R.frames ∧ 20 ≤ R.locals)
    (hX1 : ∀ idx ci k i f, sv_lk idx X.1 = some (ci, (k, (i, f))) → ∃ q : vw_C, vwCl[ci]? = some q ∧ k < q.2.2 ∧ Cond.fieldLink own idx (q.2.1 k).1 (q.2.1 k).2.1 (q.2.1 k).2.2.1 ∈ gw_tbl ∧ (q.2.1 k).2.2.2 = f ∧ (f = true → (q.2.1 k).1 = own ∧ meth.name = "<init>") ∧ (i = true → parseFieldDescriptor (q.2.1 k).2.2.1 = some .int) ∧ (i = false → ∃ ty, parseFieldDescriptor (q.2.1 k).2.2.1 = some ty ∧ ∀ a, narrow ty (.ref a) = .ref a ∧ fits ty (.ref a) = true))
    (hX2 : ∀ idx ci, sv_lk idx X.2.1 = some ci → ∃ (q : vw_C) (tyf : Nat → FieldType), vwCl[ci]? = some q ∧ (∀ k, k < q.2.2 → parseFieldDescriptor (q.2.1 k).2.2.1 = some (tyf k)) ∧ (∀ k, k < q.2.2 → defaultValue (tyf k) = hw_z ci k) ∧ Cond.classLink own idx q.1 ∈ gw_tbl ∧ Cond.instantiable q.1 q.2.2 ∈ gw_tbl ∧ Cond.initialized q.1 ∈ gw_tbl)
    (hX3 : ∀ idx t C, sv_lk idx X.2.2.1 = some (t, C) → (sv_tys cA)[t]? = some (cA t, .object C) ∧ Cond.classLink own idx C ∈ gw_tbl ∧ C ∈ hw_over)
    (hX4 : ∀ idx, Nat.beq idx X.2.2.2.1 = true → 1 ≤ idx → Cond.methodLink own idx Lib.objectInit ∈ gw_tbl ∧ Cond.instanceMethod Lib.objectInit ∈ gw_tbl ∧ Cond.code Lib.objectInit ⟨#[0xb1]⟩ 1 none ∈ gw_tbl)
    (hX5 : ∀ pc n mc ms F, sv_lk pc X.2.2.2.2 = some (n, (mc, (ms, F))) → hw_cok p l e R s m args below meth c Q base dC dI cA nL MC MS pc n mc ms F)
    (hXa : Cond.arrayClass .int ∈ gw_tbl ∧ Cond.arrayClass .byte ∈ gw_tbl)
    (hXk : ∀ t cv : Nat, ((t = 2 ∧ cv = 1) ∨ (t = 5 ∧ cv = 6) ∨ (t = 4 ∧ (cv = 3 ∨ cv = 7 ∨ cv = 2 ∨ cv = 4 ∨ cv = 10 ∨ cv = 0))) → ∃ (C : String) (q : vw_C), (sv_tys cA)[t]? = some (cA t, .object C) ∧ vwCl[cv]? = some q ∧ ∀ comp c0, s.vm.findClass C = some comp → s.vm.findClass q.1 = some c0 → s.vm.assignable c0 comp = true)
    (hXo : ∀ C ∈ hw_over, va_AO C s)
    {res : List hw_E} (hret : ∀ pc lo cl sl, decode cc pc = .ok (.return_, 1) → cl ≤ MC → sl ≤ MS → hw_Wt p l e R s m args below meth c Q base dC dI cA nL pc lo [] res cl sl)
    {pc len tg : Nat} {ins : Instr} (hD : hw_dk cc (pc, (ins, (len, tg))) = true) {lo : sv_Lo} {st : List sv_V} {w : List hw_E} {cl sl : Nat} {go : hw_Go}
    (hgo : ∀ pc lo st w cl sl, go pc lo st w cl sl = some res → hw_Wt p l e R s m args below meth c Q base dC dI cA nL pc lo st w cl sl)
    (h : hw_i X MC MS pc len tg lo st w cl sl go ins = some res) : hw_Wt p l e R s m args below meth c Q base dC dI cA nL pc lo st w cl sl := by
  obtain ⟨hd, htg⟩ := hw_dk_spec hD
  cases ins
  case iconst v =>
    simp only [hw_i] at h
    replace h := hw_jn_t h
    obtain ⟨b1, h⟩ := h
    have e := Nat.eq_of_beq_eq_true b1
    subst e
    intro H locs ls hW hS hL h1
    exact lv_iconst hx hb hd rfl (hgo _ _ _ _ _ _ h H locs ls hW hS hL h1)
  case bipush v =>
    simp only [hw_i] at h
    replace h := hw_jn_t h
    obtain ⟨b1, h⟩ := h
    have e := Nat.eq_of_beq_eq_true b1
    subst e
    intro H locs ls hW hS hL h1
    exact lv_bipush hx hb hd rfl (hgo _ _ _ _ _ _ h H locs ls hW hS hL h1)
  case sipush v =>
    simp only [hw_i] at h
    replace h := hw_jn_t h
    obtain ⟨b1, h⟩ := h
    have e := Nat.eq_of_beq_eq_true b1
    subst e
    intro H locs ls hW hS hL h1
    exact lv_sipush hx hb hd rfl (hgo _ _ _ _ _ _ h H locs ls hW hS hL h1)
  case aload_n k =>
    simp only [hw_i] at h
    split at h
    · rename_i hn
      replace h := hw_jn_t h
      obtain ⟨b1, h⟩ := h
      have e := Nat.eq_of_beq_eq_true b1
      subst e
      intro H locs ls hW hS hL h1
      exact lv_aload_n hx hb hd rfl (hL.at hn) (hgo _ _ _ _ _ _ h H locs ls hW hS hL h1)
    · cases h
  case iload_n k =>
    simp only [hw_i] at h
    split at h
    · rename_i hn
      replace h := hw_jn_t h
      obtain ⟨b1, h⟩ := h
      have e := Nat.eq_of_beq_eq_true b1
      subst e
      intro H locs ls hW hS hL h1
      exact lv_iload_n hx hb hd rfl (hL.at hn) (hgo _ _ _ _ _ _ h H locs ls hW hS hL h1)
    · cases h
  case istore_n k =>
    simp only [hw_i] at h
    split at h
    · replace h := hw_jn_t h
      obtain ⟨b1, h⟩ := h
      simp only [Bool.and_eq_true] at b1
      have e := Nat.eq_of_beq_eq_true b1.1
      subst e
      have hk := Nat.le_of_ble_eq_true b1.2
      intro H locs ls hW hS hL h1
      have hk' : (k : Nat) < nL := by rw [← hL.1]; exact hk
      refine lv_istore_n hx hb hd rfl hL.2 hk' rfl (fun ls' hl' => ?_)
      have hL' := sv_lh.put (v := .inl _) hL.1 hk' h1 hl'
      refine hgo _ _ _ _ _ _ h H locs ls' hW hS hL' (fun i v hi => ?_)
      rw [sv_ga_se lo _ i _ hk] at hi
      split at hi
      · cases hi; trivial
      · exact h1 i v hi
    · cases h
  case astore_n k =>
    simp only [hw_i] at h
    split at h
    · replace h := hw_jn_t h
      obtain ⟨b1, h⟩ := h
      simp only [Bool.and_eq_true] at b1
      have e := Nat.eq_of_beq_eq_true b1.1
      subst e
      have hk := Nat.le_of_ble_eq_true b1.2
      intro H locs ls hW hS hL h1
      have hk' : (k : Nat) < nL := by rw [← hL.1]; exact hk
      refine lv_astore_n hx hb hd rfl hL.2 hk' rfl (fun ls' hl' => ?_)
      have hL' := sv_lh.put (v := sv_R _ _) hL.1 hk' h1 hl'
      refine hgo _ _ _ _ _ _ h H locs ls' hW hS hL' (fun i v hi => ?_)
      rw [sv_ga_se lo _ i _ hk] at hi
      split at hi
      · cases hi; trivial
      · exact h1 i v hi
    · cases h
  case iinc k d =>
    simp only [hw_i] at h
    split at h
    · rename_i n hn
      replace h := hw_jn_t h
      obtain ⟨b1, h⟩ := h
      have e := Nat.eq_of_beq_eq_true b1
      subst e
      intro H locs ls hW hS hL h1
      have hk : k < nL := by rw [← hL.1]; exact sv_ga_lt _ _ _ hn
      obtain ⟨kk, hkk⟩ := List.getElem?_of_mem (sv_ll_in (ad := hw_ad base) lo 0 k _ hn)
      rw [Nat.zero_add] at hkk
      refine lv_iinc hx hb hd hL.2 hkk rfl hk rfl (fun ls' hl' => ?_)
      have hL' := sv_lh.put (v := .inl _) hL.1 hk h1 hl'
      refine hgo _ _ _ _ _ _ h H locs ls' hW hS hL' (fun i v hi => ?_)
      rw [sv_ga_se lo _ i _ (by rw [hL.1]; exact hk)] at hi
      split at hi
      · cases hi; trivial
      · exact h1 i v hi
    · cases h
  case dup =>
    simp only [hw_i] at h
    split at h
    · replace h := hw_jn_t h
      obtain ⟨b1, h⟩ := h
      have e := Nat.eq_of_beq_eq_true b1
      subst e
      intro H locs ls hW hS hL h1
      exact lv_dup hx hb hd rfl (hgo _ _ _ _ _ _ h H locs ls hW hS hL h1)
    · cases h
  case goto o =>
    simp only [hw_i] at h
    simp only [hw_tg, decide_eq_true_eq] at htg
    replace h := hw_jn_t h
    obtain ⟨b1, h⟩ := h
    have e := Nat.eq_of_beq_eq_true b1
    subst e
    intro H locs ls hW hS hL h1
    exact lv_goto hx hb hd htg (hgo _ _ _ _ _ _ h H locs ls hW hS hL h1)
  case if_icmp cnd o =>
    simp only [hw_tg, decide_eq_true_eq] at htg
    cases cnd
    case ge =>
      simp only [hw_i] at h
      split at h
      · rename_i y x st
        replace h := hw_jn_t h
        obtain ⟨b1, h⟩ := h
        have e := Nat.eq_of_beq_eq_true b1
        subst e
        intro H locs ls hW hS hL h1
        by_cases hc : y ≤ x
        · rw [decide_eq_true hc] at h
          exact lv_icmp_ge hx hb hd htg (fun _ => hgo _ _ _ _ _ _ h H locs ls hW hS hL h1) (fun q => absurd hc q)
        · rw [decide_eq_false hc] at h
          exact lv_icmp_ge hx hb hd htg (fun q => absurd q hc) (fun _ => hgo _ _ _ _ _ _ h H locs ls hW hS hL h1)
      · cases h
    all_goals (simp only [hw_i] at h; cases h)
  case new idx =>
    simp only [hw_i] at h
    split at h
    · rename_i ci hci
      replace h := hw_jn_t h
      obtain ⟨b1, h⟩ := h
      simp only [Bool.and_eq_true] at b1
      have e := Nat.eq_of_beq_eq_true b1.1
      subst e
      have hc1 := Nat.le_of_ble_eq_true b1.2.1
      have hc2 := Nat.le_of_ble_eq_true b1.2.2
      obtain ⟨q, tyf, x1, x2, x3, x4, x5, x6⟩ := hX2 idx ci hci
      have hck' := hck ci q x1
      intro H locs ls hW hS hL h1
      refine hw_new hx hb hts hown hK hW hS x1 hck' x2 (fs := hw_df ci) (fun k hk => by rw [x3 k hk, hw_df_z (by rw [← hck'.1]; exact hk)]) x4 x5 x6 (by have := hR.1; omega) (by rw [hck'.1]; have := hR.2.1; omega) hd (fun H1 g1 g2 => ?_)
      rw [hck'.1]
      exact hgo _ _ _ _ _ _ h H1 locs ls g1 g2 hL h1
    · cases h
  case newarray at' =>
    cases at'
    case int =>
      simp only [hw_i] at h
      split at h
      · rename_i n st
        replace h := hw_jn_t h
        obtain ⟨b1, h⟩ := h
        simp only [Bool.and_eq_true, Bool.not_eq_true', decide_eq_false_iff_not] at b1
        have e := Nat.eq_of_beq_eq_true b1.1
        subst e
        have hc0 := Nat.le_of_ble_eq_true b1.2.2.1
        have hc1 := Nat.le_of_ble_eq_true b1.2.2.2.1
        have hc2 := Nat.le_of_ble_eq_true b1.2.2.2.2
        intro H locs ls hW hS hL h1
        exact hw_newa (t := 0) hx hb hts hW hS (show s.vm.findClass ("[" ++ (newarray.typeOf ArrayType.int).toString) = some (cA 0) from (hK.2 0 _ rfl).2) rfl (by decide) hXa.1 b1.2.1 rfl hc0 (by have := hR.1; omega) (by have := hR.2.1; omega) hd (fun H1 g1 g2 => hgo _ _ _ _ _ _ h H1 locs ls g1 g2 hL h1)
      · cases h
    case byte =>
      simp only [hw_i] at h
      split at h
      · rename_i n st
        replace h := hw_jn_t h
        obtain ⟨b1, h⟩ := h
        simp only [Bool.and_eq_true, Bool.not_eq_true', decide_eq_false_iff_not] at b1
        have e := Nat.eq_of_beq_eq_true b1.1
        subst e
        have hc0 := Nat.le_of_ble_eq_true b1.2.2.1
        have hc1 := Nat.le_of_ble_eq_true b1.2.2.2.1
        have hc2 := Nat.le_of_ble_eq_true b1.2.2.2.2
        intro H locs ls hW hS hL h1
        exact hw_newa (t := 1) hx hb hts hW hS (show s.vm.findClass ("[" ++ (newarray.typeOf ArrayType.byte).toString) = some (cA 1) from (hK.2 1 _ rfl).2) rfl (by decide) hXa.2 b1.2.1 rfl hc0 (by have := hR.1; omega) (by have := hR.2.1; omega) hd (fun H1 g1 g2 => hgo _ _ _ _ _ _ h H1 locs ls g1 g2 hL h1)
      · cases h
    all_goals (simp only [hw_i] at h; cases h)
  case anewarray idx =>
    simp only [hw_i] at h
    split at h
    · rename_i n st t C hX
      replace h := hw_jn_t h
      obtain ⟨b1, h⟩ := h
      simp only [Bool.and_eq_true, Bool.not_eq_true', decide_eq_false_iff_not] at b1
      have e := Nat.eq_of_beq_eq_true b1.1
      subst e
      have hc0 := Nat.le_of_ble_eq_true b1.2.2.1
      have hc1 := Nat.le_of_ble_eq_true b1.2.2.2.1
      have hc2 := Nat.le_of_ble_eq_true b1.2.2.2.2
      obtain ⟨x1, x2, x3⟩ := hX3 idx t C hX
      intro H locs ls hW hS hL h1
      exact hw_anew hx hb hts hown hK hW hS x1 x2 (hXo C x3) b1.2.1 rfl hc0 (by have := hR.1; omega) (by have := hR.2.1; omega) hd (fun H1 g1 g2 => hgo _ _ _ _ _ _ h H1 locs ls g1 g2 hL h1)
    · cases h
  case getfield idx =>
    simp only [hw_i] at h
    split at h
    · rename_i j st ci k _ hX
      split at h
      · rename_i ci' fs hj
        replace h := hw_jn_t h
        obtain ⟨b1, h⟩ := h
        simp only [Bool.and_eq_true] at b1
        have e := Nat.eq_of_beq_eq_true b1.1
        subst e
        have e2 := Nat.eq_of_beq_eq_true b1.2
        subst e2
        obtain ⟨q, x1, x2, x3, -⟩ := hX1 idx _ k _ _ hX
        intro H locs ls hW hS hL h1
        exact hw_get hx hb hts hown hK hW hj x1 (hck _ _ x1) x2 x3 hd (hgo _ _ _ _ _ _ h H locs ls hW hS hL h1)
      · cases h
    · cases h
  case putfield idx =>
    simp only [hw_i] at h
    split at h
    · rename_i n _ j st ci k f hX
      split at h
      · rename_i ci' fs hj
        replace h := hw_jn_t h
        obtain ⟨b1, h⟩ := h
        simp only [Bool.and_eq_true] at b1
        have e := Nat.eq_of_beq_eq_true b1.1
        subst e
        have e2 := Nat.eq_of_beq_eq_true b1.2.1
        subst e2
        have hkl := Nat.le_of_ble_eq_true b1.2.2
        obtain ⟨q, x1, x2, x3, x4, x5, x6, -⟩ := hX1 idx _ k _ _ hX
        intro H locs ls hW hS hL h1
        cases f with
        | true => exact hw_putF hx hb hts hown hK hW hS hj hkl x1 (hck _ _ x1) x2 x3 x4 (x5 rfl).2 (x5 rfl).1 (x6 rfl) (v := .inl n) rfl rfl hd (fun H1 locs1 g1 g2 => hgo _ _ _ _ _ _ h H1 locs1 ls g1 g2 hL h1)
        | false => exact hw_put hx hb hts hown hK hW hS hj hkl x1 (hck _ _ x1) x2 x3 x4 (x6 rfl) (v := .inl n) rfl rfl hd (fun H1 locs1 g1 g2 => hgo _ _ _ _ _ _ h H1 locs1 ls g1 g2 hL h1)
      · cases h
    · rename_i _ v _ j st ci k f hX
      split at h
      · rename_i ci' fs hj
        replace h := hw_jn_t h
        obtain ⟨b1, h⟩ := h
        simp only [Bool.and_eq_true] at b1
        have e := Nat.eq_of_beq_eq_true b1.1
        subst e
        have e2 := Nat.eq_of_beq_eq_true b1.2.1
        subst e2
        have hkl := Nat.le_of_ble_eq_true b1.2.2
        obtain ⟨q, x1, x2, x3, x4, x5, -, x7⟩ := hX1 idx _ k _ _ hX
        obtain ⟨ty, y1, y2⟩ := x7 rfl
        intro H locs ls hW hS hL h1
        cases f with
        | true => exact hw_putF hx hb hts hown hK hW hS hj hkl x1 (hck _ _ x1) x2 x3 x4 (x5 rfl).2 (x5 rfl).1 y1 (v := sv_R 0 v) (y2 _).1 (y2 _).2 hd (fun H1 locs1 g1 g2 => hgo _ _ _ _ _ _ h H1 locs1 ls g1 g2 hL h1)
        | false => exact hw_put hx hb hts hown hK hW hS hj hkl x1 (hck _ _ x1) x2 x3 x4 y1 (v := sv_R 0 v) (y2 _).1 (y2 _).2 hd (fun H1 locs1 g1 g2 => hgo _ _ _ _ _ _ h H1 locs1 ls g1 g2 hL h1)
      · cases h
    · cases h
  case arraylength =>
    simp only [hw_i] at h
    split at h
    · rename_i j st
      split at h
      · rename_i n df ups hj
        replace h := hw_jn_t h
        obtain ⟨b1, h⟩ := h
        have e := Nat.eq_of_beq_eq_true b1
        subst e
        intro H locs ls hW hS hL h1
        exact W.alen hx hb (hw_ar hW hj) ((hK.2 0 _ rfl).1 _ _) (by rw [arrV_size]; rfl) rfl rfl hd (hgo _ _ _ _ _ _ h H locs ls hW hS hL h1)
      · cases h
    · cases h
  case iastore =>
    simp only [hw_i] at h
    split at h
    · rename_i y x j st
      split at h
      · rename_i n df ups hj
        replace h := hw_jn_t h
        obtain ⟨b1, h⟩ := h
        simp only [Bool.and_eq_true, decide_eq_true_eq] at b1
        have e := Nat.eq_of_beq_eq_true b1.1
        subst e
        intro H locs ls hW hS hL h1
        exact hw_iast hx hb hK hW hS hj b1.2 hd (fun H1 locs1 g1 g2 => hgo _ _ _ _ _ _ h H1 locs1 ls g1 g2 hL h1)
      · cases h
    · cases h
  case aastore =>
    simp only [hw_i] at h
    split at h
    · rename_i v x j st
      split at h
      · rename_i t n df ups cv fs hj hv
        replace h := hw_jn_t h
        obtain ⟨b1, h⟩ := h
        simp only [Bool.and_eq_true, Bool.or_eq_true, decide_eq_true_eq] at b1
        have e := Nat.eq_of_beq_eq_true b1.1
        subst e
        obtain ⟨C, q, y1, y2, y3⟩ := hXk t cv (by
          rcases b1.2.2 with g | g | g
          · exact Or.inl ⟨Nat.eq_of_beq_eq_true g.1, Nat.eq_of_beq_eq_true g.2⟩
          · exact Or.inr (Or.inl ⟨Nat.eq_of_beq_eq_true g.1, Nat.eq_of_beq_eq_true g.2⟩)
          · refine Or.inr (Or.inr ⟨Nat.eq_of_beq_eq_true g.1, ?_⟩)
            rcases g.2 with g | g | g | g | g | g <;> have g := Nat.eq_of_beq_eq_true g <;> omega)
        intro H locs ls hW hS hL h1
        exact hw_aast hx hb hK hW hS hj y1 hv y2 y3 b1.2.1 hd (fun H1 locs1 g1 g2 => hgo _ _ _ _ _ _ h H1 locs1 ls g1 g2 hL h1)
      · cases h
    · cases h
  case invokespecial idx =>
    simp only [hw_i] at h
    split at h
    · rename_i n mc ms F hX
      split at h
      · rename_i as rest htk
        split at h
        · rename_i w' hF
          replace h := hw_jn_t h
          obtain ⟨b1, h⟩ := h
          simp only [Bool.and_eq_true] at b1
          have e := Nat.eq_of_beq_eq_true b1.1
          subst e
          obtain ⟨bs, t1, t2, t3⟩ := sv_tk_spec n [] st as rest htk
          rw [List.append_nil] at t3
          have t4 : st = as.reverse ++ rest := by rw [t3, List.reverse_reverse]; exact t2
          rw [t4]
          exact hX5 pc n mc ms F hX as rest lo w w' cl sl (by rw [t3, List.length_reverse]; exact t1) b1.2.1 hF (Nat.le_of_ble_eq_true b1.2.2.1) (Nat.le_of_ble_eq_true b1.2.2.2) (hgo _ _ _ _ _ _ h)
        · cases h
      · cases h
    · split at h
      · rename_i a rest
        replace h := hw_jn_t h
        obtain ⟨b1, h⟩ := h
        simp only [Bool.and_eq_true] at b1
        have e := Nat.eq_of_beq_eq_true b1.1
        subst e
        obtain ⟨x1, x2, x3⟩ := hX4 idx b1.2.1 (Nat.le_of_ble_eq_true b1.2.2.2)
        intro H locs ls hW hS hL h1
        refine W.objInit hx hb hown (hts _ x1) (hts _ x2) (hts _ x3) rfl (by rw [hml]; exact hL.2.1) rfl hd hR.2.2.1 ?_ ?_
        · have := sv_sm8 (ad := hw_ad base) b1.2.2.1
          show 2 * 0 + _ + 12 ≤ R.locals
          have := hR.2.2.2
          omega
        · exact hgo _ _ _ _ _ _ h H locs ls hW hS hL h1
      · cases h
  case invokestatic idx =>
    simp only [hw_i] at h
    split at h
    · rename_i n mc ms F hX
      split at h
      · rename_i as rest htk
        split at h
        · rename_i w' hF
          replace h := hw_jn_t h
          obtain ⟨b1, h⟩ := h
          simp only [Bool.and_eq_true] at b1
          have e := Nat.eq_of_beq_eq_true b1.1
          subst e
          obtain ⟨bs, t1, t2, t3⟩ := sv_tk_spec n [] st as rest htk
          rw [List.append_nil] at t3
          have t4 : st = as.reverse ++ rest := by rw [t3, List.reverse_reverse]; exact t2
          rw [t4]
          exact hX5 pc n mc ms F hX as rest lo w w' cl sl (by rw [t3, List.length_reverse]; exact t1) b1.2.1 hF (Nat.le_of_ble_eq_true b1.2.2.1) (Nat.le_of_ble_eq_true b1.2.2.2) (hgo _ _ _ _ _ _ h)
        · cases h
      · cases h
    · cases h
  case return_ =>
    simp only [hw_i] at h
    replace h := hw_jn_t h
    obtain ⟨b1, h⟩ := h
    simp only [Bool.and_eq_true] at b1
    have e := Nat.eq_of_beq_eq_true b1.1
    subst e
    split at h
    · cases h
      exact hret pc lo cl sl hd (Nat.le_of_ble_eq_true b1.2.1) (Nat.le_of_ble_eq_true b1.2.2)
    · cases h
  all_goals (simp only [hw_i] at h; cases h)
end HWI
def hw_ok (p : Program) (l : Launch) (e : Env) (R : Room) (s : State) (m : MethodId) (args : Array Value) (below : List Frame) (meth : Method) (c : Code) (Q : State → Prop) (base : Nat) (dC : Nat → ClassId) (dI : Nat → Nat → Nat) (cA : Nat → ClassId) (own : String) (nL MC MS : Nat) (X : hw_T) : Prop :=
    (∀ idx ci k i f, sv_lk idx X.1 = some (ci, (k, (i, f))) → ∃ q : vw_C, vwCl[ci]? = some q ∧ k < q.2.2 ∧ Cond.fieldLink own idx (q.2.1 k).1 (q.2.1 k).2.1 (q.2.1 k).2.2.1 ∈ gw_tbl ∧ (q.2.1 k).2.2.2 = f ∧ (f = true → (q.2.1 k).1 = own ∧ meth.name = "<init>") ∧ (i = true → parseFieldDescriptor (q.2.1 k).2.2.1 = some .int) ∧ (i = false → ∃ ty, parseFieldDescriptor (q.2.1 k).2.2.1 = some ty ∧ ∀ a, narrow ty (.ref a) = .ref a ∧ fits ty (.ref a) = true)) ∧
    (∀ idx ci, sv_lk idx X.2.1 = some ci → ∃ (q : vw_C) (tyf : Nat → FieldType), vwCl[ci]? = some q ∧ (∀ k, k < q.2.2 → parseFieldDescriptor (q.2.1 k).2.2.1 = some (tyf k)) ∧ (∀ k, k < q.2.2 → defaultValue (tyf k) = hw_z ci k) ∧ Cond.classLink own idx q.1 ∈ gw_tbl ∧ Cond.instantiable q.1 q.2.2 ∈ gw_tbl ∧ Cond.initialized q.1 ∈ gw_tbl) ∧
    (∀ idx t C, sv_lk idx X.2.2.1 = some (t, C) → (sv_tys cA)[t]? = some (cA t, .object C) ∧ Cond.classLink own idx C ∈ gw_tbl ∧ C ∈ hw_over) ∧
    (∀ idx, Nat.beq idx X.2.2.2.1 = true → 1 ≤ idx → Cond.methodLink own idx Lib.objectInit ∈ gw_tbl ∧ Cond.instanceMethod Lib.objectInit ∈ gw_tbl ∧ Cond.code Lib.objectInit ⟨#[0xb1]⟩ 1 none ∈ gw_tbl) ∧
    (∀ pc n mc ms F, sv_lk pc X.2.2.2.2 = some (n, (mc, (ms, F))) → hw_cok p l e R s m args below meth c Q base dC dI cA nL MC MS pc n mc ms F)
def hw_fact (s : State) (cA : Nat → ClassId) : Prop := (Cond.arrayClass .int ∈ gw_tbl ∧ Cond.arrayClass .byte ∈ gw_tbl) ∧ (∀ C ∈ hw_over, va_AO C s) ∧ ∀ t cv : Nat, ((t = 2 ∧ cv = 1) ∨ (t = 5 ∧ cv = 6) ∨ (t = 4 ∧ (cv = 3 ∨ cv = 7 ∨ cv = 2 ∨ cv = 4 ∨ cv = 10 ∨ cv = 0))) → ∃ (C : String) (q : vw_C), (sv_tys cA)[t]? = some (cA t, .object C) ∧ vwCl[cv]? = some q ∧ ∀ comp c0, s.vm.findClass C = some comp → s.vm.findClass q.1 = some c0 → s.vm.assignable c0 comp = true
theorem hw_ca_mem {cc : ByteArray} : ∀ (cd : hw_Cd) (pc : Nat) (x : Instr × (Nat × Nat)), hw_ca pc cd = some x → (pc, x) ∈ cd
  | [], pc, x, h => by cases h
  | q :: l, pc, x, h => by
    simp only [hw_ca] at h
    cases hb : Nat.beq pc q.1 with
    | true =>
      rw [hb] at h
      simp only [cond_true, Option.some.injEq] at h
      have e := Nat.eq_of_beq_eq_true hb
      subst e
      subst h
      exact List.mem_cons_self
    | false =>
      rw [hb] at h
      exact List.mem_cons_of_mem _ (hw_ca_mem (cc := cc) l pc x h)
section HWE
variable {p : Program} {l : Launch} {e : Env} {R : Room} {s : State} {m : MethodId} {args : Array Value} {below : List Frame} {meth : Method} {c : Code} {Q : State → Prop}
variable {cc : ByteArray} {base : Nat} {dC : Nat → ClassId} {dI : Nat → Nat → Nat} {cA : Nat → ClassId} {own : String} {nL MC MS : Nat} {X : hw_T}
theorem hw_ex_ok (hx : p.tables.exec = Jvm.exec) (hb : c.code = cc) (hml : c.maxLocals = nL) (hts : ∀ w ∈ gw_tbl, w.before args s = true) (hown : s.vm.findClass own = some m.cls) (hK : va_K (dC, dI) vwCl (sv_tys cA) s) (hck : ∀ ci q, vwCl[ci]? = some q → sv_ck ci q) (hR : MC ≤ R.cells ∧ MS ≤ R.slots ∧ 1 ≤ R.frames ∧ 20 ≤ R.locals) (hX : hw_ok p l e R s m args below meth c Q base dC dI cA own nL MC MS X) (hf : hw_fact s cA)
    {res : List hw_E} (hret : ∀ pc lo cl sl, decode cc pc = .ok (.return_, 1) → cl ≤ MC → sl ≤ MS → hw_Wt p l e R s m args below meth c Q base dC dI cA nL pc lo [] res cl sl) {cd : hw_Cd} (hD : cd.all (hw_dk cc) = true) :
    ∀ (n pc : Nat) (lo : sv_Lo) (st : List sv_V) (w : List hw_E) (cl sl : Nat), hw_ex X MC MS cd n pc lo st w cl sl = some res → hw_Wt p l e R s m args below meth c Q base dC dI cA nL pc lo st w cl sl := by
  intro n
  induction n with
  | zero => intro pc lo st w cl sl h; cases h
  | succ n ih =>
    intro pc lo st w cl sl h
    simp only [hw_ex] at h
    split at h
    · rename_i ins len tg hw
      have hd := List.all_eq_true.mp hD _ (hw_ca_mem (cc := cc) cd pc _ hw)
      exact hw_i_ok hx hb hml hts hown hK hck hR hX.1 hX.2.1 hX.2.2.1 hX.2.2.2.1 hX.2.2.2.2 hf.1 hf.2.2 hf.2.1 hret hd ih h
    · cases h
end HWE
