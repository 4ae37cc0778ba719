/-! ===== the machine of constructors, and that it is right ===== -/
abbrev hw_F : Type := List sv_V → List hw_E → Option (List hw_E)
/-- fields: their link's number, class, slot, whether an int, whether final; new; rows of objects; Object's constructor; calls by their pc: how many values they take, how many cells and slots they make -/
abbrev hw_T : Type := List (Nat × (Nat × (Nat × (Bool × Bool)))) × (List (Nat × Nat) × (List (Nat × (Nat × String)) × (Nat × List (Nat × (Nat × (Nat × (Nat × hw_F)))))))
abbrev hw_Cd : Type := List (Nat × (Instr × (Nat × Nat)))
abbrev hw_Go : Type := Nat → sv_Lo → List sv_V → List hw_E → Nat → Nat → Option (List hw_E)
def hw_df (ci : Nat) : List sv_V := (List.range (sv_nf ci)).map (fun k => if sv_ft ci k = 0 ∨ sv_ft ci k = 1 then .inl 0 else sv_N)
def hw_jn (b : Bool) (x : Option (List hw_E)) : Option (List hw_E) := bif b then x else none
def hw_cst (n : Int32) (pc : Nat) (lo : sv_Lo) (st : List sv_V) (w : List hw_E) (cl sl : Nat) (go : hw_Go) : Option (List hw_E) := go pc lo (.inl n :: st) w cl sl
def hw_i (X : hw_T) (MC MS : Nat) (pc len tg : Nat) (lo : sv_Lo) (st : List sv_V) (w : List hw_E) (cl sl : Nat) (go : hw_Go) : Instr → Option (List hw_E)
  | .iconst n => hw_jn (Nat.beq len 1) (go (pc + 1) lo (.inl (Int32.ofInt n) :: st) w cl sl)
  | .bipush n => hw_jn (Nat.beq len 2) (go (pc + 2) lo (.inl (Int8.ofInt n).toInt32 :: st) w cl sl)
  | .sipush n => hw_jn (Nat.beq len 3) (go (pc + 3) lo (.inl (Int16.ofInt n).toInt32 :: st) w cl sl)
  | .aload_n k => (match sv_ga lo k with
    | some (.inr (.inr (some (r, j)))) => hw_jn (Nat.beq len 1) (go (pc + 1) lo (sv_R r j :: st) w cl sl)
    | _ => none)
  | .iload_n k => (match sv_ga lo k with
    | some (.inl n) => hw_jn (Nat.beq len 1) (go (pc + 1) lo (.inl n :: st) w cl sl)
    | _ => none)
  | .istore_n k => (match st with
    | .inl n :: st => hw_jn (Nat.beq len 1 && Nat.ble (k + 1) lo.length) (go (pc + 1) (sv_se lo k (.inl n)) st w cl sl)
    | _ => none)
  | .astore_n k => (match st with
    | .inr (.inr (some (r, j))) :: st => hw_jn (Nat.beq len 1 && Nat.ble (k + 1) lo.length) (go (pc + 1) (sv_se lo k (sv_R r j)) st w cl sl)
    | _ => none)
  | .iinc k d => (match sv_ga lo k with
    | some (.inl n) => hw_jn (Nat.beq len 3) (go (pc + 3) (sv_se lo k (.inl (n + Int32.ofInt d))) st w cl sl)
    | _ => none)
  | .dup => (match st with
    | .inr (.inr (some (r, j))) :: st => hw_jn (Nat.beq len 1) (go (pc + 1) lo (sv_R r j :: sv_R r j :: st) w cl sl)
    | _ => none)
  | .goto _ => hw_jn (Nat.beq len 3) (go tg lo st w cl sl)
  | .if_icmp .ge _ => (match st with
    | .inl y :: .inl x :: st => hw_jn (Nat.beq len 3) (bif decide (y ≤ x) then go tg lo st w cl sl else go (pc + 3) lo st w cl sl)
    | _ => none)
  | .new idx => (match sv_lk idx X.2.1 with
    | some ci => hw_jn (Nat.beq len 3 && (Nat.ble (cl + 1) MC && Nat.ble (sl + sv_nf ci) MS)) (go (pc + 3) lo (sv_R 0 w.length :: st) (w ++ [.inl (ci, hw_df ci)]) (cl + 1) (sl + sv_nf ci))
    | _ => none)
  | .newarray .int => (match st with
    | .inl n :: st => hw_jn (Nat.beq len 2 && (!(decide (n < 0)) && (Nat.ble n.toNatClampNeg 10000 && (Nat.ble (cl + 1) MC && Nat.ble (sl + n.toNatClampNeg) MS)))) (go (pc + 2) lo (sv_R 0 w.length :: st) (w ++ [.inr (0, (n.toNatClampNeg, (.inl 0, [])))]) (cl + 1) (sl + n.toNatClampNeg))
    | _ => none)
  | .newarray .byte => (match st with
    | .inl n :: st => hw_jn (Nat.beq len 2 && (!(decide (n < 0)) && (Nat.ble n.toNatClampNeg 10000 && (Nat.ble (cl + 1) MC && Nat.ble (sl + n.toNatClampNeg) MS)))) (go (pc + 2) lo (sv_R 0 w.length :: st) (w ++ [.inr (1, (n.toNatClampNeg, (.inl 0, [])))]) (cl + 1) (sl + n.toNatClampNeg))
    | _ => none)
  | .anewarray idx => (match st, sv_lk idx X.2.2.1 with
    | .inl n :: st, some (t, _) => hw_jn (Nat.beq len 3 && (!(decide (n < 0)) && (Nat.ble n.toNatClampNeg 10000 && (Nat.ble (cl + 1) MC && Nat.ble (sl + n.toNatClampNeg) MS)))) (go (pc + 3) lo (sv_R 0 w.length :: st) (w ++ [.inr (t, (n.toNatClampNeg, (sv_N, [])))]) (cl + 1) (sl + n.toNatClampNeg))
    | _, _ => none)
  | .getfield idx => (match st, sv_lk idx X.1 with
    | .inr (.inr (some (_, j))) :: st, some (ci, (k, _)) => (match w[j]? with
      | some (.inl (ci', fs)) => hw_jn (Nat.beq len 3 && Nat.beq ci ci') (go (pc + 3) lo (fs.getD k sv_N :: st) w cl sl)
      | _ => none)
    | _, _ => none)
  | .putfield idx => (match st, sv_lk idx X.1 with
    | .inl n :: .inr (.inr (some (_, j))) :: st, some (ci, (k, (true, _))) => (match w[j]? with
      | some (.inl (ci', fs)) => hw_jn (Nat.beq len 3 && (Nat.beq ci ci' && Nat.ble (k + 1) fs.length)) (go (pc + 3) lo st (w.set j (.inl (ci, fs.set k (.inl n)))) cl sl)
      | _ => none)
    | .inr (.inr (some (_, v))) :: .inr (.inr (some (_, j))) :: st, some (ci, (k, (false, _))) => (match w[j]? with
      | some (.inl (ci', fs)) => hw_jn (Nat.beq len 3 && (Nat.beq ci ci' && Nat.ble (k + 1) fs.length)) (go (pc + 3) lo st (w.set j (.inl (ci, fs.set k (sv_R 0 v)))) cl sl)
      | _ => none)
    | _, _ => none)
  | .iastore => (match st with
    | .inl y :: .inl x :: .inr (.inr (some (_, j))) :: st => (match w[j]? with
      | some (.inr (0, (n, (df, ups)))) => hw_jn (Nat.beq len 1 && decide (sv_in x n)) (go (pc + 1) lo st (w.set j (.inr (0, (n, (df, (x.toNatClampNeg, .inl y) :: ups))))) cl sl)
      | _ => none)
    | _ => none)
  | .aastore => (match st with
    | .inr (.inr (some (_, v))) :: .inl x :: .inr (.inr (some (_, j))) :: st => (match w[j]?, w[v]? with
      | some (.inr (t, (n, (df, ups)))), some (.inl (cv, _)) => hw_jn (Nat.beq len 1 && (decide (sv_in x n) && ((Nat.beq t 2 && Nat.beq cv 1) || ((Nat.beq t 5 && Nat.beq cv 6) || (Nat.beq t 4 && (Nat.beq cv 3 || (Nat.beq cv 7 || (Nat.beq cv 2 || (Nat.beq cv 4 || (Nat.beq cv 10 || Nat.beq cv 0))))))))))
          (go (pc + 1) lo st (w.set j (.inr (t, (n, (df, (x.toNatClampNeg, sv_R 0 v) :: ups))))) cl sl)
      | _, _ => none)
    | _ => none)
  | .invokespecial idx => (match sv_lk pc X.2.2.2.2 with
    | some (n, (mc, (ms, F))) => (match sv_tk n [] st with
      | some (as, rest) => (match F as w with
        | some w' => hw_jn (Nat.beq len 3 && (sv_sm rest && (Nat.ble (cl + mc) MC && Nat.ble (sl + ms) MS))) (go (pc + 3) lo rest w' (cl + mc) (sl + ms))
        | none => none)
      | none => none)
    | none => (match st with
      | .inr (.inr (some _)) :: rest => hw_jn (Nat.beq len 3 && (Nat.beq idx X.2.2.2.1 && sv_sm rest)) (go (pc + 3) lo rest w cl sl)
      | _ => none))
  | .invokestatic _ => (match sv_lk pc X.2.2.2.2 with
    | some (n, (mc, (ms, F))) => (match sv_tk n [] st with
      | some (as, rest) => (match F as w with
        | some w' => hw_jn (Nat.beq len 3 && (sv_sm rest && (Nat.ble (cl + mc) MC && Nat.ble (sl + ms) MS))) (go (pc + 3) lo rest w' (cl + mc) (sl + ms))
        | none => none)
      | none => none)
    | none => none)
  | .return_ => hw_jn (Nat.beq len 1 && (Nat.ble cl MC && Nat.ble sl MS)) (match st with
    | [] => some w
    | _ => none)
  | _ => none
def hw_ca (pc : Nat) : hw_Cd → Option (Instr × (Nat × Nat))
  | [] => none
  | q :: l => bif Nat.beq pc q.1 then some q.2 else hw_ca pc l
def hw_ex (X : hw_T) (MC MS : Nat) (cd : hw_Cd) : Nat → hw_Go
  | 0, _, _, _, _, _, _ => none
  | n + 1, pc, lo, st, w, cl, sl => match hw_ca pc cd with
    | some (ins, (len, tg)) => hw_i X MC MS pc len tg lo st w cl sl (hw_ex X MC MS cd n) ins
    | none => none
def hw_tg (pc tg : Nat) : Instr → Bool
  | .goto o => decide ((pc : Int) + o = (tg : Int))
  | .if_icmp _ o => decide ((pc : Int) + o = (tg : Int))
  | _ => true
def hw_dk (cc : ByteArray) (q : Nat × (Instr × (Nat × Nat))) : Bool := match decode cc q.1 with
  | .ok (ins, len) => decide (ins = q.2.1) && (Nat.beq len q.2.2.1 && hw_tg q.1 q.2.2.2 ins)
  | _ => false
theorem hw_dk_spec {cc : ByteArray} {pc len tg : Nat} {ins : Instr} (h : hw_dk cc (pc, (ins, (len, tg))) = true) : decode cc pc = .ok (ins, len) ∧ hw_tg pc tg ins = true := by
  unfold hw_dk at h
  dsimp only at h
  split at h
  · rename_i i0 l0 hd
    simp only [Bool.and_eq_true, decide_eq_true_eq] at h
    obtain ⟨rfl, h1, h2⟩ := h
    have e := Nat.eq_of_beq_eq_true h1
    subst e
    exact ⟨hd, h2⟩
  · cases h
theorem hw_jn_t {b : Bool} {x : Option (List hw_E)} {y : List hw_E} (h : hw_jn b x = some y) : b = true ∧ x = some y := by
  unfold hw_jn at h
  cases b with
  | true => exact ⟨rfl, h⟩
  | false => cases h
