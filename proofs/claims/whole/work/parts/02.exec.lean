/-! ===== an interpreter over abstract cells: a cell is (role, number); all that changes are ints; references are fixed by the layout (but texts) ===== -/
abbrev sv_V : Type := Int32 ⊕ (Int64 ⊕ Option (Nat × Nat))
abbrev sv_S : Type := Nat → Nat → Nat → Int32
abbrev sv_I (n : Int32) : sv_V := .inl n
abbrev sv_L (n : Int64) : sv_V := .inr (.inl n)
abbrev sv_N : sv_V := .inr (.inr none)
abbrev sv_R (r i : Nat) : sv_V := .inr (.inr (some (r, i)))
def sv_up (σ : sv_S) (r i k : Nat) (n : Int32) : sv_S := fun r' i' k' => if r' = r ∧ i' = i ∧ k' = k then n else σ r' i' k'
def sv_c (ad : Nat → Nat → Nat) : sv_V → Value
  | .inl n => .int n
  | .inr (.inl n) => .long n
  | .inr (.inr none) => .null
  | .inr (.inr (some (r, i))) => .ref (ad r i)
/-- the class (its place in vwCl) or the element type of a cell: 0 int, 1 byte, 2 Drummer, 3 Text, 4 Kind, 5 Sheet, 6 the static row ABOVE, 7 a text constant -/
def sv_kd (r i : Nat) : Nat ⊕ Nat := match r with
  | 0 => .inl 11
  | 1 => .inl 5
  | 2 => .inl 1
  | 3 => .inr 2
  | 4 => .inr 3
  | 5 => .inr 0
  | 6 => .inr 4
  | 7 => .inl (match i with
    | 0 => 3
    | 1 => 7
    | 2 => 2
    | 3 => 4
    | 4 => 10
    | _ => 0)
  | 8 => .inl 8
  | 9 => .inr 1
  | 10 => .inr 0
  | 11 => .inr 5
  | 12 => .inl 6
  | 13 => .inr 0
  | 14 => .inr 0
  | 15 => .inr 0
  | 16 => .inr 0
  | 17 => .inr 0
  | 18 => .inl 9
  | 19 => .inr 0
  | 20 => .inr 0
  | 21 => .inr 6
  | 23 => .inl 13
  | 24 => .inr 8
  | 25 => .inr 7
  | 30 => .inl 12
  | 31 => .inr 0
  | _ => .inr 9
/-- fields of OneStrokeModel that are rows -/
def sv_ar (k : Nat) : Bool := match k with
  | 3 => false
  | 15 => false
  | 17 => false
  | 18 => false
  | 19 => false
  | 20 => false
  | 21 => false
  | 22 => false
  | 23 => false
  | 24 => false
  | 25 => false
  | 26 => false
  | 27 => false
  | 32 => false
  | _ => true
/-- a field that is a reference: to which cell -/
def sv_fr (c i k : Nat) : Option (Nat × Nat) := match c with
  | 11 => (match k with
    | 0 => some (1, 0)
    | 1 => some (1, 1)
    | 2 => some (1, 2)
    | 4 => some (8, 0)
    | 5 => some (11, 0)
    | 6 => some (14, 0)
    | 7 => some (15, 0)
    | 8 => some (3, 3)
    | 9 => some (11, 1)
    | 10 => some (16, 0)
    | 12 => some (17, 0)
    | _ => none)
  | 5 => (match k with
    | 0 => some (6, 0)
    | 1 => some (3, i)
    | 2 => some (4, i)
    | 3 => some (5, i)
    | _ => none)
  | 8 => (match k with
    | 0 => some (9, 0)
    | 8 => some (10, 0)
    | _ => none)
  | 6 => (match k with
    | 2 => some (13, i)
    | _ => none)
  | 9 => (match k with
    | 2 => some (19, i)
    | 3 => some (20, i)
    | _ => none)
  | 12 => bif sv_ar k then some (31, k) else none
  | 13 => (match k with
    | 0 => some (25, i)
    | _ => none)
  | _ => none
/-- what may be put into a field: 0 an int, 1 a boolean, 2 nothing -/
def sv_ft (c k : Nat) : Nat := match c with
  | 11 => (match k with
    | 3 => 1
    | 11 => 0
    | _ => 2)
  | 5 => (match k with
    | 0 => 2
    | 1 => 2
    | 2 => 2
    | 3 => 2
    | _ => 0)
  | 1 => 0
  | 8 => (match k with
    | 0 => 2
    | 8 => 2
    | _ => 0)
  | 6 => (match k with
    | 2 => 2
    | _ => 0)
  | 12 => (match k with
    | 3 => 1
    | _ => bif sv_ar k then 2 else 0)
  | _ => 2
/-- how many fields an object of a class has -/
def sv_nf (c : Nat) : Nat := match c with
  | 1 => 8
  | 5 => 9
  | 6 => 3
  | 8 => 9
  | 9 => 4
  | 11 => 13
  | 12 => 34
  | 13 => 2
  | _ => 0
/-- a choice that computing doesn't look into -/
noncomputable def sv_if {α : Type} (c : Prop) (a b : α) : α := @ite α c (Classical.propDecidable c) a b
noncomputable def sv_tx {α : Type} (n : Int32) (k0 : α) (k1 : Nat → α) : α := sv_if (n = 0) k0 (k1 (n.toNatClampNeg - 1))
def sv_df (c i k : Nat) (n : Int32) : sv_V := match sv_fr c i k with
  | some q => .inr (.inr (some q))
  | none => .inl n
/-- the value in a place of a row -/
noncomputable def sv_de (t i k : Nat) (n : Int32) : sv_V := match t with
  | 2 => sv_R 2 (10 * i + k)
  | 3 => sv_tx n sv_N (fun t => sv_R 18 t)
  | 4 => sv_R 7 k
  | 5 => sv_R 12 (4 * i + k)
  | _ => .inl n
noncomputable def sv_dc (r i k : Nat) (n : Int32) : sv_V := match sv_kd r i with
  | .inl c => sv_df c i k n
  | .inr t => sv_de t i k n
def sv_ab (k : Nat) : Int32 := match k with
  | 0 => -1
  | 1 => 0
  | 2 => 0
  | 3 => 1
  | 4 => 2
  | _ => 0
/-- text constants: their lengths, their bytes -/
def sv_tl : List Nat := [4, 5, 4, 3, 3, 2]
def sv_tb : List (List Int32) := [[104, 101, 97, 114], [115, 116, 97, 114, 116], [102, 105, 110, 101], [108, 114, 110], [115, 110, 98], [109, 98]]
/-- how many texts there are -/
def sv_ct (σ : sv_S) : Nat := (σ 22 0 0).toNatClampNeg
/-- rows of OneStrokeModel: how long -/
def sv_ml (k : Nat) : Nat := match k with
  | 0 => 3086
  | 1 => 3086
  | 2 => 3086
  | 4 => 4
  | 5 => 4
  | 6 => 96
  | 7 => 5
  | 8 => 5
  | 9 => 5
  | 10 => 5
  | 11 => 120
  | 12 => 10
  | 13 => 86
  | 14 => 10
  | 16 => 96
  | 28 => 128
  | 29 => 100
  | 30 => 24
  | 31 => 60
  | _ => 60
def sv_ln (r i : Nat) (σ : sv_S) : Nat := match r with
  | 3 => (match i with
    | 3 => 5
    | _ => 10)
  | 4 => 14
  | 5 => 3
  | 6 => 6
  | 9 => 96
  | 10 => 96
  | 11 => (match i with
    | 0 => 4
    | _ => 5)
  | 13 => 24
  | 14 => 5
  | 15 => 5
  | 16 => 60
  | 17 => 3
  | 19 => (σ 18 i 9).toNatClampNeg
  | 20 => (σ 18 i 1).toNatClampNeg
  | 21 => 6
  | 31 => sv_ml i
  | _ => 0
/-- how many cells of a role there are, if there are n texts -/
def sv_nb (n r : Nat) : Nat := match r with
  | 0 => 1
  | 1 => 3
  | 2 => 35
  | 3 => 4
  | 4 => 3
  | 5 => 3
  | 6 => 1
  | 7 => 6
  | 8 => 1
  | 9 => 1
  | 10 => 1
  | 11 => 2
  | 12 => 9
  | 13 => 9
  | 14 => 1
  | 15 => 1
  | 16 => 1
  | 17 => 1
  | 18 => n
  | 19 => n
  | 20 => n
  | 21 => 1
  | 23 => 6
  | 24 => 1
  | 25 => 6
  | 30 => 1
  | 31 => 34
  | _ => 0
def sv_lv (n r i : Nat) : Prop := i < sv_nb n r ∧ (r = 31 → sv_ar i = true)
def sv_ok (n : Nat) (v : sv_V) : Prop := match v with
  | .inr (.inr (some (r, i))) => sv_lv n r i
  | _ => True
/-- by its number out of a list -/
def sv_lk {α : Type} (i : Nat) : List (Nat × α) → Option α
  | [] => none
  | q :: l => bif Nat.beq i q.1 then some q.2 else sv_lk i l
/-! the code of a method, its links, its calls -/
/-- a row of the code: the instruction, its constant, the next pc, a branch's target, a switch's targets -/
abbrev sv_W : Type := Instr × (sv_V × (Nat × (Nat × List (Int × Nat))))
abbrev sv_C : Type := List (Nat × sv_W)
def sv_at (pc : Nat) : sv_C → Option sv_W
  | [] => none
  | q :: l => bif Nat.beq pc q.1 then some q.2 else sv_at pc l
abbrev sv_Lo : Type := List (Option sv_V)
def sv_ga : sv_Lo → Nat → Option sv_V
  | [], _ => none
  | a :: _, 0 => a
  | _ :: l, n + 1 => sv_ga l n
def sv_se : sv_Lo → Nat → sv_V → sv_Lo
  | [], _, _ => []
  | _ :: l, 0, v => some v :: l
  | a :: l, n + 1, v => a :: sv_se l n v
/-- what a call does: an int; nothing; a cell of a role; a text or null -/
abbrev sv_F : Type := (List sv_V → sv_S → Option (Int32 × sv_S)) ⊕ ((List sv_V → sv_S → Option sv_S) ⊕ ((Nat × (List sv_V → sv_S → Option (Nat × sv_S))) ⊕ (List sv_V → sv_S → Option (Option Nat × sv_S))))
/-- links of a method: fields (class, slot), constants, the statics (1 ABOVE, 2 COMPACT_STRINGS), whether locals hold no longs, calls by their pc (how many values they take); the law's script -/
abbrev sv_E : Type := (Nat → Option (Nat × Nat)) × ((Nat → Option sv_V) × ((Nat → Nat) × (Bool × ((Nat → Option (Nat × sv_F)) × Option (Nat × (Nat → Int32))))))
def sv_b {α β : Type} (x : Option (α × sv_S)) (k : α → sv_S → Option β) : Option β := match x with
  | some (a, σ) => k a σ
  | none => none
def sv_b0 {β : Type} (x : Option sv_S) (k : sv_S → Option β) : Option β := match x with
  | some σ => k σ
  | none => none
def sv_bT {β : Type} (x : Option (Option Nat × sv_S)) (k0 : sv_S → Option β) (k1 : Nat → sv_S → Option β) : Option β := match x with
  | some (none, σ) => k0 σ
  | some (some t, σ) => k1 t σ
  | none => none
noncomputable def sv_g {β : Type} (c : Prop) (x : Option β) : Option β := sv_if c x none
/-- an index within -/
abbrev sv_in (i : Int32) (n : Nat) : Prop := 0 ≤ i.toInt ∧ i.toInt < n
def sv_tk : Nat → List sv_V → List sv_V → Option (List sv_V × List sv_V)
  | 0, acc, st => some (acc, st)
  | n + 1, acc, v :: st => sv_tk n (v :: acc) st
  | _ + 1, _, [] => none
def sv_sm (st : List sv_V) : Bool := match st with
  | [] => true
  | [_] => true
  | [_, _] => true
  | [_, _, _] => true
  | [_, _, _, _] => true
  | _ => false
/-- a switch -/
noncomputable def sv_sw {β : Type} (x : Int) (d : Nat) (go : Nat → Option β) : List (Int × Nat) → Option β
  | [] => go d
  | q :: l => sv_if (x = q.1) (go q.2) (sv_sw x d go l)
/-- a branch -/
noncomputable def sv_br {β : Type} (c : ClassFile.Cond) (x y : Int32) (t f : Option β) : Option β := match c with
  | .eq => sv_if (x = y) t f
  | .ne => sv_if (x = y) f t
  | .lt => sv_if (x < y) t f
  | .ge => sv_if (y ≤ x) t f
  | .gt => sv_if (y < x) t f
  | .le => sv_if (x ≤ y) t f
/-- a call -/
noncomputable def sv_cl {β : Type} (E : sv_E) (pc nx : Nat) (lo : sv_Lo) (st : List sv_V) (σ : sv_S) (go : Nat → sv_Lo → List sv_V → sv_S → Option β) : Option β :=
  match E.2.2.2.2.1 pc with
  | none => none
  | some (n, f) => match sv_tk n [] st with
    | none => none
    | some (as, rest) => bif sv_sm rest then (match f with
      | .inl F => sv_b (F as σ) (fun v σ => go nx lo (.inl v :: rest) σ)
      | .inr (.inl F) => sv_b0 (F as σ) (fun σ => go nx lo rest σ)
      | .inr (.inr (.inl F)) => sv_b (F.2 as σ) (fun i σ => go nx lo (sv_R F.1 i :: rest) σ)
      | .inr (.inr (.inr F)) => sv_bT (F as σ) (fun σ => go nx lo (sv_N :: rest) σ) (fun t σ => go nx lo (sv_R 18 t :: rest) σ)) else none
/-- one instruction -/
noncomputable def sv_i {β : Type} (E : sv_E) (rt : sv_V → sv_S → Option β) (pc : Nat) (cv : sv_V) (nx tg : Nat) (sw : List (Int × Nat)) (lo : sv_Lo) (st : List sv_V) (σ : sv_S) (go : Nat → sv_Lo → List sv_V → sv_S → Option β) : Instr → Option β
  | .iconst _ => go nx lo (cv :: st) σ
  | .bipush _ => go nx lo (cv :: st) σ
  | .sipush _ => go nx lo (cv :: st) σ
  | .lconst _ => go nx lo (cv :: st) σ
  | .aconst_null => go nx lo (sv_N :: st) σ
  | .ldc i => (match E.2.1 i with
    | some (.inl n) => go nx lo (.inl n :: st) σ
    | some (.inr (.inr (some (r, i)))) => go nx lo (sv_R r i :: st) σ
    | _ => none)
  | .ldc_w i => (match E.2.1 i with
    | some (.inl n) => go nx lo (.inl n :: st) σ
    | _ => none)
  | .ldc2_w i => (match E.2.1 i with
    | some (.inr (.inl n)) => go nx lo (sv_L n :: st) σ
    | _ => none)
  | .iload_n k => (match sv_ga lo k with
    | some (.inl n) => go nx lo (.inl n :: st) σ
    | _ => none)
  | .iload k => (match sv_ga lo k with
    | some (.inl n) => go nx lo (.inl n :: st) σ
    | _ => none)
  | .lload_n k => (match sv_ga lo k with
    | some (.inr (.inl n)) => go nx lo (sv_L n :: st) σ
    | _ => none)
  | .lload k => (match sv_ga lo k with
    | some (.inr (.inl n)) => go nx lo (sv_L n :: st) σ
    | _ => none)
  | .aload_n k => (match sv_ga lo k with
    | some (.inr (.inr (some (r, i)))) => go nx lo (sv_R r i :: st) σ
    | some (.inr (.inr none)) => go nx lo (sv_N :: st) σ
    | _ => none)
  | .aload k => (match sv_ga lo k with
    | some (.inr (.inr (some (r, i)))) => go nx lo (sv_R r i :: st) σ
    | some (.inr (.inr none)) => go nx lo (sv_N :: st) σ
    | _ => none)
  | .istore_n k => (match st with
    | .inl n :: st => bif E.2.2.2.1 && Nat.ble (k + 1) lo.length then go nx (sv_se lo k (.inl n)) st σ else none
    | _ => none)
  | .istore k => (match st with
    | .inl n :: st => bif E.2.2.2.1 && Nat.ble (k + 1) lo.length then go nx (sv_se lo k (.inl n)) st σ else none
    | _ => none)
  | .astore_n k => (match st with
    | .inr (.inr (some (r, i))) :: st => bif E.2.2.2.1 && Nat.ble (k + 1) lo.length then go nx (sv_se lo k (sv_R r i)) st σ else none
    | .inr (.inr none) :: st => bif E.2.2.2.1 && Nat.ble (k + 1) lo.length then go nx (sv_se lo k sv_N) st σ else none
    | _ => none)
  | .astore k => (match st with
    | .inr (.inr (some (r, i))) :: st => bif E.2.2.2.1 && Nat.ble (k + 1) lo.length then go nx (sv_se lo k (sv_R r i)) st σ else none
    | .inr (.inr none) :: st => bif E.2.2.2.1 && Nat.ble (k + 1) lo.length then go nx (sv_se lo k sv_N) st σ else none
    | _ => none)
  | .iinc k _ => (match sv_ga lo k, cv with
    | some (.inl n), .inl d => bif E.2.2.2.1 then go nx (sv_se lo k (.inl (n + d))) st σ else none
    | _, _ => none)
  | .iadd => (match st with
    | .inl y :: .inl x :: st => go nx lo (.inl (x + y) :: st) σ
    | _ => none)
  | .isub => (match st with
    | .inl y :: .inl x :: st => go nx lo (.inl (x - y) :: st) σ
    | _ => none)
  | .imul => (match st with
    | .inl y :: .inl x :: st => go nx lo (.inl (x * y) :: st) σ
    | _ => none)
  | .iand => (match st with
    | .inl y :: .inl x :: st => go nx lo (.inl (x &&& y) :: st) σ
    | _ => none)
  | .ior => (match st with
    | .inl y :: .inl x :: st => go nx lo (.inl (x ||| y) :: st) σ
    | _ => none)
  | .idiv => (match st with
    | .inl y :: .inl x :: st => sv_g (¬ y = 0) (go nx lo (.inl (x / y) :: st) σ)
    | _ => none)
  | .irem => (match st with
    | .inl y :: .inl x :: st => sv_g (¬ y = 0) (go nx lo (.inl (x - x / y * y) :: st) σ)
    | _ => none)
  | .ineg => (match st with
    | .inl x :: st => go nx lo (.inl (-x) :: st) σ
    | _ => none)
  | .ishl => (match st with
    | .inl y :: .inl x :: st => go nx lo (.inl (x <<< (y &&& 31)) :: st) σ
    | _ => none)
  | .ishr => (match st with
    | .inl y :: .inl x :: st => go nx lo (.inl (x >>> (y &&& 31)) :: st) σ
    | _ => none)
  | .iushr => (match st with
    | .inl y :: .inl x :: st => go nx lo (.inl ((x.toUInt32 >>> (y.toUInt32 &&& Int32.toUInt32 31)).toInt32) :: st) σ
    | _ => none)
  | .i2l => (match st with
    | .inl x :: st => go nx lo (sv_L x.toInt64 :: st) σ
    | _ => none)
  | .i2b => (match st with
    | .inl x :: st => go nx lo (.inl x.toInt8.toInt32 :: st) σ
    | _ => none)
  | .i2s => (match st with
    | .inl x :: st => go nx lo (.inl x.toInt16.toInt32 :: st) σ
    | _ => none)
  | .i2c => (match st with
    | .inl x :: st => go nx lo (.inl (x.toUInt32 % 65536).toInt32 :: st) σ
    | _ => none)
  | .ladd => (match st with
    | .inr (.inl y) :: .inr (.inl x) :: st => go nx lo (sv_L (x + y) :: st) σ
    | _ => none)
  | .lcmp => (match st with
    | .inr (.inl y) :: .inr (.inl x) :: st => go nx lo (.inl (lg_cmp x y) :: st) σ
    | _ => none)
  | .dup => (match st with
    | .inl x :: st => go nx lo (.inl x :: .inl x :: st) σ
    | .inr (.inr (some (r, i))) :: st => go nx lo (sv_R r i :: sv_R r i :: st) σ
    | _ => none)
  | .dup2 => (match st with
    | .inl x :: .inr (.inr (some (r, i))) :: st => go nx lo (.inl x :: sv_R r i :: .inl x :: sv_R r i :: st) σ
    | _ => none)
  | .pop => (match st with
    | .inl _ :: st => go nx lo st σ
    | _ => none)
  | .goto _ => go tg lo st σ
  | .ifCond c _ => (match st with
    | .inl x :: st => sv_br c x 0 (go tg lo st σ) (go nx lo st σ)
    | _ => none)
  | .if_icmp c _ => (match st with
    | .inl y :: .inl x :: st => sv_br c x y (go tg lo st σ) (go nx lo st σ)
    | _ => none)
  | .ifnull _ => (match st with
    | .inr (.inr none) :: st => go tg lo st σ
    | .inr (.inr (some _)) :: st => go nx lo st σ
    | _ => none)
  | .ifnonnull _ => (match st with
    | .inr (.inr none) :: st => go nx lo st σ
    | .inr (.inr (some _)) :: st => go tg lo st σ
    | _ => none)
  | .tableswitch _ _ _ _ => (match st with
    | .inl x :: st => sv_sw x.toInt tg (fun t => go t lo st σ) sw
    | _ => none)
  | .lookupswitch _ _ => (match st with
    | .inl x :: st => sv_sw x.toInt tg (fun t => go t lo st σ) sw
    | _ => none)
  | .getfield i => (match E.1 i, st with
    | some (c, k), .inr (.inr (some (r, j))) :: st => (match sv_kd r j with
      | .inl c' => bif Nat.beq c' c then (match sv_fr c j k with
        | some (r', j') => go nx lo (sv_R r' j' :: st) σ
        | none => bif Nat.beq c 13 then go nx lo (.inl 0 :: st) σ else go nx lo (.inl (σ r j k) :: st) σ) else none
      | .inr _ => none)
    | _, _ => none)
  | .putfield i => (match E.1 i, st with
    | some (c, k), .inl n :: .inr (.inr (some (r, j))) :: st => (match sv_kd r j with
      | .inl c' => bif Nat.beq c' c then (match sv_ft c k with
        | 0 => go nx lo st (sv_up σ r j k n)
        | 1 => sv_g (n = 0 ∨ n = 1) (go nx lo st (sv_up σ r j k n))
        | _ => none) else none
      | .inr _ => none)
    | _, _ => none)
  | .getstatic i => (match E.2.2.1 i with
    | 1 => go nx lo (sv_R 21 0 :: st) σ
    | 2 => go nx lo (.inl 1 :: st) σ
    | _ => none)
  | .arraylength => (match st with
    | .inr (.inr (some (r, j))) :: st => (match sv_kd r j with
      | .inr 8 => (match E.2.2.2.2.2 with
        | some q => go nx lo (.inl (nI q.1) :: st) σ
        | none => none)
      | .inr 7 => go nx lo (.inl (nI (sv_tl.getD j 0)) :: st) σ
      | .inr t => bif Nat.ble t 6 then go nx lo (.inl (nI (sv_ln r j σ)) :: st) σ else none
      | .inl _ => none)
    | _ => none)
  | .iaload => (match st with
    | .inl x :: .inr (.inr (some (r, j))) :: st => (match sv_kd r j with
      | .inr 0 => sv_g (sv_in x (sv_ln r j σ)) (go nx lo (.inl (σ r j x.toNatClampNeg) :: st) σ)
      | .inr 6 => sv_g (sv_in x 6) (go nx lo (.inl (sv_ab x.toNatClampNeg) :: st) σ)
      | .inr 8 => (match E.2.2.2.2.2 with
        | some q => sv_g (sv_in x q.1) (go nx lo (.inl (q.2 x.toNatClampNeg) :: st) σ)
        | none => none)
      | _ => none)
    | _ => none)
  | .iastore => (match st with
    | .inl n :: .inl x :: .inr (.inr (some (r, j))) :: st => (match sv_kd r j with
      | .inr 0 => sv_g (sv_in x (sv_ln r j σ)) (go nx lo st (sv_up σ r j x.toNatClampNeg n))
      | _ => none)
    | _ => none)
  | .baload => (match st with
    | .inl x :: .inr (.inr (some (r, j))) :: st => (match sv_kd r j with
      | .inr 1 => sv_g (sv_in x (sv_ln r j σ)) (go nx lo (.inl (σ r j x.toNatClampNeg) :: st) σ)
      | .inr 7 => sv_g (sv_in x (sv_tl.getD j 0)) (go nx lo (.inl ((sv_tb.getD j []).getD x.toNatClampNeg 0) :: st) σ)
      | _ => none)
    | _ => none)
  | .bastore => (match st with
    | .inl n :: .inl x :: .inr (.inr (some (r, j))) :: st => (match sv_kd r j with
      | .inr 1 => sv_g (sv_in x (sv_ln r j σ)) (go nx lo st (sv_up σ r j x.toNatClampNeg n.toInt8.toInt32))
      | _ => none)
    | _ => none)
  | .aaload => (match st with
    | .inl x :: .inr (.inr (some (r, j))) :: st => (match sv_kd r j with
      | .inr 2 => sv_g (sv_in x (sv_ln r j σ)) (go nx lo (sv_R 2 (10 * j + x.toNatClampNeg) :: st) σ)
      | .inr 3 => sv_g (sv_in x (sv_ln r j σ)) (sv_tx (σ r j x.toNatClampNeg) (go nx lo (sv_N :: st) σ) (fun t => sv_g (t < sv_ct σ) (go nx lo (sv_R 18 t :: st) σ)))
      | .inr 4 => sv_g (sv_in x (sv_ln r j σ)) (go nx lo (sv_R 7 x.toNatClampNeg :: st) σ)
      | .inr 5 => sv_g (sv_in x (sv_ln r j σ)) (go nx lo (sv_R 12 (4 * j + x.toNatClampNeg) :: st) σ)
      | _ => none)
    | _ => none)
  | .aastore => (match st with
    | .inr (.inr none) :: .inl x :: .inr (.inr (some (r, j))) :: st => (match sv_kd r j with
      | .inr 3 => sv_g (sv_in x (sv_ln r j σ)) (go nx lo st (sv_up σ r j x.toNatClampNeg 0))
      | _ => none)
    | .inr (.inr (some (18, t))) :: .inl x :: .inr (.inr (some (r, j))) :: st => (match sv_kd r j with
      | .inr 3 => sv_g (sv_in x (sv_ln r j σ)) (go nx lo st (sv_up σ r j x.toNatClampNeg (nI (t + 1))))
      | _ => none)
    | _ => none)
  | .invokevirtual _ => sv_cl E pc nx lo st σ go
  | .invokestatic _ => sv_cl E pc nx lo st σ go
  | .invokespecial _ => sv_cl E pc nx lo st σ go
  | .ireturn => (match st with
    | [.inl n] => rt (.inl n) σ
    | _ => none)
  | .areturn => (match st with
    | [.inr (.inr none)] => rt sv_N σ
    | [.inr (.inr (some (r, i)))] => rt (sv_R r i) σ
    | _ => none)
  | .return_ => (match st with
    | [] => rt (sv_L 0) σ
    | _ => none)
  | _ => none
/-- places at which a run is cut, and what is said to follow there -/
abbrev sv_K (β : Type) : Type := Nat → Option (sv_Lo → List sv_V → sv_S → Option β)
/-- a run of at most n instructions -/
noncomputable def sv_ex {β : Type} (E : sv_E) (rt : sv_V → sv_S → Option β) (K : sv_K β) (cd : sv_C) : Nat → Nat → sv_Lo → List sv_V → sv_S → Option β
  | 0, _, _, _, _ => none
  | n + 1, pc, lo, st, σ => match sv_at pc cd with
    | none => none
    | some (ins, (cv, (nx, (tg, sw)))) => sv_i E rt pc cv nx tg sw lo st σ (fun pc lo st σ => match K pc with
      | some k => k lo st σ
      | none => sv_ex E rt K cd n pc lo st σ) ins
/-- the length of an instruction (0: not asked) -/
def sv_il : Instr → Nat
  | .bipush _ => 2
  | .sipush _ => 3
  | .ldc _ => 2
  | .ldc_w _ => 3
  | .ldc2_w _ => 3
  | .iload _ => 2
  | .lload _ => 2
  | .aload _ => 2
  | .istore _ => 2
  | .astore _ => 2
  | .iinc _ _ => 3
  | .goto _ => 3
  | .ifCond _ _ => 3
  | .if_icmp _ _ => 3
  | .ifnull _ => 3
  | .ifnonnull _ => 3
  | .tableswitch _ _ _ _ => 0
  | .lookupswitch _ _ => 0
  | .getfield _ => 3
  | .putfield _ => 3
  | .getstatic _ => 3
  | .invokevirtual _ => 3
  | .invokestatic _ => 3
  | .invokespecial _ => 3
  | _ => 1
def sv_tk1 (pc : Nat) (l : Int) : List Int → List (Int × Nat) → Bool
  | [], [] => true
  | o :: os, q :: qs => decide (q.1 = l) && decide ((pc : Int) + o = (q.2 : Int)) && sv_tk1 pc (l + 1) os qs
  | _, _ => false
def sv_tk2 (pc : Nat) : List (Int × Int) → List (Int × Nat) → Bool
  | [], [] => true
  | o :: os, q :: qs => decide (q.1 = o.1) && decide ((pc : Int) + o.2 = (q.2 : Int)) && sv_tk2 pc os qs
  | _, _ => false
/-- what the code's row must say of a switch, of a constant, of a branch -/
def sv_sk (pc : Nat) (cv : sv_V) (tg : Nat) (sw : List (Int × Nat)) : Instr → Bool
  | .tableswitch d l h offs => decide ((offs.toList.length : Int) = h + 1 - l) && decide ((pc : Int) + d = (tg : Int)) && sv_tk1 pc l offs.toList sw
  | .lookupswitch d ps => (ps.toList.zip (ps.toList.drop 1)).all (fun (a, next) => a.1 < next.1) && decide ((pc : Int) + d = (tg : Int)) && sv_tk2 pc ps.toList sw
  | .iconst n => decide (cv = .inl (Int32.ofInt n))
  | .bipush n => decide (cv = .inl (Int8.ofInt n).toInt32)
  | .sipush n => decide (cv = .inl (Int16.ofInt n).toInt32)
  | .iinc _ n => decide (cv = .inl (Int32.ofInt n))
  | .lconst n => decide (cv = .inr (.inl (Int64.ofNat (n : Nat))))
  | .goto o => decide ((pc : Int) + o = (tg : Int))
  | .ifCond _ o => decide ((pc : Int) + o = (tg : Int))
  | .if_icmp _ o => decide ((pc : Int) + o = (tg : Int))
  | .ifnull o => decide ((pc : Int) + o = (tg : Int))
  | .ifnonnull o => decide ((pc : Int) + o = (tg : Int))
  | _ => true
def sv_dk (cc : ByteArray) (q : Nat × sv_W) : Bool := match decode cc q.1 with
  | .ok (ins, len) => decide (ins = q.2.1) && ((Nat.beq (sv_il ins) 0 || Nat.beq (sv_il ins) len) && (Nat.beq q.2.2.2.1 (q.1 + sv_il ins) && sv_sk q.1 q.2.2.1 q.2.2.2.2.1 q.2.2.2.2.2 ins))
  | _ => false
