/-! ===== the start's store ===== -/
def hs_s : sv_S := fun r i j => if r = 1 ∧ j = 7 then 1 else if r = 5 then -1 else if r = 12 ∧ j = 0 then -1 else if r = 31 ∧ i = 0 ∧ j = 4 then 1 else if r = 31 ∧ i = 4 then -1 else 0
def hs_v (v : sv_V) : sv_V := match v with
  | .inr (.inr (some (r, i))) => sv_R 0 (hs_o r i)
  | v => v
def hs_de (t i k : Nat) (n : Int32) : sv_V := match t with
  | 2 => sv_R 2 (10 * i + k)
  | 3 => sv_N
  | 4 => sv_R 7 k
  | 5 => sv_R 12 (4 * i + k)
  | _ => .inl n
def hs_ck (w : List hw_E) (r i : Nat) : Bool := match w[hs_o r i]? with
  | some (.inl (c, fs)) => (match sv_kd r i with
    | .inl k => Nat.beq c k && (List.range (sv_nf k)).all (fun j => decide (fs.getD j sv_N = hs_v (sv_df k i j (hs_s r i j))))
    | _ => false)
  | some (.inr (t, (n, (df, ups)))) => (match sv_kd r i with
    | .inr t' => Nat.beq t t' && (Nat.beq n (sv_ln r i hs_s) && (List.range n).all (fun j => decide (hw_lk ups df j = hs_v (hs_de t i j (hs_s r i j)))))
    | _ => false)
  | none => false
def hs_cks (w : List hw_E) : Bool := [0, 1, 2, 3, 4, 5, 6, 7, 8, 9, 10, 11, 12, 13, 14, 15, 16, 17, 30].all (fun r => (List.range (sv_nb 0 r)).all (fun i => hs_ck w r i)) && (List.range (sv_nb 0 31)).all (fun i => !(sv_ar i) || hs_ck w 31 i)
set_option maxRecDepth 20000 in
theorem hs_2_ck : hs_2.map hs_cks = some true := by decide +kernel
theorem hs_R : R_A hs_s := by
  refine ⟨⟨0, 0, 0, 0, 1, fun _ _ => 0, fun _ => (0, (0, (0, fun _ => 0))), ⟨⟨by simp [hs_s]; rfl, by simp [hs_s], by simp [hs_s], by simp [hs_s], fun k hk => absurd hk (Nat.not_lt_zero k)⟩, by simp [hs_s]; rfl, fun t ht => absurd ht (Nat.not_lt_zero t), fun q _ => by simp [hs_s, li_t]⟩, ⟨⟨by simp [hs_s]; rfl, by simp [hs_s], by simp [hs_s], by simp [hs_s], fun k hk => absurd hk (Nat.not_lt_zero k)⟩, by simp [hs_s]; rfl, fun t ht => absurd ht (Nat.not_lt_zero t)⟩, ⟨by omega, by omega, fun k hk => absurd hk (Nat.not_lt_zero k), ⟨0, by omega, rfl⟩, fun t ht => absurd ht (Nat.not_lt_zero t)⟩⟩, ⟨by simp [hs_s], Or.inl (by simp [hs_s])⟩, ⟨0, by omega, by simp [hs_s]; rfl, by simp [hs_s]; rfl, fun i hi => absurd hi (Nat.not_lt_zero i)⟩, fun s hs => ⟨by simp [hs_s], Or.inl (by simp [hs_s]), ⟨0, by omega, by simp [hs_s]; rfl, by simp [hs_s]; rfl⟩, fun i _ => by simp [hs_s], fun i _ => Or.inr (by simp [hs_s])⟩, fun s hs => ⟨by simp [hs_s], Or.inl (by simp [hs_s])⟩, ⟨0, by omega, by simp [hs_s]; rfl, by simp [hs_s]; rfl, fun i hi => absurd hi (Nat.not_lt_zero i)⟩⟩
theorem hs_ct : sv_ct hs_s = 0 := by
  unfold sv_ct
  simp [hs_s]
