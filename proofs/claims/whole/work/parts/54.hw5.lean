/-! ===== the start's world ===== -/
def hs_1 : Option (List hw_E) := hf_X11_init [sv_R 0 0] [.inl (11, hw_df 11)]
def hs_2 : Option (List hw_E) := match hs_1 with
  | some w => hf_X12_init [sv_R 0 w.length] (w ++ [.inl (12, hw_df 12)])
  | none => none
set_option maxRecDepth 20000 in
theorem hs_1_is : hs_1.isSome = true := by decide +kernel
set_option maxRecDepth 20000 in
theorem hs_2_is : hs_2.isSome = true := by decide +kernel
/-- its cells in the order of their making -/
def hs_sh (E : hw_E) : Nat × Nat := match E with
  | .inl (c, _) => (0, c)
  | .inr (t, (n, _)) => (1 + t, n)
set_option maxRecDepth 20000 in
theorem hs_2_sh : hs_2.map (fun w => w.map hs_sh) = some [(0, 11), (5, 6), (0, 3), (0, 7), (0, 2), (0, 4), (0, 10), (0, 0), (0, 5), (3, 10), (0, 1), (0, 1), (0, 1), (0, 1), (0, 1), (0, 1), (0, 1), (0, 1), (0, 1), (0, 1), (4, 14), (1, 3), (0, 5), (3, 10), (0, 1), (0, 1), (0, 1), (0, 1), (0, 1), (0, 1), (0, 1), (0, 1), (0, 1), (0, 1), (4, 14), (1, 3), (0, 5), (3, 10), (0, 1), (0, 1), (0, 1), (0, 1), (0, 1), (0, 1), (0, 1), (0, 1), (0, 1), (0, 1), (4, 14), (1, 3), (0, 8), (2, 96), (1, 96), (6, 4), (0, 6), (1, 24), (0, 6), (1, 24), (0, 6), (1, 24), (0, 6), (1, 24), (1, 5), (1, 5), (3, 5), (6, 5), (0, 1), (0, 6), (1, 24), (0, 1), (0, 6), (1, 24), (0, 1), (0, 6), (1, 24), (0, 1), (0, 6), (1, 24), (0, 1), (0, 6), (1, 24), (1, 60), (1, 3), (0, 12), (1, 3086), (1, 3086), (1, 3086), (1, 4), (1, 4), (1, 96), (1, 5), (1, 5), (1, 5), (1, 5), (1, 120), (1, 10), (1, 86), (1, 10), (1, 96), (1, 128), (1, 100), (1, 24), (1, 60), (1, 60)] := by decide +kernel
/-- where a cell of the layout lies -/
def hs_o (r i : Nat) : Nat := match r with
  | 0 => 0
  | 1 => 8 + 14 * i
  | 2 => if i < 30 then 10 + 14 * (i / 10) + i % 10 else 66 + 3 * (i - 30)
  | 3 => if i < 3 then 9 + 14 * i else 64
  | 4 => 20 + 14 * i
  | 5 => 21 + 14 * i
  | 6 => 1
  | 7 => 2 + i
  | 8 => 50
  | 9 => 51
  | 10 => 52
  | 11 => if i = 0 then 53 else 65
  | 12 => if i < 4 then 54 + 2 * i else 67 + 3 * (i - 4)
  | 13 => if i < 4 then 55 + 2 * i else 68 + 3 * (i - 4)
  | 14 => 62
  | 15 => 63
  | 16 => 81
  | 17 => 82
  | 30 => 83
  | 31 => if i < 3 then 84 + i else if i < 15 then 83 + i else if i = 16 then 98 else if i = 33 then 103 else 71 + i
  | _ => 104
