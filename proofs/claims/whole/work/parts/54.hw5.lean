/-! ===== the start's world ===== -/
def hs_1 : Option (List hw_E) := hf_X11_init [sv_R 0 0] [.inl (11, hw_df 11)]
def hs_2 : Option (List hw_E) := match hs_1 with
  | some w => hf_X12_init [sv_R 0 w.length] (w ++ [.inl (12, hw_df 12)])
  | none => none
set_option maxRecDepth 20000 in
theorem hs_1_is : hs_1.isSome = true := by decide +kernel
set_option maxRecDepth 20000 in
theorem hs_2_is : hs_2.isSome = true := by decide +kernel
