/-! ===== the start's heap ===== -/
def hs_ad (base : Nat) (g : Nat → Nat → Nat) : Nat → Nat → Nat := fun r i => if r = 21 ∨ r = 23 ∨ r = 24 ∨ r = 25 then g r i else base + hs_o r i
def hs_lvs : List (Nat × Nat) := ([0, 1, 2, 3, 4, 5, 6, 7, 8, 9, 10, 11, 12, 13, 14, 15, 16, 17, 30].flatMap (fun r => (List.range (sv_nb 0 r)).map (fun i => (r, i)))) ++ ((List.range (sv_nb 0 31)).filter (fun i => sv_ar i)).map (fun i => (31, i))
set_option maxRecDepth 20000 in
theorem hs_inj : hs_lvs.all (fun p => hs_lvs.all (fun q => !(Nat.beq (hs_o p.1 p.2) (hs_o q.1 q.2)) || (Nat.beq p.1 q.1 && Nat.beq p.2 q.2))) = true := by decide +kernel
