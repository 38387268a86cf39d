/-! each ordinary method, instruction by instruction, by count -/
def okM (m : Nat) : Bool := !(Nat.beq (mkM m) 0) || (MDok m && isCd m && (pt m).all (fun e => ckE (byN m) m e))
set_option maxRecDepth 100000
theorem mc_48 : ((List.range 8).all fun i => okM (48 + i)) = true := by decide +kernel
