/-! each ordinary method, instruction by instruction, by count -/
def okM (m : Nat) : Bool := !(Nat.beq (mkM m) 0) || (MDok m && isCd m && (pt m).all (fun e => ckE (byN m) m e))
