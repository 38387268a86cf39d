/-! methods 32.. -/
section MCK1
set_option maxRecDepth 100000
theorem mc_32 : ((List.range 4).all fun i => okM (32 + i)) = true := by decide +kernel
theorem mc_36 : ((List.range 4).all fun i => okM (36 + i)) = true := by decide +kernel
theorem mc_40 : ((List.range 4).all fun i => okM (40 + i)) = true := by decide +kernel
theorem mc_44 : ((List.range 4).all fun i => okM (44 + i)) = true := by decide +kernel
theorem mc_48 : ((List.range 4).all fun i => okM (48 + i)) = true := by decide +kernel
theorem mc_52 : ((List.range 4).all fun i => okM (52 + i)) = true := by decide +kernel
theorem mc_56 : ((List.range 4).all fun i => okM (56 + i)) = true := by decide +kernel
theorem mc_60 : ((List.range 4).all fun i => okM (60 + i)) = true := by decide +kernel
end MCK1
