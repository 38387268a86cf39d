/-! methods 0.. -/
section MCK0
set_option maxRecDepth 100000
theorem mc_0 : ((List.range 4).all fun i => okM (0 + i)) = true := by decide +kernel
theorem mc_4 : ((List.range 4).all fun i => okM (4 + i)) = true := by decide +kernel
theorem mc_8 : ((List.range 4).all fun i => okM (8 + i)) = true := by decide +kernel
theorem mc_12 : ((List.range 4).all fun i => okM (12 + i)) = true := by decide +kernel
theorem mc_16 : ((List.range 4).all fun i => okM (16 + i)) = true := by decide +kernel
theorem mc_20 : ((List.range 4).all fun i => okM (20 + i)) = true := by decide +kernel
theorem mc_24 : ((List.range 4).all fun i => okM (24 + i)) = true := by decide +kernel
theorem mc_28 : ((List.range 4).all fun i => okM (28 + i)) = true := by decide +kernel
end MCK0
