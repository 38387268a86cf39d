/-! methods 288.. -/
section MCK9
set_option maxRecDepth 100000
theorem mc_288 : ((List.range 4).all fun i => okM (288 + i)) = true := by decide +kernel
theorem mc_292 : ((List.range 4).all fun i => okM (292 + i)) = true := by decide +kernel
theorem mc_296 : ((List.range 4).all fun i => okM (296 + i)) = true := by decide +kernel
theorem mc_300 : ((List.range 4).all fun i => okM (300 + i)) = true := by decide +kernel
theorem mc_304 : ((List.range 4).all fun i => okM (304 + i)) = true := by decide +kernel
theorem mc_308 : ((List.range 4).all fun i => okM (308 + i)) = true := by decide +kernel
end MCK9
