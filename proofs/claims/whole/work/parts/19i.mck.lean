/-! methods 256.. -/
section MCK8
set_option maxRecDepth 100000
theorem mc_256 : ((List.range 4).all fun i => okM (256 + i)) = true := by decide +kernel
theorem mc_260 : ((List.range 4).all fun i => okM (260 + i)) = true := by decide +kernel
theorem mc_264 : ((List.range 4).all fun i => okM (264 + i)) = true := by decide +kernel
theorem mc_268 : ((List.range 4).all fun i => okM (268 + i)) = true := by decide +kernel
theorem mc_272 : ((List.range 4).all fun i => okM (272 + i)) = true := by decide +kernel
theorem mc_276 : ((List.range 4).all fun i => okM (276 + i)) = true := by decide +kernel
theorem mc_280 : ((List.range 4).all fun i => okM (280 + i)) = true := by decide +kernel
theorem mc_284 : ((List.range 4).all fun i => okM (284 + i)) = true := by decide +kernel
end MCK8
