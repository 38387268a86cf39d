/-! methods 224.. -/
section MCK7
set_option maxRecDepth 100000
theorem mc_224 : ((List.range 4).all fun i => okM (224 + i)) = true := by decide +kernel
theorem mc_228 : ((List.range 4).all fun i => okM (228 + i)) = true := by decide +kernel
theorem mc_232 : ((List.range 4).all fun i => okM (232 + i)) = true := by decide +kernel
theorem mc_236 : ((List.range 4).all fun i => okM (236 + i)) = true := by decide +kernel
theorem mc_240 : ((List.range 4).all fun i => okM (240 + i)) = true := by decide +kernel
theorem mc_244 : ((List.range 4).all fun i => okM (244 + i)) = true := by decide +kernel
theorem mc_248 : ((List.range 4).all fun i => okM (248 + i)) = true := by decide +kernel
theorem mc_252 : ((List.range 4).all fun i => okM (252 + i)) = true := by decide +kernel
end MCK7
