/-! methods 160.. -/
section MCK5
set_option maxRecDepth 100000
theorem mc_160 : ((List.range 4).all fun i => okM (160 + i)) = true := by decide +kernel
theorem mc_164 : ((List.range 4).all fun i => okM (164 + i)) = true := by decide +kernel
theorem mc_168 : ((List.range 4).all fun i => okM (168 + i)) = true := by decide +kernel
theorem mc_172 : ((List.range 4).all fun i => okM (172 + i)) = true := by decide +kernel
theorem mc_176 : ((List.range 4).all fun i => okM (176 + i)) = true := by decide +kernel
theorem mc_180 : ((List.range 4).all fun i => okM (180 + i)) = true := by decide +kernel
theorem mc_184 : ((List.range 4).all fun i => okM (184 + i)) = true := by decide +kernel
theorem mc_188 : ((List.range 4).all fun i => okM (188 + i)) = true := by decide +kernel
end MCK5
