/-! methods 192.. -/
section MCK6
set_option maxRecDepth 100000
theorem mc_192 : ((List.range 4).all fun i => okM (192 + i)) = true := by decide +kernel
theorem mc_196 : ((List.range 4).all fun i => okM (196 + i)) = true := by decide +kernel
theorem mc_200 : ((List.range 4).all fun i => okM (200 + i)) = true := by decide +kernel
theorem mc_204 : ((List.range 4).all fun i => okM (204 + i)) = true := by decide +kernel
theorem mc_208 : ((List.range 4).all fun i => okM (208 + i)) = true := by decide +kernel
theorem mc_212 : ((List.range 4).all fun i => okM (212 + i)) = true := by decide +kernel
theorem mc_216 : ((List.range 4).all fun i => okM (216 + i)) = true := by decide +kernel
theorem mc_220 : ((List.range 4).all fun i => okM (220 + i)) = true := by decide +kernel
end MCK6
