/-! methods 64.. -/
section MCK2
set_option maxRecDepth 100000
theorem mc_64 : ((List.range 4).all fun i => okM (64 + i)) = true := by decide +kernel
theorem mc_68 : ((List.range 4).all fun i => okM (68 + i)) = true := by decide +kernel
theorem mc_72 : ((List.range 4).all fun i => okM (72 + i)) = true := by decide +kernel
theorem mc_76 : ((List.range 4).all fun i => okM (76 + i)) = true := by decide +kernel
theorem mc_80 : ((List.range 4).all fun i => okM (80 + i)) = true := by decide +kernel
theorem mc_84 : ((List.range 4).all fun i => okM (84 + i)) = true := by decide +kernel
theorem mc_88 : ((List.range 4).all fun i => okM (88 + i)) = true := by decide +kernel
theorem mc_92 : ((List.range 4).all fun i => okM (92 + i)) = true := by decide +kernel
end MCK2
