/-! methods 96.. -/
section MCK3
set_option maxRecDepth 100000
theorem mc_96 : ((List.range 4).all fun i => okM (96 + i)) = true := by decide +kernel
theorem mc_100 : ((List.range 4).all fun i => okM (100 + i)) = true := by decide +kernel
theorem mc_104 : ((List.range 4).all fun i => okM (104 + i)) = true := by decide +kernel
theorem mc_108 : ((List.range 4).all fun i => okM (108 + i)) = true := by decide +kernel
theorem mc_112 : ((List.range 4).all fun i => okM (112 + i)) = true := by decide +kernel
theorem mc_116 : ((List.range 4).all fun i => okM (116 + i)) = true := by decide +kernel
theorem mc_120 : ((List.range 4).all fun i => okM (120 + i)) = true := by decide +kernel
theorem mc_124 : ((List.range 4).all fun i => okM (124 + i)) = true := by decide +kernel
end MCK3
