/-! methods 128.. -/
section MCK4
set_option maxRecDepth 100000
theorem mc_128 : ((List.range 4).all fun i => okM (128 + i)) = true := by decide +kernel
theorem mc_132 : ((List.range 4).all fun i => okM (132 + i)) = true := by decide +kernel
theorem mc_136 : ((List.range 4).all fun i => okM (136 + i)) = true := by decide +kernel
theorem mc_140 : ((List.range 4).all fun i => okM (140 + i)) = true := by decide +kernel
theorem mc_144 : ((List.range 4).all fun i => okM (144 + i)) = true := by decide +kernel
theorem mc_148 : ((List.range 4).all fun i => okM (148 + i)) = true := by decide +kernel
theorem mc_152 : ((List.range 4).all fun i => okM (152 + i)) = true := by decide +kernel
theorem mc_156 : ((List.range 4).all fun i => okM (156 + i)) = true := by decide +kernel
end MCK4
