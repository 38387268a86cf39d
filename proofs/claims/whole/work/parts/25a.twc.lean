/-! the throwing and the catching methods, by count -/
section TWC0
set_option maxRecDepth 100000
theorem tw_137 : okT 137 = true := by decide +kernel
theorem tw_138 : okT 138 = true := by decide +kernel
theorem tw_139 : okT 139 = true := by decide +kernel
theorem tw_140 : okT 140 = true := by decide +kernel
theorem tw_141 : okT 141 = true := by decide +kernel
theorem tw_199 : okT 199 = true := by decide +kernel
theorem tw_200 : okT 200 = true := by decide +kernel
theorem tw_201 : okT 201 = true := by decide +kernel
theorem tw_229 : okT 229 = true := by decide +kernel
theorem tw_245 : okT 245 = true := by decide +kernel
theorem tw_246 : okT 246 = true := by decide +kernel
theorem tw_257 : okT 257 = true := by decide +kernel
theorem tw_258 : okT 258 = true := by decide +kernel
theorem tw_259 : okT 259 = true := by decide +kernel
theorem tw_260 : okT 260 = true := by decide +kernel
theorem tw_261 : okT 261 = true := by decide +kernel
end TWC0
