/-! the throwing and the catching methods, by count -/
section TWC2
set_option maxRecDepth 100000
theorem tw_268 : okW 268 = true := by decide +kernel
theorem tw_269 : okW 269 = true := by decide +kernel
theorem tw_270 : okW 270 = true := by decide +kernel
theorem tw_271 : okW 271 = true := by decide +kernel
theorem tw_272 : okW 272 = true := by decide +kernel
theorem tw_273 : okW 273 = true := by decide +kernel
theorem tw_280 : okW 280 = true := by decide +kernel
theorem tw_281 : okW 281 = true := by decide +kernel
end TWC2
