/-! the throwing and the catching methods, by count -/
section TWC1
set_option maxRecDepth 100000
theorem tw_262 : okT 262 = true := by decide +kernel
theorem tw_263 : okT 263 = true := by decide +kernel
theorem tw_278 : okT 278 = true := by decide +kernel
theorem tw_279 : okT 279 = true := by decide +kernel
theorem tw_194 : okW 194 = true := by decide +kernel
theorem tw_195 : okW 195 = true := by decide +kernel
theorem tw_196 : okW 196 = true := by decide +kernel
theorem tw_197 : okW 197 = true := by decide +kernel
theorem tw_198 : okW 198 = true := by decide +kernel
theorem tw_223 : okW 223 = true := by decide +kernel
theorem tw_224 : okW 224 = true := by decide +kernel
theorem tw_225 : okW 225 = true := by decide +kernel
theorem tw_242 : okW 242 = true := by decide +kernel
theorem tw_255 : okW 255 = true := by decide +kernel
theorem tw_256 : okW 256 = true := by decide +kernel
theorem tw_267 : okW 267 = true := by decide +kernel
end TWC1
