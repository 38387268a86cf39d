/-! the throwing and the catching methods -/
section TWA
set_option maxRecDepth 100000
theorem okt_alll : ∀ m, m < 312 → mkM m = 1 → [137, 138, 139, 140, 141, 199, 200, 201, 229, 245, 246, 257, 258, 259, 260, 261, 262, 263, 278, 279].elem m = true := by
  have h : ((List.range 312).all fun m => !(Nat.beq (mkM m) 1) || [137, 138, 139, 140, 141, 199, 200, 201, 229, 245, 246, 257, 258, 259, 260, 261, 262, 263, 278, 279].elem m) = true := by decide +kernel
  intro m hm h1
  have h2 := List.all_eq_true.mp h m (List.mem_range.mpr hm)
  rw [h1] at h2
  exact h2
theorem okt_all : ∀ m, mkM m = 1 → okT m = true := by
  intro m hm
  have h := okt_alll m (mk_lt (by rw [hm]; decide)) hm
  have h := List.elem_iff.mp h
  simp only [List.mem_cons, List.not_mem_nil, or_false] at h
  rcases h with rfl | rfl | rfl | rfl | rfl | rfl | rfl | rfl | rfl | rfl | rfl | rfl | rfl | rfl | rfl | rfl | rfl | rfl | rfl | rfl
  · exact tw_137
  · exact tw_138
  · exact tw_139
  · exact tw_140
  · exact tw_141
  · exact tw_199
  · exact tw_200
  · exact tw_201
  · exact tw_229
  · exact tw_245
  · exact tw_246
  · exact tw_257
  · exact tw_258
  · exact tw_259
  · exact tw_260
  · exact tw_261
  · exact tw_262
  · exact tw_263
  · exact tw_278
  · exact tw_279
theorem okw_alll : ∀ m, m < 312 → mkM m = 2 → [194, 195, 196, 197, 198, 223, 224, 225, 242, 255, 256, 267, 268, 269, 270, 271, 272, 273, 280, 281].elem m = true := by
  have h : ((List.range 312).all fun m => !(Nat.beq (mkM m) 2) || [194, 195, 196, 197, 198, 223, 224, 225, 242, 255, 256, 267, 268, 269, 270, 271, 272, 273, 280, 281].elem m) = true := by decide +kernel
  intro m hm h1
  have h2 := List.all_eq_true.mp h m (List.mem_range.mpr hm)
  rw [h1] at h2
  exact h2
theorem okw_all : ∀ m, mkM m = 2 → okW m = true := by
  intro m hm
  have h := okw_alll m (mk_lt (by rw [hm]; decide)) hm
  have h := List.elem_iff.mp h
  simp only [List.mem_cons, List.not_mem_nil, or_false] at h
  rcases h with rfl | rfl | rfl | rfl | rfl | rfl | rfl | rfl | rfl | rfl | rfl | rfl | rfl | rfl | rfl | rfl | rfl | rfl | rfl | rfl
  · exact tw_194
  · exact tw_195
  · exact tw_196
  · exact tw_197
  · exact tw_198
  · exact tw_223
  · exact tw_224
  · exact tw_225
  · exact tw_242
  · exact tw_255
  · exact tw_256
  · exact tw_267
  · exact tw_268
  · exact tw_269
  · exact tw_270
  · exact tw_271
  · exact tw_272
  · exact tw_273
  · exact tw_280
  · exact tw_281
theorem cx_all {l : Launch} {G : EG} (hl : l.stackTraces = false) : ∀ m, mkM m = 1 → CONx l G m := fun m hm => con_thr hm (okt_all m hm) hl
theorem cw_all {l : Launch} {G : EG} (hl : l.stackTraces = false) : ∀ m, mkM m = 2 → CONw l G m := fun m hm => con_wr hm (okw_all m hm) (cx_all hl)
end TWA
