/-! all ordinary methods -/
theorem ok_all : ∀ m, m < 312 → okM m = true := by
  intro m hm
  have key : ∀ a b, (((List.range b).all fun i => okM (a + i)) = true) → a ≤ m → m < a + b → okM m = true := fun a b h h1 h2 => by
    have h3 := List.all_eq_true.mp h (m - a) (List.mem_range.mpr (by omega))
    rw [show a + (m - a) = m by omega] at h3
    exact h3
  rcases Nat.lt_or_ge m 4 with h | h
  · exact key _ _ mc_0 (by omega) (by omega)
  rcases Nat.lt_or_ge m 8 with h | h
  · exact key _ _ mc_4 (by omega) (by omega)
  rcases Nat.lt_or_ge m 12 with h | h
  · exact key _ _ mc_8 (by omega) (by omega)
  rcases Nat.lt_or_ge m 16 with h | h
  · exact key _ _ mc_12 (by omega) (by omega)
  rcases Nat.lt_or_ge m 20 with h | h
  · exact key _ _ mc_16 (by omega) (by omega)
  rcases Nat.lt_or_ge m 24 with h | h
  · exact key _ _ mc_20 (by omega) (by omega)
  rcases Nat.lt_or_ge m 28 with h | h
  · exact key _ _ mc_24 (by omega) (by omega)
  rcases Nat.lt_or_ge m 32 with h | h
  · exact key _ _ mc_28 (by omega) (by omega)
  rcases Nat.lt_or_ge m 36 with h | h
  · exact key _ _ mc_32 (by omega) (by omega)
  rcases Nat.lt_or_ge m 40 with h | h
  · exact key _ _ mc_36 (by omega) (by omega)
  rcases Nat.lt_or_ge m 44 with h | h
  · exact key _ _ mc_40 (by omega) (by omega)
  rcases Nat.lt_or_ge m 48 with h | h
  · exact key _ _ mc_44 (by omega) (by omega)
  rcases Nat.lt_or_ge m 52 with h | h
  · exact key _ _ mc_48 (by omega) (by omega)
  rcases Nat.lt_or_ge m 56 with h | h
  · exact key _ _ mc_52 (by omega) (by omega)
  rcases Nat.lt_or_ge m 60 with h | h
  · exact key _ _ mc_56 (by omega) (by omega)
  rcases Nat.lt_or_ge m 64 with h | h
  · exact key _ _ mc_60 (by omega) (by omega)
  rcases Nat.lt_or_ge m 68 with h | h
  · exact key _ _ mc_64 (by omega) (by omega)
  rcases Nat.lt_or_ge m 72 with h | h
  · exact key _ _ mc_68 (by omega) (by omega)
  rcases Nat.lt_or_ge m 76 with h | h
  · exact key _ _ mc_72 (by omega) (by omega)
  rcases Nat.lt_or_ge m 80 with h | h
  · exact key _ _ mc_76 (by omega) (by omega)
  rcases Nat.lt_or_ge m 84 with h | h
  · exact key _ _ mc_80 (by omega) (by omega)
  rcases Nat.lt_or_ge m 88 with h | h
  · exact key _ _ mc_84 (by omega) (by omega)
  rcases Nat.lt_or_ge m 92 with h | h
  · exact key _ _ mc_88 (by omega) (by omega)
  rcases Nat.lt_or_ge m 96 with h | h
  · exact key _ _ mc_92 (by omega) (by omega)
  rcases Nat.lt_or_ge m 100 with h | h
  · exact key _ _ mc_96 (by omega) (by omega)
  rcases Nat.lt_or_ge m 104 with h | h
  · exact key _ _ mc_100 (by omega) (by omega)
  rcases Nat.lt_or_ge m 108 with h | h
  · exact key _ _ mc_104 (by omega) (by omega)
  rcases Nat.lt_or_ge m 112 with h | h
  · exact key _ _ mc_108 (by omega) (by omega)
  rcases Nat.lt_or_ge m 116 with h | h
  · exact key _ _ mc_112 (by omega) (by omega)
  rcases Nat.lt_or_ge m 120 with h | h
  · exact key _ _ mc_116 (by omega) (by omega)
  rcases Nat.lt_or_ge m 124 with h | h
  · exact key _ _ mc_120 (by omega) (by omega)
  rcases Nat.lt_or_ge m 128 with h | h
  · exact key _ _ mc_124 (by omega) (by omega)
  rcases Nat.lt_or_ge m 132 with h | h
  · exact key _ _ mc_128 (by omega) (by omega)
  rcases Nat.lt_or_ge m 136 with h | h
  · exact key _ _ mc_132 (by omega) (by omega)
  rcases Nat.lt_or_ge m 140 with h | h
  · exact key _ _ mc_136 (by omega) (by omega)
  rcases Nat.lt_or_ge m 144 with h | h
  · exact key _ _ mc_140 (by omega) (by omega)
  rcases Nat.lt_or_ge m 148 with h | h
  · exact key _ _ mc_144 (by omega) (by omega)
  rcases Nat.lt_or_ge m 152 with h | h
  · exact key _ _ mc_148 (by omega) (by omega)
  rcases Nat.lt_or_ge m 156 with h | h
  · exact key _ _ mc_152 (by omega) (by omega)
  rcases Nat.lt_or_ge m 160 with h | h
  · exact key _ _ mc_156 (by omega) (by omega)
  rcases Nat.lt_or_ge m 164 with h | h
  · exact key _ _ mc_160 (by omega) (by omega)
  rcases Nat.lt_or_ge m 168 with h | h
  · exact key _ _ mc_164 (by omega) (by omega)
  rcases Nat.lt_or_ge m 172 with h | h
  · exact key _ _ mc_168 (by omega) (by omega)
  rcases Nat.lt_or_ge m 176 with h | h
  · exact key _ _ mc_172 (by omega) (by omega)
  rcases Nat.lt_or_ge m 180 with h | h
  · exact key _ _ mc_176 (by omega) (by omega)
  rcases Nat.lt_or_ge m 184 with h | h
  · exact key _ _ mc_180 (by omega) (by omega)
  rcases Nat.lt_or_ge m 188 with h | h
  · exact key _ _ mc_184 (by omega) (by omega)
  rcases Nat.lt_or_ge m 192 with h | h
  · exact key _ _ mc_188 (by omega) (by omega)
  rcases Nat.lt_or_ge m 196 with h | h
  · exact key _ _ mc_192 (by omega) (by omega)
  rcases Nat.lt_or_ge m 200 with h | h
  · exact key _ _ mc_196 (by omega) (by omega)
  rcases Nat.lt_or_ge m 204 with h | h
  · exact key _ _ mc_200 (by omega) (by omega)
  rcases Nat.lt_or_ge m 208 with h | h
  · exact key _ _ mc_204 (by omega) (by omega)
  rcases Nat.lt_or_ge m 212 with h | h
  · exact key _ _ mc_208 (by omega) (by omega)
  rcases Nat.lt_or_ge m 216 with h | h
  · exact key _ _ mc_212 (by omega) (by omega)
  rcases Nat.lt_or_ge m 220 with h | h
  · exact key _ _ mc_216 (by omega) (by omega)
  rcases Nat.lt_or_ge m 224 with h | h
  · exact key _ _ mc_220 (by omega) (by omega)
  rcases Nat.lt_or_ge m 228 with h | h
  · exact key _ _ mc_224 (by omega) (by omega)
  rcases Nat.lt_or_ge m 232 with h | h
  · exact key _ _ mc_228 (by omega) (by omega)
  rcases Nat.lt_or_ge m 236 with h | h
  · exact key _ _ mc_232 (by omega) (by omega)
  rcases Nat.lt_or_ge m 240 with h | h
  · exact key _ _ mc_236 (by omega) (by omega)
  rcases Nat.lt_or_ge m 244 with h | h
  · exact key _ _ mc_240 (by omega) (by omega)
  rcases Nat.lt_or_ge m 248 with h | h
  · exact key _ _ mc_244 (by omega) (by omega)
  rcases Nat.lt_or_ge m 252 with h | h
  · exact key _ _ mc_248 (by omega) (by omega)
  rcases Nat.lt_or_ge m 256 with h | h
  · exact key _ _ mc_252 (by omega) (by omega)
  rcases Nat.lt_or_ge m 260 with h | h
  · exact key _ _ mc_256 (by omega) (by omega)
  rcases Nat.lt_or_ge m 264 with h | h
  · exact key _ _ mc_260 (by omega) (by omega)
  rcases Nat.lt_or_ge m 268 with h | h
  · exact key _ _ mc_264 (by omega) (by omega)
  rcases Nat.lt_or_ge m 272 with h | h
  · exact key _ _ mc_268 (by omega) (by omega)
  rcases Nat.lt_or_ge m 276 with h | h
  · exact key _ _ mc_272 (by omega) (by omega)
  rcases Nat.lt_or_ge m 280 with h | h
  · exact key _ _ mc_276 (by omega) (by omega)
  rcases Nat.lt_or_ge m 284 with h | h
  · exact key _ _ mc_280 (by omega) (by omega)
  rcases Nat.lt_or_ge m 288 with h | h
  · exact key _ _ mc_284 (by omega) (by omega)
  rcases Nat.lt_or_ge m 292 with h | h
  · exact key _ _ mc_288 (by omega) (by omega)
  rcases Nat.lt_or_ge m 296 with h | h
  · exact key _ _ mc_292 (by omega) (by omega)
  rcases Nat.lt_or_ge m 300 with h | h
  · exact key _ _ mc_296 (by omega) (by omega)
  rcases Nat.lt_or_ge m 304 with h | h
  · exact key _ _ mc_300 (by omega) (by omega)
  rcases Nat.lt_or_ge m 308 with h | h
  · exact key _ _ mc_304 (by omega) (by omega)
  rcases Nat.lt_or_ge m 312 with h | h
  · exact key _ _ mc_308 (by omega) (by omega)
  omega
