/-! a state's view behind one write -/
section STU
set_option maxRecDepth 100000
variable {u s p l t g : Nat} {j k q e w c T n tu nx v : Int} {A A' : AT} {M M' : Mem} {X : PX} {f : Nat}
theorem fr_sc {b : Int} {v : Int32} (h : s < t + 1) (h2 : t + 1 < s + 50) : FrI s M (sc M t b v) := fun b hb => by funext i; exact sc_n (by omega)
theorem ST_41 (h : STv M s A) (hj : 0 ≤ j) : STv (sc M (s + 21) j (ii v)) s (upA A 41 j v) := by
  obtain ⟨s1, ⟨tu, s2⟩, s3, ⟨nx, s4⟩, s5, s6, s7, s8, s9, s10, s11, s12, s13, s14, s15, s16, s17⟩ := h
  have k : ∀ b, b ≠ 22 → sc M (s + 21) j (ii v) (s + b) = M (s + b) := fun b hb => by funext i; exact sc_n (by omega)
  have k0 : sc M (s + 21) j (ii v) s = M s := by funext i; exact sc_n (by omega)
  have a : ∀ g, g ≠ 41 → upA A 41 j v g = A g := fun g hg => upA_f hg
  have hn1 : upA A 41 j v 0 1 = A 0 1 := by rw [a 0 (by decide)]
  have hn2 : upA A 41 j v 0 2 = A 0 2 := by rw [a 0 (by decide)]
  have hn3 : upA A 41 j v 0 3 = A 0 3 := by rw [a 0 (by decide)]
  refine ⟨by rw [k0, a 0 (by decide)]; exact s1, ⟨tu, ?_⟩, ?_, ⟨nx, ?_⟩, RW_n (RW_u s5 hj) hn3, RW_n (RW_k s6 (k 24 (by decide)) (a 42 (by decide))) hn3, RW_n (RW_k s7 (k 26 (by decide)) (a 43 (by decide))) hn3, RW_n (RW_k s8 (k 28 (by decide)) (a 45 (by decide))) hn3, RW_n (RW_k s9 (k 30 (by decide)) (a 90 (by decide))) hn3, RW_n (RW_k s10 (k 32 (by decide)) (a 46 (by decide))) hn3, RW_k s11 (k 34 (by decide)) (a 47 (by decide)), RW_k s12 (k 36 (by decide)) (a 48 (by decide)), RW_n (RW_k s13 (k 38 (by decide)) (a 49 (by decide))) hn3, RW_n (RW_k s14 (k 40 (by decide)) (a 35 (by decide))) hn1, RW_n (RW_k s15 (k 42 (by decide)) (a 32 (by decide))) hn1, RW_k s16 (k 44 (by decide)) (a 34 (by decide)), RW_n (RW_k s17 (k 46 (by decide)) (a 28 (by decide))) hn2⟩
  · rw [a 0 (by decide)]; exact RVt_k s2 (k 1 (by decide)) (k 3 (by decide)) (k 5 (by decide)) (k 7 (by decide)) (k 9 (by decide)) (k 11 (by decide)) (k 13 (by decide)) (a 20 (by decide)) (a 21 (by decide)) (a 22 (by decide)) (a 23 (by decide)) (a 24 (by decide)) (a 25 (by decide))
  · exact QV_k s3 (k 16 (by decide)) (k 18 (by decide)) (k 20 (by decide)) (a 44 (by decide)) (a 60 (by decide)) (a 61 (by decide))
  · exact LGt_k s4 (k 47 (by decide)) (k 49 (by decide)) (by rw [a 0 (by decide)]) (a 70 (by decide))
theorem ST_42 (h : STv M s A) (hj : 0 ≤ j) : STv (sc M (s + 23) j (ii v)) s (upA A 42 j v) := by
  obtain ⟨s1, ⟨tu, s2⟩, s3, ⟨nx, s4⟩, s5, s6, s7, s8, s9, s10, s11, s12, s13, s14, s15, s16, s17⟩ := h
  have k : ∀ b, b ≠ 24 → sc M (s + 23) j (ii v) (s + b) = M (s + b) := fun b hb => by funext i; exact sc_n (by omega)
  have k0 : sc M (s + 23) j (ii v) s = M s := by funext i; exact sc_n (by omega)
  have a : ∀ g, g ≠ 42 → upA A 42 j v g = A g := fun g hg => upA_f hg
  have hn1 : upA A 42 j v 0 1 = A 0 1 := by rw [a 0 (by decide)]
  have hn2 : upA A 42 j v 0 2 = A 0 2 := by rw [a 0 (by decide)]
  have hn3 : upA A 42 j v 0 3 = A 0 3 := by rw [a 0 (by decide)]
  refine ⟨by rw [k0, a 0 (by decide)]; exact s1, ⟨tu, ?_⟩, ?_, ⟨nx, ?_⟩, RW_n (RW_k s5 (k 22 (by decide)) (a 41 (by decide))) hn3, RW_n (RW_u s6 hj) hn3, RW_n (RW_k s7 (k 26 (by decide)) (a 43 (by decide))) hn3, RW_n (RW_k s8 (k 28 (by decide)) (a 45 (by decide))) hn3, RW_n (RW_k s9 (k 30 (by decide)) (a 90 (by decide))) hn3, RW_n (RW_k s10 (k 32 (by decide)) (a 46 (by decide))) hn3, RW_k s11 (k 34 (by decide)) (a 47 (by decide)), RW_k s12 (k 36 (by decide)) (a 48 (by decide)), RW_n (RW_k s13 (k 38 (by decide)) (a 49 (by decide))) hn3, RW_n (RW_k s14 (k 40 (by decide)) (a 35 (by decide))) hn1, RW_n (RW_k s15 (k 42 (by decide)) (a 32 (by decide))) hn1, RW_k s16 (k 44 (by decide)) (a 34 (by decide)), RW_n (RW_k s17 (k 46 (by decide)) (a 28 (by decide))) hn2⟩
  · rw [a 0 (by decide)]; exact RVt_k s2 (k 1 (by decide)) (k 3 (by decide)) (k 5 (by decide)) (k 7 (by decide)) (k 9 (by decide)) (k 11 (by decide)) (k 13 (by decide)) (a 20 (by decide)) (a 21 (by decide)) (a 22 (by decide)) (a 23 (by decide)) (a 24 (by decide)) (a 25 (by decide))
  · exact QV_k s3 (k 16 (by decide)) (k 18 (by decide)) (k 20 (by decide)) (a 44 (by decide)) (a 60 (by decide)) (a 61 (by decide))
  · exact LGt_k s4 (k 47 (by decide)) (k 49 (by decide)) (by rw [a 0 (by decide)]) (a 70 (by decide))
theorem ST_43 (h : STv M s A) (hj : 0 ≤ j) : STv (sc M (s + 25) j (ii v)) s (upA A 43 j v) := by
  obtain ⟨s1, ⟨tu, s2⟩, s3, ⟨nx, s4⟩, s5, s6, s7, s8, s9, s10, s11, s12, s13, s14, s15, s16, s17⟩ := h
  have k : ∀ b, b ≠ 26 → sc M (s + 25) j (ii v) (s + b) = M (s + b) := fun b hb => by funext i; exact sc_n (by omega)
  have k0 : sc M (s + 25) j (ii v) s = M s := by funext i; exact sc_n (by omega)
  have a : ∀ g, g ≠ 43 → upA A 43 j v g = A g := fun g hg => upA_f hg
  have hn1 : upA A 43 j v 0 1 = A 0 1 := by rw [a 0 (by decide)]
  have hn2 : upA A 43 j v 0 2 = A 0 2 := by rw [a 0 (by decide)]
  have hn3 : upA A 43 j v 0 3 = A 0 3 := by rw [a 0 (by decide)]
  refine ⟨by rw [k0, a 0 (by decide)]; exact s1, ⟨tu, ?_⟩, ?_, ⟨nx, ?_⟩, RW_n (RW_k s5 (k 22 (by decide)) (a 41 (by decide))) hn3, RW_n (RW_k s6 (k 24 (by decide)) (a 42 (by decide))) hn3, RW_n (RW_u s7 hj) hn3, RW_n (RW_k s8 (k 28 (by decide)) (a 45 (by decide))) hn3, RW_n (RW_k s9 (k 30 (by decide)) (a 90 (by decide))) hn3, RW_n (RW_k s10 (k 32 (by decide)) (a 46 (by decide))) hn3, RW_k s11 (k 34 (by decide)) (a 47 (by decide)), RW_k s12 (k 36 (by decide)) (a 48 (by decide)), RW_n (RW_k s13 (k 38 (by decide)) (a 49 (by decide))) hn3, RW_n (RW_k s14 (k 40 (by decide)) (a 35 (by decide))) hn1, RW_n (RW_k s15 (k 42 (by decide)) (a 32 (by decide))) hn1, RW_k s16 (k 44 (by decide)) (a 34 (by decide)), RW_n (RW_k s17 (k 46 (by decide)) (a 28 (by decide))) hn2⟩
  · rw [a 0 (by decide)]; exact RVt_k s2 (k 1 (by decide)) (k 3 (by decide)) (k 5 (by decide)) (k 7 (by decide)) (k 9 (by decide)) (k 11 (by decide)) (k 13 (by decide)) (a 20 (by decide)) (a 21 (by decide)) (a 22 (by decide)) (a 23 (by decide)) (a 24 (by decide)) (a 25 (by decide))
  · exact QV_k s3 (k 16 (by decide)) (k 18 (by decide)) (k 20 (by decide)) (a 44 (by decide)) (a 60 (by decide)) (a 61 (by decide))
  · exact LGt_k s4 (k 47 (by decide)) (k 49 (by decide)) (by rw [a 0 (by decide)]) (a 70 (by decide))
theorem ST_45 (h : STv M s A) (hj : 0 ≤ j) : STv (sc M (s + 27) j (ii v)) s (upA A 45 j v) := by
  obtain ⟨s1, ⟨tu, s2⟩, s3, ⟨nx, s4⟩, s5, s6, s7, s8, s9, s10, s11, s12, s13, s14, s15, s16, s17⟩ := h
  have k : ∀ b, b ≠ 28 → sc M (s + 27) j (ii v) (s + b) = M (s + b) := fun b hb => by funext i; exact sc_n (by omega)
  have k0 : sc M (s + 27) j (ii v) s = M s := by funext i; exact sc_n (by omega)
  have a : ∀ g, g ≠ 45 → upA A 45 j v g = A g := fun g hg => upA_f hg
  have hn1 : upA A 45 j v 0 1 = A 0 1 := by rw [a 0 (by decide)]
  have hn2 : upA A 45 j v 0 2 = A 0 2 := by rw [a 0 (by decide)]
  have hn3 : upA A 45 j v 0 3 = A 0 3 := by rw [a 0 (by decide)]
  refine ⟨by rw [k0, a 0 (by decide)]; exact s1, ⟨tu, ?_⟩, ?_, ⟨nx, ?_⟩, RW_n (RW_k s5 (k 22 (by decide)) (a 41 (by decide))) hn3, RW_n (RW_k s6 (k 24 (by decide)) (a 42 (by decide))) hn3, RW_n (RW_k s7 (k 26 (by decide)) (a 43 (by decide))) hn3, RW_n (RW_u s8 hj) hn3, RW_n (RW_k s9 (k 30 (by decide)) (a 90 (by decide))) hn3, RW_n (RW_k s10 (k 32 (by decide)) (a 46 (by decide))) hn3, RW_k s11 (k 34 (by decide)) (a 47 (by decide)), RW_k s12 (k 36 (by decide)) (a 48 (by decide)), RW_n (RW_k s13 (k 38 (by decide)) (a 49 (by decide))) hn3, RW_n (RW_k s14 (k 40 (by decide)) (a 35 (by decide))) hn1, RW_n (RW_k s15 (k 42 (by decide)) (a 32 (by decide))) hn1, RW_k s16 (k 44 (by decide)) (a 34 (by decide)), RW_n (RW_k s17 (k 46 (by decide)) (a 28 (by decide))) hn2⟩
  · rw [a 0 (by decide)]; exact RVt_k s2 (k 1 (by decide)) (k 3 (by decide)) (k 5 (by decide)) (k 7 (by decide)) (k 9 (by decide)) (k 11 (by decide)) (k 13 (by decide)) (a 20 (by decide)) (a 21 (by decide)) (a 22 (by decide)) (a 23 (by decide)) (a 24 (by decide)) (a 25 (by decide))
  · exact QV_k s3 (k 16 (by decide)) (k 18 (by decide)) (k 20 (by decide)) (a 44 (by decide)) (a 60 (by decide)) (a 61 (by decide))
  · exact LGt_k s4 (k 47 (by decide)) (k 49 (by decide)) (by rw [a 0 (by decide)]) (a 70 (by decide))
theorem ST_90 (h : STv M s A) (hj : 0 ≤ j) : STv (sc M (s + 29) j (ii v)) s (upA A 90 j v) := by
  obtain ⟨s1, ⟨tu, s2⟩, s3, ⟨nx, s4⟩, s5, s6, s7, s8, s9, s10, s11, s12, s13, s14, s15, s16, s17⟩ := h
  have k : ∀ b, b ≠ 30 → sc M (s + 29) j (ii v) (s + b) = M (s + b) := fun b hb => by funext i; exact sc_n (by omega)
  have k0 : sc M (s + 29) j (ii v) s = M s := by funext i; exact sc_n (by omega)
  have a : ∀ g, g ≠ 90 → upA A 90 j v g = A g := fun g hg => upA_f hg
  have hn1 : upA A 90 j v 0 1 = A 0 1 := by rw [a 0 (by decide)]
  have hn2 : upA A 90 j v 0 2 = A 0 2 := by rw [a 0 (by decide)]
  have hn3 : upA A 90 j v 0 3 = A 0 3 := by rw [a 0 (by decide)]
  refine ⟨by rw [k0, a 0 (by decide)]; exact s1, ⟨tu, ?_⟩, ?_, ⟨nx, ?_⟩, RW_n (RW_k s5 (k 22 (by decide)) (a 41 (by decide))) hn3, RW_n (RW_k s6 (k 24 (by decide)) (a 42 (by decide))) hn3, RW_n (RW_k s7 (k 26 (by decide)) (a 43 (by decide))) hn3, RW_n (RW_k s8 (k 28 (by decide)) (a 45 (by decide))) hn3, RW_n (RW_u s9 hj) hn3, RW_n (RW_k s10 (k 32 (by decide)) (a 46 (by decide))) hn3, RW_k s11 (k 34 (by decide)) (a 47 (by decide)), RW_k s12 (k 36 (by decide)) (a 48 (by decide)), RW_n (RW_k s13 (k 38 (by decide)) (a 49 (by decide))) hn3, RW_n (RW_k s14 (k 40 (by decide)) (a 35 (by decide))) hn1, RW_n (RW_k s15 (k 42 (by decide)) (a 32 (by decide))) hn1, RW_k s16 (k 44 (by decide)) (a 34 (by decide)), RW_n (RW_k s17 (k 46 (by decide)) (a 28 (by decide))) hn2⟩
  · rw [a 0 (by decide)]; exact RVt_k s2 (k 1 (by decide)) (k 3 (by decide)) (k 5 (by decide)) (k 7 (by decide)) (k 9 (by decide)) (k 11 (by decide)) (k 13 (by decide)) (a 20 (by decide)) (a 21 (by decide)) (a 22 (by decide)) (a 23 (by decide)) (a 24 (by decide)) (a 25 (by decide))
  · exact QV_k s3 (k 16 (by decide)) (k 18 (by decide)) (k 20 (by decide)) (a 44 (by decide)) (a 60 (by decide)) (a 61 (by decide))
  · exact LGt_k s4 (k 47 (by decide)) (k 49 (by decide)) (by rw [a 0 (by decide)]) (a 70 (by decide))
theorem ST_46 (h : STv M s A) (hj : 0 ≤ j) : STv (sc M (s + 31) j (ii v)) s (upA A 46 j v) := by
  obtain ⟨s1, ⟨tu, s2⟩, s3, ⟨nx, s4⟩, s5, s6, s7, s8, s9, s10, s11, s12, s13, s14, s15, s16, s17⟩ := h
  have k : ∀ b, b ≠ 32 → sc M (s + 31) j (ii v) (s + b) = M (s + b) := fun b hb => by funext i; exact sc_n (by omega)
  have k0 : sc M (s + 31) j (ii v) s = M s := by funext i; exact sc_n (by omega)
  have a : ∀ g, g ≠ 46 → upA A 46 j v g = A g := fun g hg => upA_f hg
  have hn1 : upA A 46 j v 0 1 = A 0 1 := by rw [a 0 (by decide)]
  have hn2 : upA A 46 j v 0 2 = A 0 2 := by rw [a 0 (by decide)]
  have hn3 : upA A 46 j v 0 3 = A 0 3 := by rw [a 0 (by decide)]
  refine ⟨by rw [k0, a 0 (by decide)]; exact s1, ⟨tu, ?_⟩, ?_, ⟨nx, ?_⟩, RW_n (RW_k s5 (k 22 (by decide)) (a 41 (by decide))) hn3, RW_n (RW_k s6 (k 24 (by decide)) (a 42 (by decide))) hn3, RW_n (RW_k s7 (k 26 (by decide)) (a 43 (by decide))) hn3, RW_n (RW_k s8 (k 28 (by decide)) (a 45 (by decide))) hn3, RW_n (RW_k s9 (k 30 (by decide)) (a 90 (by decide))) hn3, RW_n (RW_u s10 hj) hn3, RW_k s11 (k 34 (by decide)) (a 47 (by decide)), RW_k s12 (k 36 (by decide)) (a 48 (by decide)), RW_n (RW_k s13 (k 38 (by decide)) (a 49 (by decide))) hn3, RW_n (RW_k s14 (k 40 (by decide)) (a 35 (by decide))) hn1, RW_n (RW_k s15 (k 42 (by decide)) (a 32 (by decide))) hn1, RW_k s16 (k 44 (by decide)) (a 34 (by decide)), RW_n (RW_k s17 (k 46 (by decide)) (a 28 (by decide))) hn2⟩
  · rw [a 0 (by decide)]; exact RVt_k s2 (k 1 (by decide)) (k 3 (by decide)) (k 5 (by decide)) (k 7 (by decide)) (k 9 (by decide)) (k 11 (by decide)) (k 13 (by decide)) (a 20 (by decide)) (a 21 (by decide)) (a 22 (by decide)) (a 23 (by decide)) (a 24 (by decide)) (a 25 (by decide))
  · exact QV_k s3 (k 16 (by decide)) (k 18 (by decide)) (k 20 (by decide)) (a 44 (by decide)) (a 60 (by decide)) (a 61 (by decide))
  · exact LGt_k s4 (k 47 (by decide)) (k 49 (by decide)) (by rw [a 0 (by decide)]) (a 70 (by decide))
theorem ST_47 (h : STv M s A) (hj : 0 ≤ j) : STv (sc M (s + 33) j (ii v)) s (upA A 47 j v) := by
  obtain ⟨s1, ⟨tu, s2⟩, s3, ⟨nx, s4⟩, s5, s6, s7, s8, s9, s10, s11, s12, s13, s14, s15, s16, s17⟩ := h
  have k : ∀ b, b ≠ 34 → sc M (s + 33) j (ii v) (s + b) = M (s + b) := fun b hb => by funext i; exact sc_n (by omega)
  have k0 : sc M (s + 33) j (ii v) s = M s := by funext i; exact sc_n (by omega)
  have a : ∀ g, g ≠ 47 → upA A 47 j v g = A g := fun g hg => upA_f hg
  have hn1 : upA A 47 j v 0 1 = A 0 1 := by rw [a 0 (by decide)]
  have hn2 : upA A 47 j v 0 2 = A 0 2 := by rw [a 0 (by decide)]
  have hn3 : upA A 47 j v 0 3 = A 0 3 := by rw [a 0 (by decide)]
  refine ⟨by rw [k0, a 0 (by decide)]; exact s1, ⟨tu, ?_⟩, ?_, ⟨nx, ?_⟩, RW_n (RW_k s5 (k 22 (by decide)) (a 41 (by decide))) hn3, RW_n (RW_k s6 (k 24 (by decide)) (a 42 (by decide))) hn3, RW_n (RW_k s7 (k 26 (by decide)) (a 43 (by decide))) hn3, RW_n (RW_k s8 (k 28 (by decide)) (a 45 (by decide))) hn3, RW_n (RW_k s9 (k 30 (by decide)) (a 90 (by decide))) hn3, RW_n (RW_k s10 (k 32 (by decide)) (a 46 (by decide))) hn3, RW_u s11 hj, RW_k s12 (k 36 (by decide)) (a 48 (by decide)), RW_n (RW_k s13 (k 38 (by decide)) (a 49 (by decide))) hn3, RW_n (RW_k s14 (k 40 (by decide)) (a 35 (by decide))) hn1, RW_n (RW_k s15 (k 42 (by decide)) (a 32 (by decide))) hn1, RW_k s16 (k 44 (by decide)) (a 34 (by decide)), RW_n (RW_k s17 (k 46 (by decide)) (a 28 (by decide))) hn2⟩
  · rw [a 0 (by decide)]; exact RVt_k s2 (k 1 (by decide)) (k 3 (by decide)) (k 5 (by decide)) (k 7 (by decide)) (k 9 (by decide)) (k 11 (by decide)) (k 13 (by decide)) (a 20 (by decide)) (a 21 (by decide)) (a 22 (by decide)) (a 23 (by decide)) (a 24 (by decide)) (a 25 (by decide))
  · exact QV_k s3 (k 16 (by decide)) (k 18 (by decide)) (k 20 (by decide)) (a 44 (by decide)) (a 60 (by decide)) (a 61 (by decide))
  · exact LGt_k s4 (k 47 (by decide)) (k 49 (by decide)) (by rw [a 0 (by decide)]) (a 70 (by decide))
theorem ST_48 (h : STv M s A) (hj : 0 ≤ j) : STv (sc M (s + 35) j (ii v)) s (upA A 48 j v) := by
  obtain ⟨s1, ⟨tu, s2⟩, s3, ⟨nx, s4⟩, s5, s6, s7, s8, s9, s10, s11, s12, s13, s14, s15, s16, s17⟩ := h
  have k : ∀ b, b ≠ 36 → sc M (s + 35) j (ii v) (s + b) = M (s + b) := fun b hb => by funext i; exact sc_n (by omega)
  have k0 : sc M (s + 35) j (ii v) s = M s := by funext i; exact sc_n (by omega)
  have a : ∀ g, g ≠ 48 → upA A 48 j v g = A g := fun g hg => upA_f hg
  have hn1 : upA A 48 j v 0 1 = A 0 1 := by rw [a 0 (by decide)]
  have hn2 : upA A 48 j v 0 2 = A 0 2 := by rw [a 0 (by decide)]
  have hn3 : upA A 48 j v 0 3 = A 0 3 := by rw [a 0 (by decide)]
  refine ⟨by rw [k0, a 0 (by decide)]; exact s1, ⟨tu, ?_⟩, ?_, ⟨nx, ?_⟩, RW_n (RW_k s5 (k 22 (by decide)) (a 41 (by decide))) hn3, RW_n (RW_k s6 (k 24 (by decide)) (a 42 (by decide))) hn3, RW_n (RW_k s7 (k 26 (by decide)) (a 43 (by decide))) hn3, RW_n (RW_k s8 (k 28 (by decide)) (a 45 (by decide))) hn3, RW_n (RW_k s9 (k 30 (by decide)) (a 90 (by decide))) hn3, RW_n (RW_k s10 (k 32 (by decide)) (a 46 (by decide))) hn3, RW_k s11 (k 34 (by decide)) (a 47 (by decide)), RW_u s12 hj, RW_n (RW_k s13 (k 38 (by decide)) (a 49 (by decide))) hn3, RW_n (RW_k s14 (k 40 (by decide)) (a 35 (by decide))) hn1, RW_n (RW_k s15 (k 42 (by decide)) (a 32 (by decide))) hn1, RW_k s16 (k 44 (by decide)) (a 34 (by decide)), RW_n (RW_k s17 (k 46 (by decide)) (a 28 (by decide))) hn2⟩
  · rw [a 0 (by decide)]; exact RVt_k s2 (k 1 (by decide)) (k 3 (by decide)) (k 5 (by decide)) (k 7 (by decide)) (k 9 (by decide)) (k 11 (by decide)) (k 13 (by decide)) (a 20 (by decide)) (a 21 (by decide)) (a 22 (by decide)) (a 23 (by decide)) (a 24 (by decide)) (a 25 (by decide))
  · exact QV_k s3 (k 16 (by decide)) (k 18 (by decide)) (k 20 (by decide)) (a 44 (by decide)) (a 60 (by decide)) (a 61 (by decide))
  · exact LGt_k s4 (k 47 (by decide)) (k 49 (by decide)) (by rw [a 0 (by decide)]) (a 70 (by decide))
theorem ST_49 (h : STv M s A) (hj : 0 ≤ j) : STv (sc M (s + 37) j (ii v)) s (upA A 49 j v) := by
  obtain ⟨s1, ⟨tu, s2⟩, s3, ⟨nx, s4⟩, s5, s6, s7, s8, s9, s10, s11, s12, s13, s14, s15, s16, s17⟩ := h
  have k : ∀ b, b ≠ 38 → sc M (s + 37) j (ii v) (s + b) = M (s + b) := fun b hb => by funext i; exact sc_n (by omega)
  have k0 : sc M (s + 37) j (ii v) s = M s := by funext i; exact sc_n (by omega)
  have a : ∀ g, g ≠ 49 → upA A 49 j v g = A g := fun g hg => upA_f hg
  have hn1 : upA A 49 j v 0 1 = A 0 1 := by rw [a 0 (by decide)]
  have hn2 : upA A 49 j v 0 2 = A 0 2 := by rw [a 0 (by decide)]
  have hn3 : upA A 49 j v 0 3 = A 0 3 := by rw [a 0 (by decide)]
  refine ⟨by rw [k0, a 0 (by decide)]; exact s1, ⟨tu, ?_⟩, ?_, ⟨nx, ?_⟩, RW_n (RW_k s5 (k 22 (by decide)) (a 41 (by decide))) hn3, RW_n (RW_k s6 (k 24 (by decide)) (a 42 (by decide))) hn3, RW_n (RW_k s7 (k 26 (by decide)) (a 43 (by decide))) hn3, RW_n (RW_k s8 (k 28 (by decide)) (a 45 (by decide))) hn3, RW_n (RW_k s9 (k 30 (by decide)) (a 90 (by decide))) hn3, RW_n (RW_k s10 (k 32 (by decide)) (a 46 (by decide))) hn3, RW_k s11 (k 34 (by decide)) (a 47 (by decide)), RW_k s12 (k 36 (by decide)) (a 48 (by decide)), RW_n (RW_u s13 hj) hn3, RW_n (RW_k s14 (k 40 (by decide)) (a 35 (by decide))) hn1, RW_n (RW_k s15 (k 42 (by decide)) (a 32 (by decide))) hn1, RW_k s16 (k 44 (by decide)) (a 34 (by decide)), RW_n (RW_k s17 (k 46 (by decide)) (a 28 (by decide))) hn2⟩
  · rw [a 0 (by decide)]; exact RVt_k s2 (k 1 (by decide)) (k 3 (by decide)) (k 5 (by decide)) (k 7 (by decide)) (k 9 (by decide)) (k 11 (by decide)) (k 13 (by decide)) (a 20 (by decide)) (a 21 (by decide)) (a 22 (by decide)) (a 23 (by decide)) (a 24 (by decide)) (a 25 (by decide))
  · exact QV_k s3 (k 16 (by decide)) (k 18 (by decide)) (k 20 (by decide)) (a 44 (by decide)) (a 60 (by decide)) (a 61 (by decide))
  · exact LGt_k s4 (k 47 (by decide)) (k 49 (by decide)) (by rw [a 0 (by decide)]) (a 70 (by decide))
theorem ST_35 (h : STv M s A) (hj : 0 ≤ j) : STv (sc M (s + 39) j (ii v)) s (upA A 35 j v) := by
  obtain ⟨s1, ⟨tu, s2⟩, s3, ⟨nx, s4⟩, s5, s6, s7, s8, s9, s10, s11, s12, s13, s14, s15, s16, s17⟩ := h
  have k : ∀ b, b ≠ 40 → sc M (s + 39) j (ii v) (s + b) = M (s + b) := fun b hb => by funext i; exact sc_n (by omega)
  have k0 : sc M (s + 39) j (ii v) s = M s := by funext i; exact sc_n (by omega)
  have a : ∀ g, g ≠ 35 → upA A 35 j v g = A g := fun g hg => upA_f hg
  have hn1 : upA A 35 j v 0 1 = A 0 1 := by rw [a 0 (by decide)]
  have hn2 : upA A 35 j v 0 2 = A 0 2 := by rw [a 0 (by decide)]
  have hn3 : upA A 35 j v 0 3 = A 0 3 := by rw [a 0 (by decide)]
  refine ⟨by rw [k0, a 0 (by decide)]; exact s1, ⟨tu, ?_⟩, ?_, ⟨nx, ?_⟩, RW_n (RW_k s5 (k 22 (by decide)) (a 41 (by decide))) hn3, RW_n (RW_k s6 (k 24 (by decide)) (a 42 (by decide))) hn3, RW_n (RW_k s7 (k 26 (by decide)) (a 43 (by decide))) hn3, RW_n (RW_k s8 (k 28 (by decide)) (a 45 (by decide))) hn3, RW_n (RW_k s9 (k 30 (by decide)) (a 90 (by decide))) hn3, RW_n (RW_k s10 (k 32 (by decide)) (a 46 (by decide))) hn3, RW_k s11 (k 34 (by decide)) (a 47 (by decide)), RW_k s12 (k 36 (by decide)) (a 48 (by decide)), RW_n (RW_k s13 (k 38 (by decide)) (a 49 (by decide))) hn3, RW_n (RW_u s14 hj) hn1, RW_n (RW_k s15 (k 42 (by decide)) (a 32 (by decide))) hn1, RW_k s16 (k 44 (by decide)) (a 34 (by decide)), RW_n (RW_k s17 (k 46 (by decide)) (a 28 (by decide))) hn2⟩
  · rw [a 0 (by decide)]; exact RVt_k s2 (k 1 (by decide)) (k 3 (by decide)) (k 5 (by decide)) (k 7 (by decide)) (k 9 (by decide)) (k 11 (by decide)) (k 13 (by decide)) (a 20 (by decide)) (a 21 (by decide)) (a 22 (by decide)) (a 23 (by decide)) (a 24 (by decide)) (a 25 (by decide))
  · exact QV_k s3 (k 16 (by decide)) (k 18 (by decide)) (k 20 (by decide)) (a 44 (by decide)) (a 60 (by decide)) (a 61 (by decide))
  · exact LGt_k s4 (k 47 (by decide)) (k 49 (by decide)) (by rw [a 0 (by decide)]) (a 70 (by decide))
theorem ST_32 (h : STv M s A) (hj : 0 ≤ j) : STv (sc M (s + 41) j (ii v)) s (upA A 32 j v) := by
  obtain ⟨s1, ⟨tu, s2⟩, s3, ⟨nx, s4⟩, s5, s6, s7, s8, s9, s10, s11, s12, s13, s14, s15, s16, s17⟩ := h
  have k : ∀ b, b ≠ 42 → sc M (s + 41) j (ii v) (s + b) = M (s + b) := fun b hb => by funext i; exact sc_n (by omega)
  have k0 : sc M (s + 41) j (ii v) s = M s := by funext i; exact sc_n (by omega)
  have a : ∀ g, g ≠ 32 → upA A 32 j v g = A g := fun g hg => upA_f hg
  have hn1 : upA A 32 j v 0 1 = A 0 1 := by rw [a 0 (by decide)]
  have hn2 : upA A 32 j v 0 2 = A 0 2 := by rw [a 0 (by decide)]
  have hn3 : upA A 32 j v 0 3 = A 0 3 := by rw [a 0 (by decide)]
  refine ⟨by rw [k0, a 0 (by decide)]; exact s1, ⟨tu, ?_⟩, ?_, ⟨nx, ?_⟩, RW_n (RW_k s5 (k 22 (by decide)) (a 41 (by decide))) hn3, RW_n (RW_k s6 (k 24 (by decide)) (a 42 (by decide))) hn3, RW_n (RW_k s7 (k 26 (by decide)) (a 43 (by decide))) hn3, RW_n (RW_k s8 (k 28 (by decide)) (a 45 (by decide))) hn3, RW_n (RW_k s9 (k 30 (by decide)) (a 90 (by decide))) hn3, RW_n (RW_k s10 (k 32 (by decide)) (a 46 (by decide))) hn3, RW_k s11 (k 34 (by decide)) (a 47 (by decide)), RW_k s12 (k 36 (by decide)) (a 48 (by decide)), RW_n (RW_k s13 (k 38 (by decide)) (a 49 (by decide))) hn3, RW_n (RW_k s14 (k 40 (by decide)) (a 35 (by decide))) hn1, RW_n (RW_u s15 hj) hn1, RW_k s16 (k 44 (by decide)) (a 34 (by decide)), RW_n (RW_k s17 (k 46 (by decide)) (a 28 (by decide))) hn2⟩
  · rw [a 0 (by decide)]; exact RVt_k s2 (k 1 (by decide)) (k 3 (by decide)) (k 5 (by decide)) (k 7 (by decide)) (k 9 (by decide)) (k 11 (by decide)) (k 13 (by decide)) (a 20 (by decide)) (a 21 (by decide)) (a 22 (by decide)) (a 23 (by decide)) (a 24 (by decide)) (a 25 (by decide))
  · exact QV_k s3 (k 16 (by decide)) (k 18 (by decide)) (k 20 (by decide)) (a 44 (by decide)) (a 60 (by decide)) (a 61 (by decide))
  · exact LGt_k s4 (k 47 (by decide)) (k 49 (by decide)) (by rw [a 0 (by decide)]) (a 70 (by decide))
theorem ST_34 (h : STv M s A) (hj : 0 ≤ j) : STv (sc M (s + 43) j (ii v)) s (upA A 34 j v) := by
  obtain ⟨s1, ⟨tu, s2⟩, s3, ⟨nx, s4⟩, s5, s6, s7, s8, s9, s10, s11, s12, s13, s14, s15, s16, s17⟩ := h
  have k : ∀ b, b ≠ 44 → sc M (s + 43) j (ii v) (s + b) = M (s + b) := fun b hb => by funext i; exact sc_n (by omega)
  have k0 : sc M (s + 43) j (ii v) s = M s := by funext i; exact sc_n (by omega)
  have a : ∀ g, g ≠ 34 → upA A 34 j v g = A g := fun g hg => upA_f hg
  have hn1 : upA A 34 j v 0 1 = A 0 1 := by rw [a 0 (by decide)]
  have hn2 : upA A 34 j v 0 2 = A 0 2 := by rw [a 0 (by decide)]
  have hn3 : upA A 34 j v 0 3 = A 0 3 := by rw [a 0 (by decide)]
  refine ⟨by rw [k0, a 0 (by decide)]; exact s1, ⟨tu, ?_⟩, ?_, ⟨nx, ?_⟩, RW_n (RW_k s5 (k 22 (by decide)) (a 41 (by decide))) hn3, RW_n (RW_k s6 (k 24 (by decide)) (a 42 (by decide))) hn3, RW_n (RW_k s7 (k 26 (by decide)) (a 43 (by decide))) hn3, RW_n (RW_k s8 (k 28 (by decide)) (a 45 (by decide))) hn3, RW_n (RW_k s9 (k 30 (by decide)) (a 90 (by decide))) hn3, RW_n (RW_k s10 (k 32 (by decide)) (a 46 (by decide))) hn3, RW_k s11 (k 34 (by decide)) (a 47 (by decide)), RW_k s12 (k 36 (by decide)) (a 48 (by decide)), RW_n (RW_k s13 (k 38 (by decide)) (a 49 (by decide))) hn3, RW_n (RW_k s14 (k 40 (by decide)) (a 35 (by decide))) hn1, RW_n (RW_k s15 (k 42 (by decide)) (a 32 (by decide))) hn1, RW_u s16 hj, RW_n (RW_k s17 (k 46 (by decide)) (a 28 (by decide))) hn2⟩
  · rw [a 0 (by decide)]; exact RVt_k s2 (k 1 (by decide)) (k 3 (by decide)) (k 5 (by decide)) (k 7 (by decide)) (k 9 (by decide)) (k 11 (by decide)) (k 13 (by decide)) (a 20 (by decide)) (a 21 (by decide)) (a 22 (by decide)) (a 23 (by decide)) (a 24 (by decide)) (a 25 (by decide))
  · exact QV_k s3 (k 16 (by decide)) (k 18 (by decide)) (k 20 (by decide)) (a 44 (by decide)) (a 60 (by decide)) (a 61 (by decide))
  · exact LGt_k s4 (k 47 (by decide)) (k 49 (by decide)) (by rw [a 0 (by decide)]) (a 70 (by decide))
theorem ST_28 (h : STv M s A) (hj : 0 ≤ j) : STv (sc M (s + 45) j (ii v)) s (upA A 28 j v) := by
  obtain ⟨s1, ⟨tu, s2⟩, s3, ⟨nx, s4⟩, s5, s6, s7, s8, s9, s10, s11, s12, s13, s14, s15, s16, s17⟩ := h
  have k : ∀ b, b ≠ 46 → sc M (s + 45) j (ii v) (s + b) = M (s + b) := fun b hb => by funext i; exact sc_n (by omega)
  have k0 : sc M (s + 45) j (ii v) s = M s := by funext i; exact sc_n (by omega)
  have a : ∀ g, g ≠ 28 → upA A 28 j v g = A g := fun g hg => upA_f hg
  have hn1 : upA A 28 j v 0 1 = A 0 1 := by rw [a 0 (by decide)]
  have hn2 : upA A 28 j v 0 2 = A 0 2 := by rw [a 0 (by decide)]
  have hn3 : upA A 28 j v 0 3 = A 0 3 := by rw [a 0 (by decide)]
  refine ⟨by rw [k0, a 0 (by decide)]; exact s1, ⟨tu, ?_⟩, ?_, ⟨nx, ?_⟩, RW_n (RW_k s5 (k 22 (by decide)) (a 41 (by decide))) hn3, RW_n (RW_k s6 (k 24 (by decide)) (a 42 (by decide))) hn3, RW_n (RW_k s7 (k 26 (by decide)) (a 43 (by decide))) hn3, RW_n (RW_k s8 (k 28 (by decide)) (a 45 (by decide))) hn3, RW_n (RW_k s9 (k 30 (by decide)) (a 90 (by decide))) hn3, RW_n (RW_k s10 (k 32 (by decide)) (a 46 (by decide))) hn3, RW_k s11 (k 34 (by decide)) (a 47 (by decide)), RW_k s12 (k 36 (by decide)) (a 48 (by decide)), RW_n (RW_k s13 (k 38 (by decide)) (a 49 (by decide))) hn3, RW_n (RW_k s14 (k 40 (by decide)) (a 35 (by decide))) hn1, RW_n (RW_k s15 (k 42 (by decide)) (a 32 (by decide))) hn1, RW_k s16 (k 44 (by decide)) (a 34 (by decide)), RW_n (RW_u s17 hj) hn2⟩
  · rw [a 0 (by decide)]; exact RVt_k s2 (k 1 (by decide)) (k 3 (by decide)) (k 5 (by decide)) (k 7 (by decide)) (k 9 (by decide)) (k 11 (by decide)) (k 13 (by decide)) (a 20 (by decide)) (a 21 (by decide)) (a 22 (by decide)) (a 23 (by decide)) (a 24 (by decide)) (a 25 (by decide))
  · exact QV_k s3 (k 16 (by decide)) (k 18 (by decide)) (k 20 (by decide)) (a 44 (by decide)) (a 60 (by decide)) (a 61 (by decide))
  · exact LGt_k s4 (k 47 (by decide)) (k 49 (by decide)) (by rw [a 0 (by decide)]) (a 70 (by decide))
theorem ST_ring (h : STv M s A) (hr : ∃ tu', RVt M' (s + 1) (A 0 0) A' tu') (hM : ∀ b, b < s + 1 ∨ s + 13 < b → M' b = M b) (hA : ∀ f, (f < 20 ∨ 25 < f) → A' f = A f) : STv M' s A' := by
  obtain ⟨s1, ⟨tu, s2⟩, s3, ⟨nx, s4⟩, s5, s6, s7, s8, s9, s10, s11, s12, s13, s14, s15, s16, s17⟩ := h
  have k : ∀ b, (b < 1 ∨ 13 < b) → M' (s + b) = M (s + b) := fun b hb => hM _ (by omega)
  have a := hA
  have hn0 : A' 0 0 = A 0 0 := by rw [a 0 (by omega)]
  have hn1 : A' 0 1 = A 0 1 := by rw [a 0 (by omega)]
  have hn2 : A' 0 2 = A 0 2 := by rw [a 0 (by omega)]
  have hn3 : A' 0 3 = A 0 3 := by rw [a 0 (by omega)]
  have hn5 : A' 0 5 = A 0 5 := by rw [a 0 (by omega)]
  have hn8 : A' 0 8 = A 0 8 := by rw [a 0 (by omega)]
  refine ⟨by rw [hM s (by omega), hn5]; exact s1, (by rw [hn0]; exact hr), ?_, ⟨nx, ?_⟩, RW_n (RW_k s5 (k 22 (by omega)) (a 41 (by omega))) hn3, RW_n (RW_k s6 (k 24 (by omega)) (a 42 (by omega))) hn3, RW_n (RW_k s7 (k 26 (by omega)) (a 43 (by omega))) hn3, RW_n (RW_k s8 (k 28 (by omega)) (a 45 (by omega))) hn3, RW_n (RW_k s9 (k 30 (by omega)) (a 90 (by omega))) hn3, RW_n (RW_k s10 (k 32 (by omega)) (a 46 (by omega))) hn3, RW_k s11 (k 34 (by omega)) (a 47 (by omega)), RW_k s12 (k 36 (by omega)) (a 48 (by omega)), RW_n (RW_k s13 (k 38 (by omega)) (a 49 (by omega))) hn3, RW_n (RW_k s14 (k 40 (by omega)) (a 35 (by omega))) hn1, RW_n (RW_k s15 (k 42 (by omega)) (a 32 (by omega))) hn1, RW_k s16 (k 44 (by omega)) (a 34 (by omega)), RW_n (RW_k s17 (k 46 (by omega)) (a 28 (by omega))) hn2⟩
  · exact QV_k s3 (k 16 (by omega)) (k 18 (by omega)) (k 20 (by omega)) (a 44 (by omega)) (a 60 (by omega)) (a 61 (by omega))
  · exact LGt_k s4 (k 47 (by omega)) (k 49 (by omega)) hn8 (a 70 (by omega))
theorem ST_que (h : STv M s A) (hr : QV M' (s + 14) A') (hM : ∀ b, b < s + 16 ∨ s + 20 < b → M' b = M b) (hA : ∀ f, f ≠ 44 → f ≠ 60 → f ≠ 61 → A' f = A f) : STv M' s A' := by
  obtain ⟨s1, ⟨tu, s2⟩, s3, ⟨nx, s4⟩, s5, s6, s7, s8, s9, s10, s11, s12, s13, s14, s15, s16, s17⟩ := h
  have k : ∀ b, (b < 16 ∨ 20 < b) → M' (s + b) = M (s + b) := fun b hb => hM _ (by omega)
  have a : ∀ f, (f ≠ 44 ∧ f ≠ 60 ∧ f ≠ 61) → A' f = A f := fun f hf => hA f hf.1 hf.2.1 hf.2.2
  have hn0 : A' 0 0 = A 0 0 := by rw [a 0 (by omega)]
  have hn1 : A' 0 1 = A 0 1 := by rw [a 0 (by omega)]
  have hn2 : A' 0 2 = A 0 2 := by rw [a 0 (by omega)]
  have hn3 : A' 0 3 = A 0 3 := by rw [a 0 (by omega)]
  have hn5 : A' 0 5 = A 0 5 := by rw [a 0 (by omega)]
  have hn8 : A' 0 8 = A 0 8 := by rw [a 0 (by omega)]
  refine ⟨by rw [hM s (by omega), hn5]; exact s1, ⟨tu, ?_⟩, ?_, ⟨nx, ?_⟩, RW_n (RW_k s5 (k 22 (by omega)) (a 41 (by omega))) hn3, RW_n (RW_k s6 (k 24 (by omega)) (a 42 (by omega))) hn3, RW_n (RW_k s7 (k 26 (by omega)) (a 43 (by omega))) hn3, RW_n (RW_k s8 (k 28 (by omega)) (a 45 (by omega))) hn3, RW_n (RW_k s9 (k 30 (by omega)) (a 90 (by omega))) hn3, RW_n (RW_k s10 (k 32 (by omega)) (a 46 (by omega))) hn3, RW_k s11 (k 34 (by omega)) (a 47 (by omega)), RW_k s12 (k 36 (by omega)) (a 48 (by omega)), RW_n (RW_k s13 (k 38 (by omega)) (a 49 (by omega))) hn3, RW_n (RW_k s14 (k 40 (by omega)) (a 35 (by omega))) hn1, RW_n (RW_k s15 (k 42 (by omega)) (a 32 (by omega))) hn1, RW_k s16 (k 44 (by omega)) (a 34 (by omega)), RW_n (RW_k s17 (k 46 (by omega)) (a 28 (by omega))) hn2⟩
  · rw [hn0]; exact RVt_k s2 (k 1 (by omega)) (k 3 (by omega)) (k 5 (by omega)) (k 7 (by omega)) (k 9 (by omega)) (k 11 (by omega)) (k 13 (by omega)) (a 20 (by omega)) (a 21 (by omega)) (a 22 (by omega)) (a 23 (by omega)) (a 24 (by omega)) (a 25 (by omega))
  · exact hr
  · exact LGt_k s4 (k 47 (by omega)) (k 49 (by omega)) hn8 (a 70 (by omega))
theorem ST_log (h : STv M s A) (hr : ∃ nx', LGt M' (s + 47) A' nx') (hM : ∀ b, b ≠ s + 47 → b ≠ s + 49 → M' b = M b) (hA : ∀ f, f ≠ 0 → f ≠ 70 → A' f = A f) (h0 : ∀ k, k ≠ 8 → A' 0 k = A 0 k) : STv M' s A' := by
  obtain ⟨s1, ⟨tu, s2⟩, s3, ⟨nx, s4⟩, s5, s6, s7, s8, s9, s10, s11, s12, s13, s14, s15, s16, s17⟩ := h
  have k : ∀ b, (b ≠ 47 ∧ b ≠ 49) → M' (s + b) = M (s + b) := fun b hb => hM _ (by omega) (by omega)
  have a : ∀ f, (f ≠ 0 ∧ f ≠ 70) → A' f = A f := fun f hf => hA f hf.1 hf.2
  have hn0 : A' 0 0 = A 0 0 := h0 _ (by omega)
  have hn1 : A' 0 1 = A 0 1 := h0 _ (by omega)
  have hn2 : A' 0 2 = A 0 2 := h0 _ (by omega)
  have hn3 : A' 0 3 = A 0 3 := h0 _ (by omega)
  have hn5 : A' 0 5 = A 0 5 := h0 _ (by omega)
  refine ⟨by rw [hM s (by omega) (by omega), hn5]; exact s1, ⟨tu, ?_⟩, ?_, hr, RW_n (RW_k s5 (k 22 (by omega)) (a 41 (by omega))) hn3, RW_n (RW_k s6 (k 24 (by omega)) (a 42 (by omega))) hn3, RW_n (RW_k s7 (k 26 (by omega)) (a 43 (by omega))) hn3, RW_n (RW_k s8 (k 28 (by omega)) (a 45 (by omega))) hn3, RW_n (RW_k s9 (k 30 (by omega)) (a 90 (by omega))) hn3, RW_n (RW_k s10 (k 32 (by omega)) (a 46 (by omega))) hn3, RW_k s11 (k 34 (by omega)) (a 47 (by omega)), RW_k s12 (k 36 (by omega)) (a 48 (by omega)), RW_n (RW_k s13 (k 38 (by omega)) (a 49 (by omega))) hn3, RW_n (RW_k s14 (k 40 (by omega)) (a 35 (by omega))) hn1, RW_n (RW_k s15 (k 42 (by omega)) (a 32 (by omega))) hn1, RW_k s16 (k 44 (by omega)) (a 34 (by omega)), RW_n (RW_k s17 (k 46 (by omega)) (a 28 (by omega))) hn2⟩
  · rw [hn0]; exact RVt_k s2 (k 1 (by omega)) (k 3 (by omega)) (k 5 (by omega)) (k 7 (by omega)) (k 9 (by omega)) (k 11 (by omega)) (k 13 (by omega)) (a 20 (by omega)) (a 21 (by omega)) (a 22 (by omega)) (a 23 (by omega)) (a 24 (by omega)) (a 25 (by omega))
  · exact QV_k s3 (k 16 (by omega)) (k 18 (by omega)) (k 20 (by omega)) (a 44 (by omega)) (a 60 (by omega)) (a 61 (by omega))
theorem ST_abs (h : STv M s A) (hM : M' = M) (hA : ∀ f, f ≠ 0 → f ≠ 33 → A' f = A f) (h0 : ∀ k, k ≠ 6 → k ≠ 7 → A' 0 k = A 0 k) : STv M' s A' := by
  obtain ⟨s1, ⟨tu, s2⟩, s3, ⟨nx, s4⟩, s5, s6, s7, s8, s9, s10, s11, s12, s13, s14, s15, s16, s17⟩ := h
  have k : ∀ b, (b = b) → M' (s + b) = M (s + b) := fun b hb => by rw [hM]
  have a : ∀ f, (f ≠ 0 ∧ f ≠ 33) → A' f = A f := fun f hf => hA f hf.1 hf.2
  have hn0 : A' 0 0 = A 0 0 := h0 _ (by omega) (by omega)
  have hn1 : A' 0 1 = A 0 1 := h0 _ (by omega) (by omega)
  have hn2 : A' 0 2 = A 0 2 := h0 _ (by omega) (by omega)
  have hn3 : A' 0 3 = A 0 3 := h0 _ (by omega) (by omega)
  have hn5 : A' 0 5 = A 0 5 := h0 _ (by omega) (by omega)
  have hn8 : A' 0 8 = A 0 8 := h0 _ (by omega) (by omega)
  refine ⟨by rw [hM, hn5]; exact s1, ⟨tu, ?_⟩, ?_, ⟨nx, ?_⟩, RW_n (RW_k s5 (k 22 (by omega)) (a 41 (by omega))) hn3, RW_n (RW_k s6 (k 24 (by omega)) (a 42 (by omega))) hn3, RW_n (RW_k s7 (k 26 (by omega)) (a 43 (by omega))) hn3, RW_n (RW_k s8 (k 28 (by omega)) (a 45 (by omega))) hn3, RW_n (RW_k s9 (k 30 (by omega)) (a 90 (by omega))) hn3, RW_n (RW_k s10 (k 32 (by omega)) (a 46 (by omega))) hn3, RW_k s11 (k 34 (by omega)) (a 47 (by omega)), RW_k s12 (k 36 (by omega)) (a 48 (by omega)), RW_n (RW_k s13 (k 38 (by omega)) (a 49 (by omega))) hn3, RW_n (RW_k s14 (k 40 (by omega)) (a 35 (by omega))) hn1, RW_n (RW_k s15 (k 42 (by omega)) (a 32 (by omega))) hn1, RW_k s16 (k 44 (by omega)) (a 34 (by omega)), RW_n (RW_k s17 (k 46 (by omega)) (a 28 (by omega))) hn2⟩
  · rw [hn0]; exact RVt_k s2 (k 1 (by omega)) (k 3 (by omega)) (k 5 (by omega)) (k 7 (by omega)) (k 9 (by omega)) (k 11 (by omega)) (k 13 (by omega)) (a 20 (by omega)) (a 21 (by omega)) (a 22 (by omega)) (a 23 (by omega)) (a 24 (by omega)) (a 25 (by omega))
  · exact QV_k s3 (k 16 (by omega)) (k 18 (by omega)) (k 20 (by omega)) (a 44 (by omega)) (a 60 (by omega)) (a 61 (by omega))
  · exact LGt_k s4 (k 47 (by omega)) (k 49 (by omega)) hn8 (a 70 (by omega))
end STU
