/-! a side is silenced -/
section SIL
set_option maxRecDepth 100000
variable {u s p l t g n : Nat} {j k q e w c T tu nx v off sh i z y N m x a d : Int} {A A' : AT} {M M' : Mem} {X : PX} {f : Nat}
theorem ST_17 {v : Int32} (h : STv M s A) : STv (upM M s 17 v) s A := by
  obtain ⟨s1, s2, s3, s4, s5, s6, s7, s8, s9, s10, s11, s12, s13, s14, s15, s16, s17⟩ := h
  have hb : ∀ b, b ≠ s → upM M s 17 v b = M b := fun b hb => by funext y; exact up_n hb
  refine ⟨by rw [up_d (by decide)]; exact s1, ?_, ?_, ?_, ?_, ?_, ?_, ?_, ?_, ?_, ?_, ?_, ?_, ?_, ?_, ?_, ?_⟩
  · obtain ⟨tu, h⟩ := s2
    refine ⟨tu, ?_⟩
    unfold RVt cl at h ⊢
    simp (disch := omega) only [hb]
    exact h
  · unfold QV cl at s3 ⊢
    simp (disch := omega) only [hb]
    exact s3
  · obtain ⟨nx, h⟩ := s4
    refine ⟨nx, ?_⟩
    unfold LGt cl at h ⊢
    simp (disch := omega) only [hb]
    exact h
  all_goals
    unfold RW cl
    simp (disch := omega) only [hb]
    assumption
theorem sil_INV (hi : INV A T) : INV (upA A 44 j 0) T := by
  obtain ⟨g, x, wx, sx, z, cx, px⟩ := hi
  unfold INV
  simp (disch := omega) only [upA_f, upA_s]
  refine ⟨g, x, wx, fun y y1 y2 => ?_, fun y y1 y2 => ?_, cx, px⟩
  · obtain ⟨b1, b2, b3, b4, b5, b6, b7, b8, b9, b10, b11, b12, b13⟩ := sx y y1 y2
    by_cases hy : y = j
    · simp only [if_pos hy]
      exact ⟨b1, b2, b3, b4, b5, b6, b7, b8, by omega, by omega, b11, b12, fun k k1 k2 => by omega⟩
    · simp only [if_neg hy]
      exact ⟨b1, b2, b3, b4, b5, b6, b7, b8, b9, b10, b11, b12, b13⟩
  · split
    · rfl
    · exact z y y1 y2
theorem sil_SP : SP A (upA A 44 j 0) := by
  refine ⟨?_, ?_, ?_, ?_, ?_, ?_, ?_, ?_, ?_, ?_, ?_, ?_, ?_, ?_, ?_, ?_, ?_⟩ <;> rw [upA_f (by decide)]
theorem S72 (h : WT M p s A T) (h1 : 0 ≤ j) (h2 : j < 6) : ∃ M', ev true 72 0 0 [pR 6 s, pI (ii j)] [] M X = some (.inl none, M', X) ∧ WT M' p s (upA A 44 j 0) T ∧ M' s 17 = ii j ∧ ∀ b, b < s ∨ s + 50 ≤ b → M' b = M b := by
  obtain ⟨⟨hp, hpl, hs, hl, hi, hT, hd⟩, hh, hw⟩ := h
  have l19 : rl (s + 19) = 6 := hl.2.2.2.1
  have hs1 := ST_17 (v := ii j) hs
  have hq : QV (sc (upM M s 17 (ii j)) (s + 19) j (ii 0)) (s + 14) (upA A 44 j 0) := by
    intro y y1 y2
    obtain ⟨q1, q2, q3, q4⟩ := hs1.2.2.1 y y1 y2
    rw [upA_s]
    by_cases hy : y = j
    · subst hy
      rw [if_pos rfl]
      refine ⟨by omega, by omega, ?_, fun k k1 k2 => by omega⟩
      show cl _ (s + 19) y = _
      rw [cl_sc (by omega) (by omega), if_pos rfl]
    · rw [if_neg hy]
      refine ⟨q1, q2, ?_, fun k k1 k2 => ?_⟩
      · show cl _ (s + 19) y = _
        rw [cl_sc (by omega) (by omega), if_neg hy]
        exact q3
      · rw [upA_n (by decide), upA_n (by decide), cl_sn (by omega), cl_sn (by omega)]
        exact q4 k k1 k2
  have hs2 : STv (sc (upM M s 17 (ii j)) (s + 19) j (ii 0)) s (upA A 44 j 0) := ST_que hs1 hq (fun b hb => by funext y; exact sc_n (by omega)) (fun f f1 _ _ => upA_f f1)
  have fr : ∀ b, b < s ∨ s + 50 ≤ b → sc (upM M s 17 (ii j)) (s + 19) j (ii 0) b = M b := fun b hb => by funext y; rw [sc_n (by omega)]; exact up_n (by omega)
  refine ⟨_, by rw [q72_0, i_0, S11 h1 (by omega), kb0, q72_17], ⟨⟨PLv_k hp (fun b b1 b2 _ _ => fr b (by omega)) sil_SP, hpl, hs2, hl, sil_INV hi, hT, hd⟩, ?_, hw.sp sil_SP⟩, ?_, fr⟩
  · exact hh.mv (by rw [upA_f (by decide)]) (by rw [upA_f (by decide)]) (upA_f (by decide)) (upA_f (by decide))
  · rw [sc_n (by omega), up_s, if_pos rfl]
end SIL
