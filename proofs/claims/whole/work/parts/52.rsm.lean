/-! the reference: what is asked -/
section RSM
set_option maxRecDepth 100000
variable {u s p l t g : Nat} {j k q e w c T tu nx v off sh i z y n : Int} {A A' : AT} {M M' : Mem} {X : PX} {f : Nat}
theorem S117l (hr : RR M A) (hi : INV A T) (h1 : 0 ≤ j) (h2 : j < A 0 3) : ∀ (m n : Nat), (n : Int) + m = A 0 0 → ev true 117 0 4 [pR 13 819, pI (ii j), pI (ii (cnI (fun q => decide (A 25 q = j)) n)), pI (ii n)] [] M X = some (.inl (some (pI (ii (cnI (fun q => decide (A 25 q = j)) (A 0 0).toNat)))), M, X) := by
  have g := hi.1
  have t0 : rr M 0 = ii (A 0 0) := hr.1 0 (by omega) (by omega)
  intro m
  induction m with
  | zero =>
    intro n hn
    rw [q117_4, S23, kb1, q117_9, t0, ltF (by omega), show (A 0 0).toNat = n by omega]
  | succ m ih =>
    intro n hn
    obtain ⟨p0, p1, p2, p34, p5⟩ := hr.2.2.2.2.2.1 n (by omega) (by omega)
    obtain ⟨y3, y4, y5, y6, y7, y8, y9, y10⟩ := hi.2.2.2.2.2.2 n (by omega) (by omega)
    have h := ih (n + 1) (by omega)
    have e : cnI (fun q => decide (A 25 q = j)) (n + 1) = cnI (fun q => decide (A 25 q = j)) n + (if A 25 n = j then 1 else 0) := by
      show _ + (if decide (A 25 n = j) = true then 1 else 0) = _
      simp only [decide_eq_true_eq]
    rw [e, show ((n + 1 : Nat) : Int) = (n : Int) + 1 from rfl] at h
    rw [q117_4, S23, kb1, q117_9, t0, ltT (by omega), i_5, S24 (by omega), kb1, q117_19, p5, ieq (by omega)]
    by_cases c : A 25 n = j
    · rw [if_pos c] at h
      rw [if_pos c, i_1, q117_28, ii_add, i_1, ii_add, h]
    · rw [if_neg c] at h
      rw [if_neg c, i_0, q117_28, ii_add, i_1, ii_add, h]
theorem S117 (h : WR M A T) (h1 : 0 ≤ j) (h2 : j < A 0 3) : ev true 117 0 0 [pR 13 819, pI (ii j), p0, p0] [] M X = some (.inl (some (pI (ii (A 90 j)))), M, X) := by
  obtain ⟨hr, hi, hT, hh⟩ := h
  have g := hi.1
  rw [q117_0, i_0, hh j h1 h2]
  exact S117l hr hi h1 h2 (A 0 0).toNat 0 (by omega)
theorem S118 (h : WR M A T) (h1 : 0 ≤ j) (h2 : j < A 0 3) : ev true 118 0 0 [pR 13 819, pI (ii j)] [] M X = some (.inl (some (pI (ii (lateA A j)))), M, X) := by
  obtain ⟨hr, hi, hT, hh⟩ := h
  have g := hi.1
  obtain ⟨d1, d2, d3, d4, d5, d6, d7, d8, d9, d10, d11, d12, d13⟩ := hi.2.2.2.1 j h1 h2
  obtain ⟨v0, v1, v2, v3, v4, v5, v6, v7, v8, v9⟩ := hr.2.2.2.1 j h1 (by omega)
  have t5 : M 820 5 = ii (A 0 5) := hr.1 5 (by omega) (by omega)
  unfold lateA
  rw [q118_0, i_4, S25 (by omega), kb1, q118_6, v4, i_0, ieq (by omega)]
  by_cases c : A 44 j = 0
  · rw [if_pos c, if_neg (by omega : ¬ 0 < A 44 j), q118_33]
  · have hq := (hr.2.2.2.2.2.2.2.1 j 0 h1 (by omega) (Int.le_refl 0) (by omega)).2
    rw [Int.add_zero] at hq
    rw [if_neg c, if_pos (by omega : 0 < A 44 j), i_5, inR (by omega), S26, kb1, q118_29, t5, i_1, ii_add, Int.add_zero, inR (by omega), rr_i M (by omega), hq, ii_sub, q118_33]
theorem S119l (hr : RR M A) (hi : INV A T) (h1 : 0 ≤ j) (h2 : j < A 0 3) : ∀ (m n : Nat), (n : Int) + m = A 44 j → ev true 119 0 4 [pR 13 819, pI (ii j), pI (ii (smI (fun k => A 27 (A 60 (20 * j + k))) n)), pI (ii n)] [] M X = some (.inl (some (pI (ii (urgA A j)))), M, X) := by
  have g := hi.1
  obtain ⟨d1, d2, d3, d4, d5, d6, d7, d8, d9, d10, d11, d12, d13⟩ := hi.2.2.2.1 j h1 h2
  obtain ⟨v0, v1, v2, v3, v4, v5, v6, v7, v8, v9⟩ := hr.2.2.2.1 j h1 (by omega)
  intro m
  induction m with
  | zero =>
    intro n hn
    rw [q119_4, i_4, S25 (by omega), kb1, q119_11, v4, ltF (by omega)]
    unfold urgA
    rw [show (A 44 j).toNat = n by omega]
  | succ m ih =>
    intro n hn
    obtain ⟨c1, c2⟩ := d13 n (by omega) (by omega)
    obtain ⟨q0, -⟩ := hr.2.2.2.2.2.2.2.1 j n h1 (by omega) (by omega) (by omega)
    obtain ⟨-, w1, -⟩ := hr.2.2.1 (A 60 (20 * j + n)) c1 (by omega)
    rw [q119_4, i_4, S25 (by omega), kb1, q119_11, v4, ltT (by omega), S26, kb1, q119_26, inR (by omega), rr_i M (by omega), q0, i_1, S30 (by omega), kb1, w1, q119_31, ii_add, i_1, ii_add]
    exact ih (n + 1) (by omega)
theorem S119 (h : WR M A T) (h1 : 0 ≤ j) (h2 : j < A 0 3) : ev true 119 0 0 [pR 13 819, pI (ii j), p0, p0] [] M X = some (.inl (some (pI (ii (urgA A j)))), M, X) := by
  obtain ⟨hr, hi, hT, hh⟩ := h
  obtain ⟨d1, d2, d3, d4, d5, d6, d7, d8, d9, d10, d11, d12, d13⟩ := hi.2.2.2.1 j h1 h2
  rw [q119_0, i_0]
  exact S119l hr hi h1 h2 (A 44 j).toNat 0 (by omega)
def bkw (N a k : Int) : Int := if a - k < 0 then a - k + N else a - k
theorem S184l (hr : RR M A) (hi : INV A T) (h1 : 0 ≤ j) (h2 : j < A 0 3) : ∀ (m : Nat) (k : Int) (z3 : PV), k + m = A 42 j → 0 ≤ k → ev true 184 0 2 [pR 13 819, pI (ii j), pI (ii (k + 1)), z3] [] M X = some (.inl (some (pI (ii (neaA A (bkw (A 0 0) (A 40 j) k) m)))), M, X) := by
  obtain ⟨g1, g2, g⟩ := hi.1
  obtain ⟨d1, d2, d3, d4, d5, d6, d7, d8, d9, d10, d11, d12, d13⟩ := hi.2.2.2.1 j h1 h2
  obtain ⟨v0, v1, v2, v3, v4, v5, v6, v7, v8, v9⟩ := hr.2.2.2.1 j h1 (by omega)
  have t0 : rr M 0 = ii (A 0 0) := hr.1 0 (by omega) (by omega)
  intro m
  induction m with
  | zero =>
    intro k z3 a1 a2
    rw [q184_2, i_2, S25 (by omega), kb1, q184_9, v2, ltT (by omega), ii_m1]
    rfl
  | succ m ih =>
    intro k z3 a1 a2
    have e1 : bkw (A 0 0) (A 40 j) (k + 1) = prv (A 0 0) (bkw (A 0 0) (A 40 j) k) := by
      unfold bkw prv
      split <;> split <;> split <;> omega
    have e2 : 0 ≤ bkw (A 0 0) (A 40 j) (k + 1) ∧ bkw (A 0 0) (A 40 j) (k + 1) < A 0 0 := by
      unfold bkw
      split <;> omega
    have e3 : (A 40 j - (k + 1) + A 0 0) % A 0 0 = bkw (A 0 0) (A 40 j) (k + 1) := by
      unfold bkw
      by_cases c : A 40 j - (k + 1) < 0
      · rw [if_pos c, Int.emod_eq_of_lt (by omega) (by omega)]
      · rw [if_neg c, Int.add_emod_right, Int.emod_eq_of_lt (by omega) (by omega)]
    rw [q184_2, i_2, S25 (by omega), kb1, q184_9, v2, ltF (by omega), i_0, S25 (by omega), kb1, q184_18, v0, ii_sub, S23, kb1, q184_24, t0, ii_add, S23, kb1, q184_29, t0, i_0, eqF (by omega), ii_div (by omega) (by omega) (by omega) (by omega), ii_mul, ii_sub, show A 40 j - (k + 1) + A 0 0 - (A 40 j - (k + 1) + A 0 0) / A 0 0 * A 0 0 = (A 40 j - (k + 1) + A 0 0) % A 0 0 by rw [Int.mul_comm, Int.emod_def], e3, S125 hr hi e2.1 e2.2, kb1, q184_36, i_0, bIT]
    unfold neaA
    rw [← e1]
    by_cases c : A 20 (bkw (A 0 0) (A 40 j) (k + 1)) = -1 ∧ A 25 (bkw (A 0 0) (A 40 j) (k + 1)) = -1
    · rw [decide_eq_true c, cond_true, if_pos c]
    · rw [decide_eq_false c, cond_false, if_neg c, i_1, ii_add, ih (k + 1) _ (by omega) (by omega)]
theorem S184 (h : WR M A T) (h1 : 0 ≤ j) (h2 : j < A 0 3) : ev true 184 0 0 [pR 13 819, pI (ii j), p0, p0] [] M X = some (.inl (some (pI (ii (nearA A j)))), M, X) := by
  obtain ⟨hr, hi, hT, hh⟩ := h
  obtain ⟨d1, d2, d3, d4, d5, d6, d7, d8, d9, d10, d11, d12, d13⟩ := hi.2.2.2.1 j h1 h2
  have e : bkw (A 0 0) (A 40 j) 0 = A 40 j := by unfold bkw; rw [if_neg (by omega), Int.sub_zero]
  have := S184l (X := X) hr hi h1 h2 (A 42 j).toNat 0 p0 (by omega) (by omega)
  rw [e, Int.zero_add] at this
  rw [q184_0, i_1, this]
  rfl
theorem S215 (h : WR M A T) (h1 : 0 ≤ j) (h2 : j < A 0 3) : ev true 215 0 0 [pR 13 819, pI (ii j)] [] M X = some (.inl (some (pI (bI (decide (gapA A j ≠ -1))))), M, X) := by
  have hw := h
  obtain ⟨hr, hi, hT, hh⟩ := h
  have hg := hi.1
  have hh1 := hh.in hi h1 h2
  have gi := gap_in hi h1 h2
  obtain ⟨d1, d2, d3, d4, d5, d6, d7, d8, d9, d10, d11, d12, d13⟩ := hi.2.2.2.1 j h1 h2
  obtain ⟨v0, v1, v2, v3, v4, v5, v6, v7, v8, v9⟩ := hr.2.2.2.1 j h1 (by omega)
  unfold gapA at gi ⊢
  rw [q215_0, i_4, S25 (by omega), kb1, q215_6, S117 hw h1 h2, kb1, q215_11, v4, ilt (by omega)]
  by_cases c : A 90 j < A 44 j
  · rw [if_pos c] at gi ⊢
    rw [if_pos c, S184 hw h1 h2, kb1, q215_19, ii_m1, ieq (by omega)]
    by_cases c2 : nearA A j = -1
    · rw [if_pos c2, q215_27, i_0, q215_28, rk0, decide_eq_false (fun z => z c2)]; rfl
    · rw [if_neg c2, i_1, q215_28, rk1, decide_eq_true c2]; rfl
  · rw [if_neg c, if_neg c, q215_27, i_0, q215_28, rk0, decide_eq_false (fun z => z rfl)]; rfl
end RSM
