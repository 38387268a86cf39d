/-! belts that are alike -/
section ISR
set_option maxRecDepth 100000
variable {u s p v l t g n : Nat} {j k q e w c T tu tv nx off sh i z y N : Int} {A B A' : AT} {M M' : Mem} {X : PX} {f : Nat}
def rgE (A B : AT) (q : Int) : Prop := A 20 q = B 20 q ∧ A 21 q = B 21 q ∧ A 25 q = B 25 q
theorem S90l (h : RVt M g N A tu) (h' : RVt M u N B tv) (hl : RgL g) (hu : RgL u) (hb : ∀ q, 0 ≤ q → q < N → -1 ≤ A 20 q ∧ A 20 q < 100 ∧ -1 ≤ A 21 q ∧ A 21 q < 100 ∧ -1 ≤ A 25 q ∧ A 25 q < 100) (hb' : ∀ q, 0 ≤ q → q < N → -1 ≤ B 20 q ∧ B 20 q < 100 ∧ -1 ≤ B 21 q ∧ B 21 q < 100 ∧ -1 ≤ B 25 q ∧ B 25 q < 100) : ∀ (m : Nat) (q : Int) (z3 z4 : PV), q + m = N → 0 ≤ q → ∃ r : Bool, ev true 90 0 2 [pR 9 g, pR 9 u, pI (ii q), z3, z4] [] M X = some (.inl (some (pI (bI r))), M, X) ∧ (r = true ↔ ∀ y, q ≤ y → y < N → rgE A B y) := by
  have hh := h
  have hh' := h'
  obtain ⟨a1, a2, a3, a4, a5, a6⟩ := h
  obtain ⟨b1, b2, b3, b4, b5, b6⟩ := h'
  obtain ⟨l1, l3, -, -, -, l11⟩ := hl
  obtain ⟨u1, u3, -, -, -, u11⟩ := hu
  intro m
  induction m with
  | zero =>
    intro q z3 z4 h1 h2
    refine ⟨true, ?_, fun _ y c d => by omega, fun _ => rfl⟩
    rw [q90_2, a5, ltF (by omega), i_1, rk1]
    rfl
  | succ m ih =>
    intro q z3 z4 h1 h2
    obtain ⟨c1, c2⟩ := cR_in a1 a2 h2 (by omega : q < N)
    obtain ⟨d1, d2⟩ := cR_in b1 b2 h2 (by omega : q < N)
    obtain ⟨e1, e2, e3, e4, e5⟩ := a6 q h2 (by omega)
    obtain ⟨f1, f2, f3, f4, f5⟩ := b6 q h2 (by omega)
    obtain ⟨x1, x2, x3, x4, x5, x6⟩ := hb q h2 (by omega)
    obtain ⟨y1, y2, y3, y4, y5, y6⟩ := hb' q h2 (by omega)
    rw [q90_2, a5, ltT (by omega), S16 hh h2 (by omega), kb1, q90_15, S16 hh' h2 (by omega), kb1, q90_21, S12 c1 (by omega), kb1, q90_31, S12 d1 (by omega), kb1, q90_40, e1, f1, ieq (by omega)]
    by_cases k1 : A 20 q = B 20 q
    · rw [if_pos k1, S12 c1 (by omega), kb1, q90_51, S12 d1 (by omega), kb1, q90_60, e2, f2, ieq (by omega)]
      by_cases k2 : A 21 q = B 21 q
      · rw [if_pos k2, S12 c1 (by omega), kb1, q90_71, S12 d1 (by omega), kb1, q90_80, e5, f5, ieq (by omega)]
        by_cases k3 : A 25 q = B 25 q
        · obtain ⟨r, r1, r2⟩ := ih (q + 1) (pI (ii (cR N tu q))) (pI (ii (cR N tv q))) (by omega) (by omega)
          refine ⟨r, by rw [if_pos k3, i_1, ii_add, r1], r2.trans ⟨fun hy y c d => ?_, fun hy y c d => hy y (by omega) d⟩⟩
          rcases Int.lt_or_le q y with e | e
          · exact hy y (by omega) d
          · rw [show y = q by omega]; exact ⟨k1, k2, k3⟩
        · refine ⟨false, ?_, fun z => absurd z (by decide), fun hy => absurd (hy q (Int.le_refl _) (by omega)).2.2 k3⟩
          rw [if_neg k3, q90_83, i_0, rk0]; rfl
      · refine ⟨false, ?_, fun z => absurd z (by decide), fun hy => absurd (hy q (Int.le_refl _) (by omega)).2.1 k2⟩
        rw [if_neg k2, q90_83, i_0, rk0]; rfl
    · refine ⟨false, ?_, fun z => absurd z (by decide), fun hy => absurd (hy q (Int.le_refl _) (by omega)).1 k1⟩
      rw [if_neg k1, q90_83, i_0, rk0]; rfl
def quE (A B : AT) (j : Int) : Prop := A 44 j = B 44 j ∧ ∀ k, 0 ≤ k → k < A 44 j → A 60 (20 * j + k) = B 60 (20 * j + k)
theorem S167 (h : QV M g A) (h' : QV M u B) (hl : QuL g) (hu : QuL u) (h1 : 0 ≤ j) (h2 : j < 6) (hb : ∀ k, 0 ≤ k → k < A 44 j → 0 ≤ A 60 (20 * j + k) ∧ A 60 (20 * j + k) < 100) (hb' : ∀ k, 0 ≤ k → k < B 44 j → 0 ≤ B 60 (20 * j + k) ∧ B 60 (20 * j + k) < 100) : ∃ r : Bool, ev true 167 0 0 [pR 10 g, pR 10 u, pI (ii j), p0] [] M X = some (.inl (some (pI (bI r))), M, X) ∧ (r = true ↔ quE A B j) := by
  obtain ⟨a1, a2, a3, a4⟩ := h j h1 h2
  obtain ⟨b1, b2, b3, b4⟩ := h' j h1 h2
  have l5 := hl.2.2
  have u5 := hu.2.2
  rw [q167_0, S12 h1 (by omega), kb1, q167_8, S12 h1 (by omega), kb1, q167_16, a3, b3, ieq (by omega)]
  by_cases c : A 44 j = B 44 j
  · rw [if_pos c, i_0]
    have lp : ∀ (m : Nat) (k : Int), k + m = A 44 j → 0 ≤ k → ∃ r : Bool, ev true 167 0 23 [pR 10 g, pR 10 u, pI (ii j), pI (ii k)] [] M X = some (.inl (some (pI (bI r))), M, X) ∧ (r = true ↔ ∀ y, k ≤ y → y < A 44 j → A 60 (20 * j + y) = B 60 (20 * j + y)) := by
      intro m
      induction m with
      | zero =>
        intro k h3 h4
        refine ⟨true, ?_, fun _ y c d => by omega, fun _ => rfl⟩
        rw [q167_23, S12 h1 (by omega), kb1, q167_32, a3, ltF (by omega), i_1, rk1]
        rfl
      | succ m ih =>
        intro k h3 h4
        obtain ⟨x1, x2⟩ := hb k h4 (by omega)
        obtain ⟨y1, y2⟩ := hb' k h4 (by omega)
        rw [q167_23, S12 h1 (by omega), kb1, q167_32, a3, ltT (by omega), S93 h hl h1 h2 h4 (by omega), kb1, q167_41, S93 h' hu h1 h2 h4 (by omega), kb1, q167_47, ieq (by omega)]
        by_cases d : A 60 (20 * j + k) = B 60 (20 * j + k)
        · obtain ⟨r, r1, r2⟩ := ih (k + 1) (by omega) (by omega)
          refine ⟨r, by rw [if_pos d, i_1, ii_add, r1], r2.trans ⟨fun hy y c d9 => ?_, fun hy y c d9 => hy y (by omega) d9⟩⟩
          rcases Int.lt_or_le k y with e | e
          · exact hy y (by omega) d9
          · rw [show y = k by omega]; exact d
        · refine ⟨false, ?_, fun z => absurd z (by decide), fun hy => absurd (hy k (Int.le_refl _) (by omega)) d⟩
          rw [if_neg d, i_0, rk0]; rfl
    obtain ⟨r, r1, r2⟩ := lp (A 44 j).toNat 0 (by omega) (by omega)
    exact ⟨r, r1, r2.trans ⟨fun h => ⟨c, h⟩, fun h => h.2⟩⟩
  · refine ⟨false, ?_, fun z => absurd z (by decide), fun hy => absurd hy.1 c⟩
    rw [if_neg c, i_0, rk0]; rfl
end ISR
