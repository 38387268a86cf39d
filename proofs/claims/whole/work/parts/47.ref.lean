/-! the reference's row, in numbers -/
section REF
set_option maxRecDepth 100000
variable {u s p l t g : Nat} {j k q e w c T tu nx v off sh i z y : Int} {A A' : AT} {M M' : Mem} {X : PX} {f : Nat}
def rr (M : Mem) (z : Int) : Int32 := M 820 z.toNat
def sr (M : Mem) (z : Int) (v : Int32) : Mem := upM M 820 z.toNat v
theorem rr_sr {v : Int32} (h1 : 0 ≤ z) (h2 : 0 ≤ y) : rr (sr M z v) y = if y = z then v else rr M y := by
  unfold rr sr upM
  by_cases h : y = z
  · subst h; simp
  · rw [if_neg (by omega), if_neg h]
theorem sr_n {v : Int32} {b : Nat} (h : b ≠ 820) : sr M z v b = M b := by
  funext i
  unfold sr upM
  rw [if_neg (by omega)]
theorem rr_at (h : M' 820 = M 820) : rr M' z = rr M z := by unfold rr; rw [h]
theorem rr_un {a k : Nat} {v : Int32} (h : 820 ≠ a) : rr (upM M a k v) z = rr M z := by
  unfold rr upM
  rw [if_neg (by omega)]
theorem ln820 : ln 820 = 1434 := by decide +kernel
theorem inR {α : Sort _} {x y : α} [d : Decidable (inB (ii z) (ln 820) = true)] (h : 0 ≤ z ∧ z < 1434) : (if inB (ii z) (ln 820) = true then x else y) = x := inbT (by rw [ln820]; omega)
theorem rr_i (M : Mem) (h : 0 ≤ z ∧ z < 1434) : M 820 (ii z).toNatClampNeg = rr M z := by unfold rr; rw [ii_nat h.1 (by omega)]
theorem sr_i {v : Int32} (h : 0 ≤ z ∧ z < 1434) : upM M 820 (ii z).toNatClampNeg v = sr M z v := by unfold sr; rw [ii_nat h.1 (by omega)]
theorem S23 : ev true 23 0 0 [pR 13 819] [] M X = some (.inl (some (pI (rr M 0))), M, X) := by
  rw [q23_0, i_0, inR (by omega)]
  rfl
theorem S24 (h : 0 ≤ 174 + 6 * j + k ∧ 174 + 6 * j + k < 1434) : ev true 24 0 0 [pR 13 819, pI (ii j), pI (ii k)] [] M X = some (.inl (some (pI (rr M (174 + 6 * j + k)))), M, X) := by
  rw [q24_0, i_174, i_6, ii_mul, ii_add, ii_add, inR h, rr_i M h]
theorem S25 (h : 0 ≤ 66 + 10 * j + k ∧ 66 + 10 * j + k < 1434) : ev true 25 0 0 [pR 13 819, pI (ii j), pI (ii k)] [] M X = some (.inl (some (pI (rr M (66 + 10 * j + k)))), M, X) := by
  rw [q25_0, i_66, i_10, ii_mul, ii_add, ii_add, inR h, rr_i M h]
theorem S29 (h : 0 ≤ 12 + 5 * j + k ∧ 12 + 5 * j + k < 1434) : ev true 29 0 0 [pR 13 819, pI (ii j), pI (ii k)] [] M X = some (.inl (some (pI (rr M (12 + 5 * j + k)))), M, X) := by
  rw [q29_0, i_12, i_5, ii_mul, ii_add, ii_add, inR h, rr_i M h]
theorem S30 (h : 0 ≤ 42 + 3 * j + k ∧ 42 + 3 * j + k < 1434) : ev true 30 0 0 [pR 13 819, pI (ii j), pI (ii k)] [] M X = some (.inl (some (pI (rr M (42 + 3 * j + k)))), M, X) := by
  rw [q30_0, i_42, i_3, ii_mul, ii_add, ii_add, inR h, rr_i M h]
theorem S34 (h : 0 ≤ 126 + 4 * j + k ∧ 126 + 4 * j + k < 1434) : ev true 34 0 0 [pR 13 819, pI (ii j), pI (ii k)] [] M X = some (.inl (some (pI (rr M (126 + 4 * j + k)))), M, X) := by
  rw [q34_0, i_126, i_4, ii_mul, ii_add, ii_add, inR h, rr_i M h]
theorem S26 : ev true 26 0 0 [pR 13 819, pI (ii j), pI (ii k)] [] M X = some (.inl (some (pI (ii (414 + 2 * (20 * j + k))))), M, X) := by
  rw [q26_0, i_414, i_2, i_20, ii_mul, ii_add, ii_mul, ii_add]
def R0 (M : Mem) (A : AT) : Prop := ∀ k, 0 ≤ k → k < 10 → rr M k = ii (A 0 k)
def RX (M : Mem) (A : AT) : Prop := ∀ e, 0 ≤ e → e < 6 → rr M (12 + 5 * e + 0) = ii (A 30 e) ∧ rr M (12 + 5 * e + 1) = ii (A 31 e) ∧ rr M (12 + 5 * e + 2) = ii (A 32 e) ∧ rr M (12 + 5 * e + 3) = ii (A 33 e) ∧ rr M (12 + 5 * e + 4) = ii (A 34 e)
def RWa (M : Mem) (A : AT) : Prop := ∀ e, 0 ≤ e → e < 8 → rr M (42 + 3 * e + 0) = ii (A 26 e) ∧ rr M (42 + 3 * e + 1) = ii (A 27 e) ∧ rr M (42 + 3 * e + 2) = ii (A 28 e)
def RSi (M : Mem) (A : AT) : Prop := ∀ e, 0 ≤ e → e < 6 → rr M (66 + 10 * e + 0) = ii (A 40 e) ∧ rr M (66 + 10 * e + 1) = ii (A 41 e) ∧ rr M (66 + 10 * e + 2) = ii (A 42 e) ∧ rr M (66 + 10 * e + 3) = ii (A 43 e) ∧ rr M (66 + 10 * e + 4) = ii (A 44 e) ∧ rr M (66 + 10 * e + 5) = ii (A 45 e) ∧ rr M (66 + 10 * e + 6) = ii (A 46 e) ∧ rr M (66 + 10 * e + 7) = ii (A 47 e) ∧ rr M (66 + 10 * e + 8) = ii (A 48 e) ∧ rr M (66 + 10 * e + 9) = ii (A 49 e)
def RCo (M : Mem) (A : AT) : Prop := ∀ e, 0 ≤ e → e < 12 → rr M (126 + 4 * e + 0) = ii (A 50 e) ∧ rr M (126 + 4 * e + 1) = ii (A 51 e) ∧ rr M (126 + 4 * e + 2) = ii (A 52 e) ∧ rr M (126 + 4 * e + 3) = ii (A 53 e)
def RPl (M : Mem) (A : AT) : Prop := ∀ q, 0 ≤ q → q < A 0 0 → rr M (174 + 6 * q + 0) = ii (A 20 q) ∧ rr M (174 + 6 * q + 1) = ii (A 21 q) ∧ rr M (174 + 6 * q + 2) = ii (A 22 q) ∧ (A 20 q ≠ -1 → rr M (174 + 6 * q + 3) = ii (A 23 q) ∧ rr M (174 + 6 * q + 4) = ii (A 24 q)) ∧ rr M (174 + 6 * q + 5) = ii (A 25 q)
def RPb (M : Mem) (A : AT) : Prop := ∀ q k, 0 ≤ q → A 0 0 ≤ q → q < 40 → 0 ≤ k → k < 6 → rr M (174 + 6 * q + k) = ii (-1)
def RQu (M : Mem) (A : AT) : Prop := ∀ e k, 0 ≤ e → e < 6 → 0 ≤ k → k < A 44 e → rr M (414 + 2 * (20 * e + k)) = ii (A 60 (20 * e + k)) ∧ rr M (414 + 2 * (20 * e + k) + 1) = ii (A 61 (20 * e + k))
def RLg (M : Mem) (A : AT) : Prop := ∀ a k, 0 ≤ a → a < A 0 8 → 0 ≤ k → k < 7 → rr M (654 + 7 * a + k) = ii (A 70 (7 * a + k))
def RR (M : Mem) (A : AT) : Prop := R0 M A ∧ RX M A ∧ RWa M A ∧ RSi M A ∧ RCo M A ∧ RPl M A ∧ RPb M A ∧ RQu M A ∧ RLg M A
theorem RR_k (h : RR M A) (h1 : M' 820 = M 820) : RR M' A := by
  unfold RR R0 RX RWa RSi RCo RPl RPb RQu RLg
  simp only [rr_at h1]
  exact h
theorem RR_32 (h : RR M A) (h1 : 0 ≤ j) (h2 : j < 6) : RR (sr M (12 + 5 * j + 2) (ii v)) (upA A 32 j v) := by
  obtain ⟨r0, rx, rw9, rs, rc, rp, rb, rq, rl9⟩ := h
  refine ⟨fun k a b => ?_, fun e a b => ?_, fun e a b => ?_, fun e a b => ?_, fun e a b => ?_, fun q a b => ?_, fun q k a0 a b c d => ?_, fun e k a b c d => ?_, fun e k a b c d => ?_⟩
  · skip
    have h9 := r0 k a b
    simp (disch := omega) only [rr_sr, upA_s, upA_n, if_neg, if_pos, if_true, if_false]
    exact h9
  · skip
    by_cases hy : e = j
    · subst hy
      have h9 := rx e a b
      simp (disch := omega) only [rr_sr, upA_s, upA_n, if_neg, if_pos, if_true, if_false]
      exact ⟨h9.1, h9.2.1, trivial, h9.2.2.2.1, h9.2.2.2.2⟩
    · have h9 := rx e a b
      simp (disch := omega) only [rr_sr, upA_s, upA_n, if_neg, if_pos, if_true, if_false]
      exact h9
  · skip
    have h9 := rw9 e a b
    simp (disch := omega) only [rr_sr, upA_s, upA_n, if_neg, if_pos, if_true, if_false]
    exact h9
  · skip
    have h9 := rs e a b
    simp (disch := omega) only [rr_sr, upA_s, upA_n, if_neg, if_pos, if_true, if_false]
    exact h9
  · skip
    have h9 := rc e a b
    simp (disch := omega) only [rr_sr, upA_s, upA_n, if_neg, if_pos, if_true, if_false]
    exact h9
  · skip
    rw [upA_n (by decide)] at b
    have h9 := rp q a b
    simp (disch := omega) only [rr_sr, upA_s, upA_n, if_neg, if_pos, if_true, if_false]
    exact h9
  · skip
    rw [upA_n (by decide)] at a
    have h9 := rb q k a0 a b c d
    simp (disch := omega) only [rr_sr, upA_s, upA_n, if_neg, if_pos, if_true, if_false]
    exact h9
  · skip
    rw [upA_n (by decide)] at d
    have h9 := rq e k a b c d
    simp (disch := omega) only [rr_sr, upA_s, upA_n, if_neg, if_pos, if_true, if_false]
    exact h9
  · skip
    rw [upA_n (by decide)] at b
    have h9 := rl9 e k a b c d
    simp (disch := omega) only [rr_sr, upA_s, upA_n, if_neg, if_pos, if_true, if_false]
    exact h9
theorem RR_33 (h : RR M A) (h1 : 0 ≤ j) (h2 : j < 6) : RR (sr M (12 + 5 * j + 3) (ii v)) (upA A 33 j v) := by
  obtain ⟨r0, rx, rw9, rs, rc, rp, rb, rq, rl9⟩ := h
  refine ⟨fun k a b => ?_, fun e a b => ?_, fun e a b => ?_, fun e a b => ?_, fun e a b => ?_, fun q a b => ?_, fun q k a0 a b c d => ?_, fun e k a b c d => ?_, fun e k a b c d => ?_⟩
  · skip
    have h9 := r0 k a b
    simp (disch := omega) only [rr_sr, upA_s, upA_n, if_neg, if_pos, if_true, if_false]
    exact h9
  · skip
    by_cases hy : e = j
    · subst hy
      have h9 := rx e a b
      simp (disch := omega) only [rr_sr, upA_s, upA_n, if_neg, if_pos, if_true, if_false]
      exact ⟨h9.1, h9.2.1, h9.2.2.1, trivial, h9.2.2.2.2⟩
    · have h9 := rx e a b
      simp (disch := omega) only [rr_sr, upA_s, upA_n, if_neg, if_pos, if_true, if_false]
      exact h9
  · skip
    have h9 := rw9 e a b
    simp (disch := omega) only [rr_sr, upA_s, upA_n, if_neg, if_pos, if_true, if_false]
    exact h9
  · skip
    have h9 := rs e a b
    simp (disch := omega) only [rr_sr, upA_s, upA_n, if_neg, if_pos, if_true, if_false]
    exact h9
  · skip
    have h9 := rc e a b
    simp (disch := omega) only [rr_sr, upA_s, upA_n, if_neg, if_pos, if_true, if_false]
    exact h9
  · skip
    rw [upA_n (by decide)] at b
    have h9 := rp q a b
    simp (disch := omega) only [rr_sr, upA_s, upA_n, if_neg, if_pos, if_true, if_false]
    exact h9
  · skip
    rw [upA_n (by decide)] at a
    have h9 := rb q k a0 a b c d
    simp (disch := omega) only [rr_sr, upA_s, upA_n, if_neg, if_pos, if_true, if_false]
    exact h9
  · skip
    rw [upA_n (by decide)] at d
    have h9 := rq e k a b c d
    simp (disch := omega) only [rr_sr, upA_s, upA_n, if_neg, if_pos, if_true, if_false]
    exact h9
  · skip
    rw [upA_n (by decide)] at b
    have h9 := rl9 e k a b c d
    simp (disch := omega) only [rr_sr, upA_s, upA_n, if_neg, if_pos, if_true, if_false]
    exact h9
theorem RR_34 (h : RR M A) (h1 : 0 ≤ j) (h2 : j < 6) : RR (sr M (12 + 5 * j + 4) (ii v)) (upA A 34 j v) := by
  obtain ⟨r0, rx, rw9, rs, rc, rp, rb, rq, rl9⟩ := h
  refine ⟨fun k a b => ?_, fun e a b => ?_, fun e a b => ?_, fun e a b => ?_, fun e a b => ?_, fun q a b => ?_, fun q k a0 a b c d => ?_, fun e k a b c d => ?_, fun e k a b c d => ?_⟩
  · skip
    have h9 := r0 k a b
    simp (disch := omega) only [rr_sr, upA_s, upA_n, if_neg, if_pos, if_true, if_false]
    exact h9
  · skip
    by_cases hy : e = j
    · subst hy
      have h9 := rx e a b
      simp (disch := omega) only [rr_sr, upA_s, upA_n, if_neg, if_pos, if_true, if_false]
      exact ⟨h9.1, h9.2.1, h9.2.2.1, h9.2.2.2.1, trivial⟩
    · have h9 := rx e a b
      simp (disch := omega) only [rr_sr, upA_s, upA_n, if_neg, if_pos, if_true, if_false]
      exact h9
  · skip
    have h9 := rw9 e a b
    simp (disch := omega) only [rr_sr, upA_s, upA_n, if_neg, if_pos, if_true, if_false]
    exact h9
  · skip
    have h9 := rs e a b
    simp (disch := omega) only [rr_sr, upA_s, upA_n, if_neg, if_pos, if_true, if_false]
    exact h9
  · skip
    have h9 := rc e a b
    simp (disch := omega) only [rr_sr, upA_s, upA_n, if_neg, if_pos, if_true, if_false]
    exact h9
  · skip
    rw [upA_n (by decide)] at b
    have h9 := rp q a b
    simp (disch := omega) only [rr_sr, upA_s, upA_n, if_neg, if_pos, if_true, if_false]
    exact h9
  · skip
    rw [upA_n (by decide)] at a
    have h9 := rb q k a0 a b c d
    simp (disch := omega) only [rr_sr, upA_s, upA_n, if_neg, if_pos, if_true, if_false]
    exact h9
  · skip
    rw [upA_n (by decide)] at d
    have h9 := rq e k a b c d
    simp (disch := omega) only [rr_sr, upA_s, upA_n, if_neg, if_pos, if_true, if_false]
    exact h9
  · skip
    rw [upA_n (by decide)] at b
    have h9 := rl9 e k a b c d
    simp (disch := omega) only [rr_sr, upA_s, upA_n, if_neg, if_pos, if_true, if_false]
    exact h9
theorem RR_28 (h : RR M A) (h1 : 0 ≤ j) (h2 : j < 8) : RR (sr M (42 + 3 * j + 2) (ii v)) (upA A 28 j v) := by
  obtain ⟨r0, rx, rw9, rs, rc, rp, rb, rq, rl9⟩ := h
  refine ⟨fun k a b => ?_, fun e a b => ?_, fun e a b => ?_, fun e a b => ?_, fun e a b => ?_, fun q a b => ?_, fun q k a0 a b c d => ?_, fun e k a b c d => ?_, fun e k a b c d => ?_⟩
  · skip
    have h9 := r0 k a b
    simp (disch := omega) only [rr_sr, upA_s, upA_n, if_neg, if_pos, if_true, if_false]
    exact h9
  · skip
    have h9 := rx e a b
    simp (disch := omega) only [rr_sr, upA_s, upA_n, if_neg, if_pos, if_true, if_false]
    exact h9
  · skip
    by_cases hy : e = j
    · subst hy
      have h9 := rw9 e a b
      simp (disch := omega) only [rr_sr, upA_s, upA_n, if_neg, if_pos, if_true, if_false]
      exact ⟨h9.1, h9.2.1, trivial⟩
    · have h9 := rw9 e a b
      simp (disch := omega) only [rr_sr, upA_s, upA_n, if_neg, if_pos, if_true, if_false]
      exact h9
  · skip
    have h9 := rs e a b
    simp (disch := omega) only [rr_sr, upA_s, upA_n, if_neg, if_pos, if_true, if_false]
    exact h9
  · skip
    have h9 := rc e a b
    simp (disch := omega) only [rr_sr, upA_s, upA_n, if_neg, if_pos, if_true, if_false]
    exact h9
  · skip
    rw [upA_n (by decide)] at b
    have h9 := rp q a b
    simp (disch := omega) only [rr_sr, upA_s, upA_n, if_neg, if_pos, if_true, if_false]
    exact h9
  · skip
    rw [upA_n (by decide)] at a
    have h9 := rb q k a0 a b c d
    simp (disch := omega) only [rr_sr, upA_s, upA_n, if_neg, if_pos, if_true, if_false]
    exact h9
  · skip
    rw [upA_n (by decide)] at d
    have h9 := rq e k a b c d
    simp (disch := omega) only [rr_sr, upA_s, upA_n, if_neg, if_pos, if_true, if_false]
    exact h9
  · skip
    rw [upA_n (by decide)] at b
    have h9 := rl9 e k a b c d
    simp (disch := omega) only [rr_sr, upA_s, upA_n, if_neg, if_pos, if_true, if_false]
    exact h9
theorem RR_41 (h : RR M A) (h1 : 0 ≤ j) (h2 : j < 6) : RR (sr M (66 + 10 * j + 1) (ii v)) (upA A 41 j v) := by
  obtain ⟨r0, rx, rw9, rs, rc, rp, rb, rq, rl9⟩ := h
  refine ⟨fun k a b => ?_, fun e a b => ?_, fun e a b => ?_, fun e a b => ?_, fun e a b => ?_, fun q a b => ?_, fun q k a0 a b c d => ?_, fun e k a b c d => ?_, fun e k a b c d => ?_⟩
  · skip
    have h9 := r0 k a b
    simp (disch := omega) only [rr_sr, upA_s, upA_n, if_neg, if_pos, if_true, if_false]
    exact h9
  · skip
    have h9 := rx e a b
    simp (disch := omega) only [rr_sr, upA_s, upA_n, if_neg, if_pos, if_true, if_false]
    exact h9
  · skip
    have h9 := rw9 e a b
    simp (disch := omega) only [rr_sr, upA_s, upA_n, if_neg, if_pos, if_true, if_false]
    exact h9
  · skip
    by_cases hy : e = j
    · subst hy
      have h9 := rs e a b
      simp (disch := omega) only [rr_sr, upA_s, upA_n, if_neg, if_pos, if_true, if_false]
      exact ⟨h9.1, trivial, h9.2.2.1, h9.2.2.2.1, h9.2.2.2.2.1, h9.2.2.2.2.2.1, h9.2.2.2.2.2.2.1, h9.2.2.2.2.2.2.2.1, h9.2.2.2.2.2.2.2.2.1, h9.2.2.2.2.2.2.2.2.2⟩
    · have h9 := rs e a b
      simp (disch := omega) only [rr_sr, upA_s, upA_n, if_neg, if_pos, if_true, if_false]
      exact h9
  · skip
    have h9 := rc e a b
    simp (disch := omega) only [rr_sr, upA_s, upA_n, if_neg, if_pos, if_true, if_false]
    exact h9
  · skip
    rw [upA_n (by decide)] at b
    have h9 := rp q a b
    simp (disch := omega) only [rr_sr, upA_s, upA_n, if_neg, if_pos, if_true, if_false]
    exact h9
  · skip
    rw [upA_n (by decide)] at a
    have h9 := rb q k a0 a b c d
    simp (disch := omega) only [rr_sr, upA_s, upA_n, if_neg, if_pos, if_true, if_false]
    exact h9
  · skip
    rw [upA_n (by decide)] at d
    have h9 := rq e k a b c d
    simp (disch := omega) only [rr_sr, upA_s, upA_n, if_neg, if_pos, if_true, if_false]
    exact h9
  · skip
    rw [upA_n (by decide)] at b
    have h9 := rl9 e k a b c d
    simp (disch := omega) only [rr_sr, upA_s, upA_n, if_neg, if_pos, if_true, if_false]
    exact h9
theorem RR_42 (h : RR M A) (h1 : 0 ≤ j) (h2 : j < 6) : RR (sr M (66 + 10 * j + 2) (ii v)) (upA A 42 j v) := by
  obtain ⟨r0, rx, rw9, rs, rc, rp, rb, rq, rl9⟩ := h
  refine ⟨fun k a b => ?_, fun e a b => ?_, fun e a b => ?_, fun e a b => ?_, fun e a b => ?_, fun q a b => ?_, fun q k a0 a b c d => ?_, fun e k a b c d => ?_, fun e k a b c d => ?_⟩
  · skip
    have h9 := r0 k a b
    simp (disch := omega) only [rr_sr, upA_s, upA_n, if_neg, if_pos, if_true, if_false]
    exact h9
  · skip
    have h9 := rx e a b
    simp (disch := omega) only [rr_sr, upA_s, upA_n, if_neg, if_pos, if_true, if_false]
    exact h9
  · skip
    have h9 := rw9 e a b
    simp (disch := omega) only [rr_sr, upA_s, upA_n, if_neg, if_pos, if_true, if_false]
    exact h9
  · skip
    by_cases hy : e = j
    · subst hy
      have h9 := rs e a b
      simp (disch := omega) only [rr_sr, upA_s, upA_n, if_neg, if_pos, if_true, if_false]
      exact ⟨h9.1, h9.2.1, trivial, h9.2.2.2.1, h9.2.2.2.2.1, h9.2.2.2.2.2.1, h9.2.2.2.2.2.2.1, h9.2.2.2.2.2.2.2.1, h9.2.2.2.2.2.2.2.2.1, h9.2.2.2.2.2.2.2.2.2⟩
    · have h9 := rs e a b
      simp (disch := omega) only [rr_sr, upA_s, upA_n, if_neg, if_pos, if_true, if_false]
      exact h9
  · skip
    have h9 := rc e a b
    simp (disch := omega) only [rr_sr, upA_s, upA_n, if_neg, if_pos, if_true, if_false]
    exact h9
  · skip
    rw [upA_n (by decide)] at b
    have h9 := rp q a b
    simp (disch := omega) only [rr_sr, upA_s, upA_n, if_neg, if_pos, if_true, if_false]
    exact h9
  · skip
    rw [upA_n (by decide)] at a
    have h9 := rb q k a0 a b c d
    simp (disch := omega) only [rr_sr, upA_s, upA_n, if_neg, if_pos, if_true, if_false]
    exact h9
  · skip
    rw [upA_n (by decide)] at d
    have h9 := rq e k a b c d
    simp (disch := omega) only [rr_sr, upA_s, upA_n, if_neg, if_pos, if_true, if_false]
    exact h9
  · skip
    rw [upA_n (by decide)] at b
    have h9 := rl9 e k a b c d
    simp (disch := omega) only [rr_sr, upA_s, upA_n, if_neg, if_pos, if_true, if_false]
    exact h9
theorem RR_43 (h : RR M A) (h1 : 0 ≤ j) (h2 : j < 6) : RR (sr M (66 + 10 * j + 3) (ii v)) (upA A 43 j v) := by
  obtain ⟨r0, rx, rw9, rs, rc, rp, rb, rq, rl9⟩ := h
  refine ⟨fun k a b => ?_, fun e a b => ?_, fun e a b => ?_, fun e a b => ?_, fun e a b => ?_, fun q a b => ?_, fun q k a0 a b c d => ?_, fun e k a b c d => ?_, fun e k a b c d => ?_⟩
  · skip
    have h9 := r0 k a b
    simp (disch := omega) only [rr_sr, upA_s, upA_n, if_neg, if_pos, if_true, if_false]
    exact h9
  · skip
    have h9 := rx e a b
    simp (disch := omega) only [rr_sr, upA_s, upA_n, if_neg, if_pos, if_true, if_false]
    exact h9
  · skip
    have h9 := rw9 e a b
    simp (disch := omega) only [rr_sr, upA_s, upA_n, if_neg, if_pos, if_true, if_false]
    exact h9
  · skip
    by_cases hy : e = j
    · subst hy
      have h9 := rs e a b
      simp (disch := omega) only [rr_sr, upA_s, upA_n, if_neg, if_pos, if_true, if_false]
      exact ⟨h9.1, h9.2.1, h9.2.2.1, trivial, h9.2.2.2.2.1, h9.2.2.2.2.2.1, h9.2.2.2.2.2.2.1, h9.2.2.2.2.2.2.2.1, h9.2.2.2.2.2.2.2.2.1, h9.2.2.2.2.2.2.2.2.2⟩
    · have h9 := rs e a b
      simp (disch := omega) only [rr_sr, upA_s, upA_n, if_neg, if_pos, if_true, if_false]
      exact h9
  · skip
    have h9 := rc e a b
    simp (disch := omega) only [rr_sr, upA_s, upA_n, if_neg, if_pos, if_true, if_false]
    exact h9
  · skip
    rw [upA_n (by decide)] at b
    have h9 := rp q a b
    simp (disch := omega) only [rr_sr, upA_s, upA_n, if_neg, if_pos, if_true, if_false]
    exact h9
  · skip
    rw [upA_n (by decide)] at a
    have h9 := rb q k a0 a b c d
    simp (disch := omega) only [rr_sr, upA_s, upA_n, if_neg, if_pos, if_true, if_false]
    exact h9
  · skip
    rw [upA_n (by decide)] at d
    have h9 := rq e k a b c d
    simp (disch := omega) only [rr_sr, upA_s, upA_n, if_neg, if_pos, if_true, if_false]
    exact h9
  · skip
    rw [upA_n (by decide)] at b
    have h9 := rl9 e k a b c d
    simp (disch := omega) only [rr_sr, upA_s, upA_n, if_neg, if_pos, if_true, if_false]
    exact h9
theorem RR_45 (h : RR M A) (h1 : 0 ≤ j) (h2 : j < 6) : RR (sr M (66 + 10 * j + 5) (ii v)) (upA A 45 j v) := by
  obtain ⟨r0, rx, rw9, rs, rc, rp, rb, rq, rl9⟩ := h
  refine ⟨fun k a b => ?_, fun e a b => ?_, fun e a b => ?_, fun e a b => ?_, fun e a b => ?_, fun q a b => ?_, fun q k a0 a b c d => ?_, fun e k a b c d => ?_, fun e k a b c d => ?_⟩
  · skip
    have h9 := r0 k a b
    simp (disch := omega) only [rr_sr, upA_s, upA_n, if_neg, if_pos, if_true, if_false]
    exact h9
  · skip
    have h9 := rx e a b
    simp (disch := omega) only [rr_sr, upA_s, upA_n, if_neg, if_pos, if_true, if_false]
    exact h9
  · skip
    have h9 := rw9 e a b
    simp (disch := omega) only [rr_sr, upA_s, upA_n, if_neg, if_pos, if_true, if_false]
    exact h9
  · skip
    by_cases hy : e = j
    · subst hy
      have h9 := rs e a b
      simp (disch := omega) only [rr_sr, upA_s, upA_n, if_neg, if_pos, if_true, if_false]
      exact ⟨h9.1, h9.2.1, h9.2.2.1, h9.2.2.2.1, h9.2.2.2.2.1, trivial, h9.2.2.2.2.2.2.1, h9.2.2.2.2.2.2.2.1, h9.2.2.2.2.2.2.2.2.1, h9.2.2.2.2.2.2.2.2.2⟩
    · have h9 := rs e a b
      simp (disch := omega) only [rr_sr, upA_s, upA_n, if_neg, if_pos, if_true, if_false]
      exact h9
  · skip
    have h9 := rc e a b
    simp (disch := omega) only [rr_sr, upA_s, upA_n, if_neg, if_pos, if_true, if_false]
    exact h9
  · skip
    rw [upA_n (by decide)] at b
    have h9 := rp q a b
    simp (disch := omega) only [rr_sr, upA_s, upA_n, if_neg, if_pos, if_true, if_false]
    exact h9
  · skip
    rw [upA_n (by decide)] at a
    have h9 := rb q k a0 a b c d
    simp (disch := omega) only [rr_sr, upA_s, upA_n, if_neg, if_pos, if_true, if_false]
    exact h9
  · skip
    rw [upA_n (by decide)] at d
    have h9 := rq e k a b c d
    simp (disch := omega) only [rr_sr, upA_s, upA_n, if_neg, if_pos, if_true, if_false]
    exact h9
  · skip
    rw [upA_n (by decide)] at b
    have h9 := rl9 e k a b c d
    simp (disch := omega) only [rr_sr, upA_s, upA_n, if_neg, if_pos, if_true, if_false]
    exact h9
theorem RR_46 (h : RR M A) (h1 : 0 ≤ j) (h2 : j < 6) : RR (sr M (66 + 10 * j + 6) (ii v)) (upA A 46 j v) := by
  obtain ⟨r0, rx, rw9, rs, rc, rp, rb, rq, rl9⟩ := h
  refine ⟨fun k a b => ?_, fun e a b => ?_, fun e a b => ?_, fun e a b => ?_, fun e a b => ?_, fun q a b => ?_, fun q k a0 a b c d => ?_, fun e k a b c d => ?_, fun e k a b c d => ?_⟩
  · skip
    have h9 := r0 k a b
    simp (disch := omega) only [rr_sr, upA_s, upA_n, if_neg, if_pos, if_true, if_false]
    exact h9
  · skip
    have h9 := rx e a b
    simp (disch := omega) only [rr_sr, upA_s, upA_n, if_neg, if_pos, if_true, if_false]
    exact h9
  · skip
    have h9 := rw9 e a b
    simp (disch := omega) only [rr_sr, upA_s, upA_n, if_neg, if_pos, if_true, if_false]
    exact h9
  · skip
    by_cases hy : e = j
    · subst hy
      have h9 := rs e a b
      simp (disch := omega) only [rr_sr, upA_s, upA_n, if_neg, if_pos, if_true, if_false]
      exact ⟨h9.1, h9.2.1, h9.2.2.1, h9.2.2.2.1, h9.2.2.2.2.1, h9.2.2.2.2.2.1, trivial, h9.2.2.2.2.2.2.2.1, h9.2.2.2.2.2.2.2.2.1, h9.2.2.2.2.2.2.2.2.2⟩
    · have h9 := rs e a b
      simp (disch := omega) only [rr_sr, upA_s, upA_n, if_neg, if_pos, if_true, if_false]
      exact h9
  · skip
    have h9 := rc e a b
    simp (disch := omega) only [rr_sr, upA_s, upA_n, if_neg, if_pos, if_true, if_false]
    exact h9
  · skip
    rw [upA_n (by decide)] at b
    have h9 := rp q a b
    simp (disch := omega) only [rr_sr, upA_s, upA_n, if_neg, if_pos, if_true, if_false]
    exact h9
  · skip
    rw [upA_n (by decide)] at a
    have h9 := rb q k a0 a b c d
    simp (disch := omega) only [rr_sr, upA_s, upA_n, if_neg, if_pos, if_true, if_false]
    exact h9
  · skip
    rw [upA_n (by decide)] at d
    have h9 := rq e k a b c d
    simp (disch := omega) only [rr_sr, upA_s, upA_n, if_neg, if_pos, if_true, if_false]
    exact h9
  · skip
    rw [upA_n (by decide)] at b
    have h9 := rl9 e k a b c d
    simp (disch := omega) only [rr_sr, upA_s, upA_n, if_neg, if_pos, if_true, if_false]
    exact h9
theorem RR_47 (h : RR M A) (h1 : 0 ≤ j) (h2 : j < 6) : RR (sr M (66 + 10 * j + 7) (ii v)) (upA A 47 j v) := by
  obtain ⟨r0, rx, rw9, rs, rc, rp, rb, rq, rl9⟩ := h
  refine ⟨fun k a b => ?_, fun e a b => ?_, fun e a b => ?_, fun e a b => ?_, fun e a b => ?_, fun q a b => ?_, fun q k a0 a b c d => ?_, fun e k a b c d => ?_, fun e k a b c d => ?_⟩
  · skip
    have h9 := r0 k a b
    simp (disch := omega) only [rr_sr, upA_s, upA_n, if_neg, if_pos, if_true, if_false]
    exact h9
  · skip
    have h9 := rx e a b
    simp (disch := omega) only [rr_sr, upA_s, upA_n, if_neg, if_pos, if_true, if_false]
    exact h9
  · skip
    have h9 := rw9 e a b
    simp (disch := omega) only [rr_sr, upA_s, upA_n, if_neg, if_pos, if_true, if_false]
    exact h9
  · skip
    by_cases hy : e = j
    · subst hy
      have h9 := rs e a b
      simp (disch := omega) only [rr_sr, upA_s, upA_n, if_neg, if_pos, if_true, if_false]
      exact ⟨h9.1, h9.2.1, h9.2.2.1, h9.2.2.2.1, h9.2.2.2.2.1, h9.2.2.2.2.2.1, h9.2.2.2.2.2.2.1, trivial, h9.2.2.2.2.2.2.2.2.1, h9.2.2.2.2.2.2.2.2.2⟩
    · have h9 := rs e a b
      simp (disch := omega) only [rr_sr, upA_s, upA_n, if_neg, if_pos, if_true, if_false]
      exact h9
  · skip
    have h9 := rc e a b
    simp (disch := omega) only [rr_sr, upA_s, upA_n, if_neg, if_pos, if_true, if_false]
    exact h9
  · skip
    rw [upA_n (by decide)] at b
    have h9 := rp q a b
    simp (disch := omega) only [rr_sr, upA_s, upA_n, if_neg, if_pos, if_true, if_false]
    exact h9
  · skip
    rw [upA_n (by decide)] at a
    have h9 := rb q k a0 a b c d
    simp (disch := omega) only [rr_sr, upA_s, upA_n, if_neg, if_pos, if_true, if_false]
    exact h9
  · skip
    rw [upA_n (by decide)] at d
    have h9 := rq e k a b c d
    simp (disch := omega) only [rr_sr, upA_s, upA_n, if_neg, if_pos, if_true, if_false]
    exact h9
  · skip
    rw [upA_n (by decide)] at b
    have h9 := rl9 e k a b c d
    simp (disch := omega) only [rr_sr, upA_s, upA_n, if_neg, if_pos, if_true, if_false]
    exact h9
theorem RR_48 (h : RR M A) (h1 : 0 ≤ j) (h2 : j < 6) : RR (sr M (66 + 10 * j + 8) (ii v)) (upA A 48 j v) := by
  obtain ⟨r0, rx, rw9, rs, rc, rp, rb, rq, rl9⟩ := h
  refine ⟨fun k a b => ?_, fun e a b => ?_, fun e a b => ?_, fun e a b => ?_, fun e a b => ?_, fun q a b => ?_, fun q k a0 a b c d => ?_, fun e k a b c d => ?_, fun e k a b c d => ?_⟩
  · skip
    have h9 := r0 k a b
    simp (disch := omega) only [rr_sr, upA_s, upA_n, if_neg, if_pos, if_true, if_false]
    exact h9
  · skip
    have h9 := rx e a b
    simp (disch := omega) only [rr_sr, upA_s, upA_n, if_neg, if_pos, if_true, if_false]
    exact h9
  · skip
    have h9 := rw9 e a b
    simp (disch := omega) only [rr_sr, upA_s, upA_n, if_neg, if_pos, if_true, if_false]
    exact h9
  · skip
    by_cases hy : e = j
    · subst hy
      have h9 := rs e a b
      simp (disch := omega) only [rr_sr, upA_s, upA_n, if_neg, if_pos, if_true, if_false]
      exact ⟨h9.1, h9.2.1, h9.2.2.1, h9.2.2.2.1, h9.2.2.2.2.1, h9.2.2.2.2.2.1, h9.2.2.2.2.2.2.1, h9.2.2.2.2.2.2.2.1, trivial, h9.2.2.2.2.2.2.2.2.2⟩
    · have h9 := rs e a b
      simp (disch := omega) only [rr_sr, upA_s, upA_n, if_neg, if_pos, if_true, if_false]
      exact h9
  · skip
    have h9 := rc e a b
    simp (disch := omega) only [rr_sr, upA_s, upA_n, if_neg, if_pos, if_true, if_false]
    exact h9
  · skip
    rw [upA_n (by decide)] at b
    have h9 := rp q a b
    simp (disch := omega) only [rr_sr, upA_s, upA_n, if_neg, if_pos, if_true, if_false]
    exact h9
  · skip
    rw [upA_n (by decide)] at a
    have h9 := rb q k a0 a b c d
    simp (disch := omega) only [rr_sr, upA_s, upA_n, if_neg, if_pos, if_true, if_false]
    exact h9
  · skip
    rw [upA_n (by decide)] at d
    have h9 := rq e k a b c d
    simp (disch := omega) only [rr_sr, upA_s, upA_n, if_neg, if_pos, if_true, if_false]
    exact h9
  · skip
    rw [upA_n (by decide)] at b
    have h9 := rl9 e k a b c d
    simp (disch := omega) only [rr_sr, upA_s, upA_n, if_neg, if_pos, if_true, if_false]
    exact h9
theorem RR_49 (h : RR M A) (h1 : 0 ≤ j) (h2 : j < 6) : RR (sr M (66 + 10 * j + 9) (ii v)) (upA A 49 j v) := by
  obtain ⟨r0, rx, rw9, rs, rc, rp, rb, rq, rl9⟩ := h
  refine ⟨fun k a b => ?_, fun e a b => ?_, fun e a b => ?_, fun e a b => ?_, fun e a b => ?_, fun q a b => ?_, fun q k a0 a b c d => ?_, fun e k a b c d => ?_, fun e k a b c d => ?_⟩
  · skip
    have h9 := r0 k a b
    simp (disch := omega) only [rr_sr, upA_s, upA_n, if_neg, if_pos, if_true, if_false]
    exact h9
  · skip
    have h9 := rx e a b
    simp (disch := omega) only [rr_sr, upA_s, upA_n, if_neg, if_pos, if_true, if_false]
    exact h9
  · skip
    have h9 := rw9 e a b
    simp (disch := omega) only [rr_sr, upA_s, upA_n, if_neg, if_pos, if_true, if_false]
    exact h9
  · skip
    by_cases hy : e = j
    · subst hy
      have h9 := rs e a b
      simp (disch := omega) only [rr_sr, upA_s, upA_n, if_neg, if_pos, if_true, if_false]
      exact ⟨h9.1, h9.2.1, h9.2.2.1, h9.2.2.2.1, h9.2.2.2.2.1, h9.2.2.2.2.2.1, h9.2.2.2.2.2.2.1, h9.2.2.2.2.2.2.2.1, h9.2.2.2.2.2.2.2.2.1, trivial⟩
    · have h9 := rs e a b
      simp (disch := omega) only [rr_sr, upA_s, upA_n, if_neg, if_pos, if_true, if_false]
      exact h9
  · skip
    have h9 := rc e a b
    simp (disch := omega) only [rr_sr, upA_s, upA_n, if_neg, if_pos, if_true, if_false]
    exact h9
  · skip
    rw [upA_n (by decide)] at b
    have h9 := rp q a b
    simp (disch := omega) only [rr_sr, upA_s, upA_n, if_neg, if_pos, if_true, if_false]
    exact h9
  · skip
    rw [upA_n (by decide)] at a
    have h9 := rb q k a0 a b c d
    simp (disch := omega) only [rr_sr, upA_s, upA_n, if_neg, if_pos, if_true, if_false]
    exact h9
  · skip
    rw [upA_n (by decide)] at d
    have h9 := rq e k a b c d
    simp (disch := omega) only [rr_sr, upA_s, upA_n, if_neg, if_pos, if_true, if_false]
    exact h9
  · skip
    rw [upA_n (by decide)] at b
    have h9 := rl9 e k a b c d
    simp (disch := omega) only [rr_sr, upA_s, upA_n, if_neg, if_pos, if_true, if_false]
    exact h9
theorem RR_25 (h : RR M A) (h1 : 0 ≤ j) (h2 : j < A 0 0 ∧ A 0 0 ≤ 40) : RR (sr M (174 + 6 * j + 5) (ii v)) (upA A 25 j v) := by
  obtain ⟨r0, rx, rw9, rs, rc, rp, rb, rq, rl9⟩ := h
  refine ⟨fun k a b => ?_, fun e a b => ?_, fun e a b => ?_, fun e a b => ?_, fun e a b => ?_, fun q a b => ?_, fun q k a0 a b c d => ?_, fun e k a b c d => ?_, fun e k a b c d => ?_⟩
  · skip
    have h9 := r0 k a b
    simp (disch := omega) only [rr_sr, upA_s, upA_n, if_neg, if_pos, if_true, if_false]
    exact h9
  · skip
    have h9 := rx e a b
    simp (disch := omega) only [rr_sr, upA_s, upA_n, if_neg, if_pos, if_true, if_false]
    exact h9
  · skip
    have h9 := rw9 e a b
    simp (disch := omega) only [rr_sr, upA_s, upA_n, if_neg, if_pos, if_true, if_false]
    exact h9
  · skip
    have h9 := rs e a b
    simp (disch := omega) only [rr_sr, upA_s, upA_n, if_neg, if_pos, if_true, if_false]
    exact h9
  · skip
    have h9 := rc e a b
    simp (disch := omega) only [rr_sr, upA_s, upA_n, if_neg, if_pos, if_true, if_false]
    exact h9
  · skip
    rw [upA_n (by decide)] at b
    by_cases hy : q = j
    · subst hy
      have h9 := rp q a b
      simp (disch := omega) only [rr_sr, upA_s, upA_n, if_neg, if_pos, if_true, if_false]
      exact ⟨h9.1, h9.2.1, h9.2.2.1, h9.2.2.2.1, trivial⟩
    · have h9 := rp q a b
      simp (disch := omega) only [rr_sr, upA_s, upA_n, if_neg, if_pos, if_true, if_false]
      exact h9
  · skip
    rw [upA_n (by decide)] at a
    have h9 := rb q k a0 a b c d
    simp (disch := omega) only [rr_sr, upA_s, upA_n, if_neg, if_pos, if_true, if_false]
    exact h9
  · skip
    rw [upA_n (by decide)] at d
    have h9 := rq e k a b c d
    simp (disch := omega) only [rr_sr, upA_s, upA_n, if_neg, if_pos, if_true, if_false]
    exact h9
  · skip
    rw [upA_n (by decide)] at b
    have h9 := rl9 e k a b c d
    simp (disch := omega) only [rr_sr, upA_s, upA_n, if_neg, if_pos, if_true, if_false]
    exact h9
theorem RR_05 (h : RR M A) : RR (sr M 5 (ii v)) (upA A 0 5 v) := by
  obtain ⟨r0, rx, rw9, rs, rc, rp, rb, rq, rl9⟩ := h
  refine ⟨fun k a b => ?_, fun e a b => ?_, fun e a b => ?_, fun e a b => ?_, fun e a b => ?_, fun q a b => ?_, fun q k a0 a b c d => ?_, fun e k a b c d => ?_, fun e k a b c d => ?_⟩
  · rw [rr_sr (by omega) a, upA_s]
    by_cases hy : k = 5
    · rw [if_pos hy, if_pos hy]
    · rw [if_neg hy, if_neg hy]; exact r0 k a b
  · skip
    have h9 := rx e a b
    simp (disch := omega) only [rr_sr, upA_s, upA_n, if_neg, if_pos, if_true, if_false]
    exact h9
  · skip
    have h9 := rw9 e a b
    simp (disch := omega) only [rr_sr, upA_s, upA_n, if_neg, if_pos, if_true, if_false]
    exact h9
  · skip
    have h9 := rs e a b
    simp (disch := omega) only [rr_sr, upA_s, upA_n, if_neg, if_pos, if_true, if_false]
    exact h9
  · skip
    have h9 := rc e a b
    simp (disch := omega) only [rr_sr, upA_s, upA_n, if_neg, if_pos, if_true, if_false]
    exact h9
  · skip
    rw [upA_d (by decide)] at b
    have h9 := rp q a b
    simp (disch := omega) only [rr_sr, upA_s, upA_n, if_neg, if_pos, if_true, if_false]
    exact h9
  · skip
    rw [upA_d (by decide)] at a
    have h9 := rb q k a0 a b c d
    simp (disch := omega) only [rr_sr, upA_s, upA_n, if_neg, if_pos, if_true, if_false]
    exact h9
  · skip
    rw [upA_n (by decide)] at d
    have h9 := rq e k a b c d
    simp (disch := omega) only [rr_sr, upA_s, upA_n, if_neg, if_pos, if_true, if_false]
    exact h9
  · skip
    rw [upA_d (by decide)] at b
    have h9 := rl9 e k a b c d
    simp (disch := omega) only [rr_sr, upA_s, upA_n, if_neg, if_pos, if_true, if_false]
    exact h9
theorem RR_06 (h : RR M A) : RR (sr M 6 (ii v)) (upA A 0 6 v) := by
  obtain ⟨r0, rx, rw9, rs, rc, rp, rb, rq, rl9⟩ := h
  refine ⟨fun k a b => ?_, fun e a b => ?_, fun e a b => ?_, fun e a b => ?_, fun e a b => ?_, fun q a b => ?_, fun q k a0 a b c d => ?_, fun e k a b c d => ?_, fun e k a b c d => ?_⟩
  · rw [rr_sr (by omega) a, upA_s]
    by_cases hy : k = 6
    · rw [if_pos hy, if_pos hy]
    · rw [if_neg hy, if_neg hy]; exact r0 k a b
  · skip
    have h9 := rx e a b
    simp (disch := omega) only [rr_sr, upA_s, upA_n, if_neg, if_pos, if_true, if_false]
    exact h9
  · skip
    have h9 := rw9 e a b
    simp (disch := omega) only [rr_sr, upA_s, upA_n, if_neg, if_pos, if_true, if_false]
    exact h9
  · skip
    have h9 := rs e a b
    simp (disch := omega) only [rr_sr, upA_s, upA_n, if_neg, if_pos, if_true, if_false]
    exact h9
  · skip
    have h9 := rc e a b
    simp (disch := omega) only [rr_sr, upA_s, upA_n, if_neg, if_pos, if_true, if_false]
    exact h9
  · skip
    rw [upA_d (by decide)] at b
    have h9 := rp q a b
    simp (disch := omega) only [rr_sr, upA_s, upA_n, if_neg, if_pos, if_true, if_false]
    exact h9
  · skip
    rw [upA_d (by decide)] at a
    have h9 := rb q k a0 a b c d
    simp (disch := omega) only [rr_sr, upA_s, upA_n, if_neg, if_pos, if_true, if_false]
    exact h9
  · skip
    rw [upA_n (by decide)] at d
    have h9 := rq e k a b c d
    simp (disch := omega) only [rr_sr, upA_s, upA_n, if_neg, if_pos, if_true, if_false]
    exact h9
  · skip
    rw [upA_d (by decide)] at b
    have h9 := rl9 e k a b c d
    simp (disch := omega) only [rr_sr, upA_s, upA_n, if_neg, if_pos, if_true, if_false]
    exact h9
theorem RR_07 (h : RR M A) : RR (sr M 7 (ii v)) (upA A 0 7 v) := by
  obtain ⟨r0, rx, rw9, rs, rc, rp, rb, rq, rl9⟩ := h
  refine ⟨fun k a b => ?_, fun e a b => ?_, fun e a b => ?_, fun e a b => ?_, fun e a b => ?_, fun q a b => ?_, fun q k a0 a b c d => ?_, fun e k a b c d => ?_, fun e k a b c d => ?_⟩
  · rw [rr_sr (by omega) a, upA_s]
    by_cases hy : k = 7
    · rw [if_pos hy, if_pos hy]
    · rw [if_neg hy, if_neg hy]; exact r0 k a b
  · skip
    have h9 := rx e a b
    simp (disch := omega) only [rr_sr, upA_s, upA_n, if_neg, if_pos, if_true, if_false]
    exact h9
  · skip
    have h9 := rw9 e a b
    simp (disch := omega) only [rr_sr, upA_s, upA_n, if_neg, if_pos, if_true, if_false]
    exact h9
  · skip
    have h9 := rs e a b
    simp (disch := omega) only [rr_sr, upA_s, upA_n, if_neg, if_pos, if_true, if_false]
    exact h9
  · skip
    have h9 := rc e a b
    simp (disch := omega) only [rr_sr, upA_s, upA_n, if_neg, if_pos, if_true, if_false]
    exact h9
  · skip
    rw [upA_d (by decide)] at b
    have h9 := rp q a b
    simp (disch := omega) only [rr_sr, upA_s, upA_n, if_neg, if_pos, if_true, if_false]
    exact h9
  · skip
    rw [upA_d (by decide)] at a
    have h9 := rb q k a0 a b c d
    simp (disch := omega) only [rr_sr, upA_s, upA_n, if_neg, if_pos, if_true, if_false]
    exact h9
  · skip
    rw [upA_n (by decide)] at d
    have h9 := rq e k a b c d
    simp (disch := omega) only [rr_sr, upA_s, upA_n, if_neg, if_pos, if_true, if_false]
    exact h9
  · skip
    rw [upA_d (by decide)] at b
    have h9 := rl9 e k a b c d
    simp (disch := omega) only [rr_sr, upA_s, upA_n, if_neg, if_pos, if_true, if_false]
    exact h9
end REF
