/-! who waits; the log; the plan -/
section QUE
set_option maxRecDepth 100000
/-- the lengths of the rows of a state, of a plan -/
def StL (s : Nat) : Prop := RgL (s + 1) ∧ rl (s + 15) = 120 ∧ rl (s + 17) = 120 ∧ rl (s + 19) = 6 ∧ rl (s + 21) = 6 ∧ rl (s + 23) = 6 ∧ rl (s + 25) = 6 ∧ rl (s + 27) = 6 ∧ rl (s + 29) = 6 ∧ rl (s + 31) = 6 ∧ rl (s + 33) = 6 ∧ rl (s + 35) = 6 ∧ rl (s + 37) = 6 ∧ rl (s + 39) = 6 ∧ rl (s + 41) = 6 ∧ rl (s + 43) = 6 ∧ rl (s + 45) = 8 ∧ rl (s + 48) = 280
def PlL (p : Nat) : Prop := rl (p + 1) = 6 ∧ rl (p + 3) = 6 ∧ rl (p + 5) = 8 ∧ rl (p + 7) = 8 ∧ rl (p + 9) = 6 ∧ rl (p + 11) = 6 ∧ rl (p + 13) = 6 ∧ rl (p + 15) = 6 ∧ rl (p + 17) = 12 ∧ rl (p + 19) = 12 ∧ rl (p + 21) = 12 ∧ rl (p + 23) = 12 ∧ rl (p + 26) = 8 ∧ rl (p + 28) = 64 ∧ rl (p + 30) = 64 ∧ rl (p + 32) = 500
def stL : List Nat := [83, 135, 185, 235, 285, 335, 385, 435, 485, 535, 585, 635, 685, 769]
def plL : List Nat := [5, 49, 735]
def lnB (s : Nat) (l : List (Nat × Nat)) : Bool := l.all fun q => Nat.beq (ln (s + q.1 + 1)) q.2
theorem stl_ck : (stL.all fun s => lnB s [(2, 40), (4, 40), (6, 40), (8, 40), (10, 40), (12, 40), (15, 120), (17, 120), (19, 6), (21, 6), (23, 6), (25, 6), (27, 6), (29, 6), (31, 6), (33, 6), (35, 6), (37, 6), (39, 6), (41, 6), (43, 6), (45, 8), (48, 280)]) = true := by decide +kernel
theorem pll_ck : (plL.all fun s => lnB s [(1, 6), (3, 6), (5, 8), (7, 8), (9, 6), (11, 6), (13, 6), (15, 6), (17, 12), (19, 12), (21, 12), (23, 12), (26, 8), (28, 64), (30, 64), (32, 500)]) = true := by decide +kernel
theorem lnB_at {s k n : Nat} {l : List (Nat × Nat)} (h : lnB s l = true) (hm : (k, n) ∈ l) : rl (s + k) = n := by
  have h1 := List.all_eq_true.mp h _ hm
  unfold rl
  rw [nbeq_t h1]
theorem stL_ok {s : Nat} (h : s ∈ stL) : StL s := by
  have h1 := List.all_eq_true.mp stl_ck s h
  have e : ∀ k n : Nat, (k, n) ∈ [(2, 40), (4, 40), (6, 40), (8, 40), (10, 40), (12, 40), (15, 120), (17, 120), (19, 6), (21, 6), (23, 6), (25, 6), (27, 6), (29, 6), (31, 6), (33, 6), (35, 6), (37, 6), (39, 6), (41, 6), (43, 6), (45, 8), (48, 280)] → rl (s + k) = n := fun k n hm => lnB_at h1 hm
  exact ⟨⟨e 2 40 (by decide), e 4 40 (by decide), e 6 40 (by decide), e 8 40 (by decide), e 10 40 (by decide), e 12 40 (by decide)⟩, e 15 120 (by decide), e 17 120 (by decide), e 19 6 (by decide), e 21 6 (by decide), e 23 6 (by decide), e 25 6 (by decide), e 27 6 (by decide), e 29 6 (by decide), e 31 6 (by decide), e 33 6 (by decide), e 35 6 (by decide), e 37 6 (by decide), e 39 6 (by decide), e 41 6 (by decide), e 43 6 (by decide), e 45 8 (by decide), e 48 280 (by decide)⟩
theorem plL_ok {p : Nat} (h : p ∈ plL) : PlL p := by
  have h1 := List.all_eq_true.mp pll_ck p h
  have e : ∀ k n : Nat, (k, n) ∈ [(1, 6), (3, 6), (5, 8), (7, 8), (9, 6), (11, 6), (13, 6), (15, 6), (17, 12), (19, 12), (21, 12), (23, 12), (26, 8), (28, 64), (30, 64), (32, 500)] → rl (p + k) = n := fun k n hm => lnB_at h1 hm
  exact ⟨e 1 6 (by decide), e 3 6 (by decide), e 5 8 (by decide), e 7 8 (by decide), e 9 6 (by decide), e 11 6 (by decide), e 13 6 (by decide), e 15 6 (by decide), e 17 12 (by decide), e 19 12 (by decide), e 21 12 (by decide), e 23 12 (by decide), e 26 8 (by decide), e 28 64 (by decide), e 30 64 (by decide), e 32 500 (by decide)⟩
/-- who waits: at the object u -/
def QV (M : Mem) (u : Nat) (A : AT) : Prop := ∀ j : Int, 0 ≤ j → j < 6 → 0 ≤ A 44 j ∧ A 44 j ≤ 20 ∧ cl M (u + 5) j = ii (A 44 j) ∧ ∀ k : Int, 0 ≤ k → k < A 44 j → cl M (u + 1) (20 * j + k) = ii (A 60 (20 * j + k)) ∧ cl M (u + 3) (20 * j + k) = ii (A 61 (20 * j + k))
def QuL (u : Nat) : Prop := rl (u + 1) = 120 ∧ rl (u + 3) = 120 ∧ rl (u + 5) = 6
section OPS
variable {u s p l : Nat} {j k : Int} {A : AT} {M : Mem} {X : PX}
theorem S93 (h : QV M u A) (hl : QuL u) (h1 : 0 ≤ j) (h2 : j < 6) (h3 : 0 ≤ k) (h4 : k < A 44 j) : ev true 93 0 0 [pR 10 u, pI (ii j), pI (ii k)] [] M X = some (.inl (some (pI (ii (A 60 (20 * j + k))))), M, X) := by
  obtain ⟨l1, l2, l3⟩ := hl
  obtain ⟨a1, a2, a3, a4⟩ := h j h1 h2
  rw [q93_0, i_20, ii_mul, ii_add, Int.mul_comm j 20, S12 (by omega) (by omega), kb1, q93_13, (a4 k h3 h4).1]
theorem S95 (h : QV M u A) (hl : QuL u) (h1 : 0 ≤ j) (h2 : j < 6) (h3 : 0 ≤ k) (h4 : k < A 44 j) : ev true 95 0 0 [pR 10 u, pI (ii j), pI (ii k)] [] M X = some (.inl (some (pI (ii (A 61 (20 * j + k))))), M, X) := by
  obtain ⟨l1, l2, l3⟩ := hl
  obtain ⟨a1, a2, a3, a4⟩ := h j h1 h2
  rw [q95_0, i_20, ii_mul, ii_add, Int.mul_comm j 20, S12 (by omega) (by omega), kb1, q95_13, (a4 k h3 h4).2]
/-- one comes behind all -/
def joinA (A : AT) (j w : Int) : AT := upA (upA (upA A 60 (20 * j + A 44 j) w) 61 (20 * j + A 44 j) (A 0 5)) 44 j (A 44 j + 1)
theorem S92 {w : Int} (h : QV M u A) (hl : QuL u) (h1 : 0 ≤ j) (h2 : j < 6) (h3 : A 44 j < 20) : ∃ M', ev true 92 0 0 [pR 10 u, pI (ii j), pI (ii w), pI (ii (A 0 5)), p0] [] M X = some (.inl none, M', X) ∧ QV M' u (joinA A j w) ∧ ∀ b, b < u + 2 ∨ u + 6 < b → M' b = M b := by
  obtain ⟨l1, l2, l3⟩ := hl
  obtain ⟨a1, a2, a3, a4⟩ := h j h1 h2
  refine ⟨_, by rw [q92_0, S12 (by omega) (by omega), kb1, q92_8, a3, i_20, ltT (by omega), ii_mul, ii_add, Int.mul_comm j 20, S11 (by omega) (by omega), kb0, q92_32, i_20, ii_mul, ii_add, Int.mul_comm j 20, S11 (by omega) (by omega), kb0, q92_47, i_1, ii_add, S11 (by omega) (by omega), kb0, q92_59], ?_, ?_⟩
  · intro y y1 y2
    obtain ⟨b1, b2, b3, b4⟩ := h y y1 y2
    unfold joinA
    by_cases hy : y = j
    · subst hy
      rw [upA_e, cl_sc (by omega) y1, if_pos rfl]
      refine ⟨by omega, by omega, rfl, fun k k1 k2 => ?_⟩
      simp (disch := omega) only [cl_sn, cl_sc, upA_s, upA_n]
      by_cases hk : k = A 44 y
      · subst hk
        simp only [if_true]
        exact ⟨trivial, trivial⟩
      · rw [if_neg (by omega), if_neg (by omega), if_neg (by omega), if_neg (by omega)]
        exact b4 k k1 (by omega)
    · rw [upA_d hy, upA_n (by decide), upA_n (by decide), cl_sc (by omega) y1, if_neg hy, cl_sn (by omega), cl_sn (by omega)]
      refine ⟨b1, b2, b3, fun k k1 k2 => ?_⟩
      simp (disch := omega) only [cl_sn, cl_sc, upA_s, upA_n]
      rw [if_neg (by omega), if_neg (by omega), if_neg (by omega), if_neg (by omega)]
      exact b4 k k1 k2
  · intro b hb
    funext i
    rw [sc_n (by omega), sc_n (by omega), sc_n (by omega)]
/-- the first one goes -/
def dropA (A : AT) (j : Int) : AT := fun f i => if (f = 60 ∨ f = 61) ∧ 20 * j ≤ i ∧ i < 20 * j + (A 44 j - 1) then A f (i + 1) else if f = 44 ∧ i = j then A 44 j - 1 else A f i
theorem S94l {n : Int} (hl : QuL u) (h1 : 0 ≤ j) (h2 : j < 6) (h3 : 1 ≤ n) (h4 : n ≤ 20) : ∀ (m : Nat) (i : Int) (M : Mem), 20 * j ≤ i → i + m = 20 * j + n - 1 → ∃ M', ev true 94 0 14 [pR 10 u, pI (ii j), pI (ii n), pI (ii i)] [] M X = some (.inl none, M', X) ∧
    (∀ y, 0 ≤ y → cl M' (u + 1) y = if i ≤ y ∧ y < 20 * j + n - 1 then cl M (u + 1) (y + 1) else cl M (u + 1) y) ∧ (∀ y, 0 ≤ y → cl M' (u + 3) y = if i ≤ y ∧ y < 20 * j + n - 1 then cl M (u + 3) (y + 1) else cl M (u + 3) y) ∧ (∀ y, 0 ≤ y → cl M' (u + 5) y = if y = j then ii (n - 1) else cl M (u + 5) y) ∧ ∀ b, b < u + 2 ∨ u + 6 < b → M' b = M b := by
  obtain ⟨l1, l2, l3⟩ := hl
  intro m
  induction m with
  | zero =>
    intro i M i1 i2
    refine ⟨sc M (u + 5) j (ii (n - 1)), ?_, fun y hy => ?_, fun y hy => ?_, fun y hy => ?_, fun b hb => by funext i; rw [sc_n (by omega)]⟩
    · rw [q94_14, i_20, ii_mul, ii_add, i_1, ii_sub, ltF (by omega), ii_sub, i_0, ilt (by omega)]
      have e : (if 0 < n - 1 then ii (n - 1) else ii 0) = ii (n - 1) := by
        by_cases c : 0 < n - 1
        · rw [if_pos c]
        · rw [if_neg c, show n - 1 = 0 by omega]
      rw [e, q94_80, S11 (by omega) (by omega), kb0, q94_83]
    · rw [cl_sn (by omega), if_neg (by omega)]
    · rw [cl_sn (by omega), if_neg (by omega)]
    · rw [cl_sc (by omega) hy]
  | succ m ih =>
    intro i M i1 i2
    obtain ⟨M', e1, e2, e3, e4, e5⟩ := ih (i + 1) (sc (sc M (u + 1) i (cl M (u + 1) (i + 1))) (u + 3) i (cl M (u + 3) (i + 1))) (by omega) (by omega)
    refine ⟨M', ?_, fun y hy => ?_, fun y hy => ?_, fun y hy => ?_, fun b hb => ?_⟩
    · rw [q94_14, i_20, ii_mul, ii_add, i_1, ii_sub, ltT (by omega), ii_add, S12 (by omega) (by omega), kb1, q94_41, S11 (by omega) (by omega), kb0, q94_44, i_1, ii_add, S12 (by omega) (by omega), kb1, q94_59, S11 (by omega) (by omega), kb0, q94_62, i_1, ii_add, cl_sn (by omega), e1]
    · rw [e2 y hy]
      simp (disch := omega) only [cl_sn, cl_sc]
      by_cases c : y = i
      · subst c; rw [if_neg (by omega), if_pos rfl, if_pos (by omega)]
      · rw [if_neg c]
        by_cases d : i + 1 ≤ y ∧ y < 20 * j + n - 1
        · rw [if_pos d, if_neg (by omega), if_pos (by omega)]
        · rw [if_neg d, if_neg (by omega)]
    · rw [e3 y hy, cl_sc (by omega) (by omega), cl_sc (by omega) hy, cl_sn (by omega), cl_sn (by omega)]
      by_cases c : y = i
      · subst c; rw [if_neg (by omega), if_pos rfl, if_pos (by omega)]
      · rw [if_neg c]
        by_cases d : i + 1 ≤ y ∧ y < 20 * j + n - 1
        · rw [if_pos d, if_neg (by omega), if_pos (by omega)]
        · rw [if_neg d, if_neg (by omega)]
    · rw [e4 y hy, cl_sn (by omega), cl_sn (by omega)]
    · rw [e5 b hb]
      funext k
      rw [sc_n (by omega), sc_n (by omega)]
theorem S94 (h : QV M u A) (hl : QuL u) (h1 : 0 ≤ j) (h2 : j < 6) (h3 : 1 ≤ A 44 j) : ∃ M', ev true 94 0 0 [pR 10 u, pI (ii j), p0, p0] [] M X = some (.inl none, M', X) ∧ QV M' u (dropA A j) ∧ ∀ b, b < u + 2 ∨ u + 6 < b → M' b = M b := by
  obtain ⟨a1, a2, a3, a4⟩ := h j h1 h2
  obtain ⟨M', e1, e2, e3, e4, e5⟩ := S94l (X := X) (u := u) (n := A 44 j) hl h1 h2 h3 a2 (A 44 j - 1).toNat (20 * j) M (by omega) (by omega)
  obtain ⟨l1, l2, l3⟩ := hl
  refine ⟨M', by rw [q94_0, S12 (by omega) (by omega), kb1, q94_8, a3, i_20, ii_mul, Int.mul_comm j 20, e1], fun y y1 y2 => ?_, e5⟩
  obtain ⟨b1, b2, b3, b4⟩ := h y y1 y2
  rw [e4 y y1]
  unfold dropA
  rw [if_neg (by omega)]
  by_cases hy : y = j
  · subst hy
    rw [if_pos rfl, if_pos ⟨rfl, rfl⟩]
    refine ⟨by omega, by omega, rfl, fun k k1 k2 => ?_⟩
    rw [e2 _ (by omega), e3 _ (by omega), if_pos (by omega), if_pos (by omega), if_pos (by omega), if_pos (by omega), show 20 * y + k + 1 = 20 * y + (k + 1) by omega]
    exact b4 (k + 1) (by omega) (by omega)
  · rw [if_neg hy, if_neg (by omega)]
    refine ⟨b1, b2, b3, fun k k1 k2 => ?_⟩
    rw [e2 _ (by omega), e3 _ (by omega), if_neg (by omega), if_neg (by omega), if_neg (by omega), if_neg (by omega), if_neg (by omega), if_neg (by omega)]
    exact b4 k k1 k2
end OPS
end QUE
