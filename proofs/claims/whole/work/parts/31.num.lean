/-! numbers, and the class's rows of cells -/
section NUM
set_option maxRecDepth 100000
def ii (z : Int) : Int32 := Int32.ofInt z
def bI (b : Bool) : Int32 := if b then ii 1 else ii 0
theorem i_0 : (0 : Int32) = ii 0 := rfl
theorem i_1 : (1 : Int32) = ii 1 := rfl
theorem i_2 : (2 : Int32) = ii 2 := rfl
theorem i_3 : (3 : Int32) = ii 3 := rfl
theorem i_4 : (4 : Int32) = ii 4 := rfl
theorem i_5 : (5 : Int32) = ii 5 := rfl
theorem i_6 : (6 : Int32) = ii 6 := rfl
theorem i_7 : (7 : Int32) = ii 7 := rfl
theorem i_8 : (8 : Int32) = ii 8 := rfl
theorem i_9 : (9 : Int32) = ii 9 := rfl
theorem i_10 : (10 : Int32) = ii 10 := rfl
theorem i_11 : (11 : Int32) = ii 11 := rfl
theorem i_12 : (12 : Int32) = ii 12 := rfl
theorem i_13 : (13 : Int32) = ii 13 := rfl
theorem i_14 : (14 : Int32) = ii 14 := rfl
theorem i_15 : (15 : Int32) = ii 15 := rfl
theorem i_16 : (16 : Int32) = ii 16 := rfl
theorem i_17 : (17 : Int32) = ii 17 := rfl
theorem i_18 : (18 : Int32) = ii 18 := rfl
theorem i_19 : (19 : Int32) = ii 19 := rfl
theorem i_20 : (20 : Int32) = ii 20 := rfl
theorem i_21 : (21 : Int32) = ii 21 := rfl
theorem i_22 : (22 : Int32) = ii 22 := rfl
theorem i_23 : (23 : Int32) = ii 23 := rfl
theorem i_24 : (24 : Int32) = ii 24 := rfl
theorem i_25 : (25 : Int32) = ii 25 := rfl
theorem i_26 : (26 : Int32) = ii 26 := rfl
theorem i_27 : (27 : Int32) = ii 27 := rfl
theorem i_28 : (28 : Int32) = ii 28 := rfl
theorem i_29 : (29 : Int32) = ii 29 := rfl
theorem i_30 : (30 : Int32) = ii 30 := rfl
theorem i_31 : (31 : Int32) = ii 31 := rfl
theorem i_32 : (32 : Int32) = ii 32 := rfl
theorem i_33 : (33 : Int32) = ii 33 := rfl
theorem i_34 : (34 : Int32) = ii 34 := rfl
theorem i_35 : (35 : Int32) = ii 35 := rfl
theorem i_36 : (36 : Int32) = ii 36 := rfl
theorem i_37 : (37 : Int32) = ii 37 := rfl
theorem i_38 : (38 : Int32) = ii 38 := rfl
theorem i_39 : (39 : Int32) = ii 39 := rfl
theorem i_40 : (40 : Int32) = ii 40 := rfl
theorem i_41 : (41 : Int32) = ii 41 := rfl
theorem i_42 : (42 : Int32) = ii 42 := rfl
theorem i_43 : (43 : Int32) = ii 43 := rfl
theorem i_44 : (44 : Int32) = ii 44 := rfl
theorem i_45 : (45 : Int32) = ii 45 := rfl
theorem i_47 : (47 : Int32) = ii 47 := rfl
theorem i_48 : (48 : Int32) = ii 48 := rfl
theorem i_50 : (50 : Int32) = ii 50 := rfl
theorem i_57 : (57 : Int32) = ii 57 := rfl
theorem i_59 : (59 : Int32) = ii 59 := rfl
theorem i_60 : (60 : Int32) = ii 60 := rfl
theorem i_61 : (61 : Int32) = ii 61 := rfl
theorem i_62 : (62 : Int32) = ii 62 := rfl
theorem i_66 : (66 : Int32) = ii 66 := rfl
theorem i_97 : (97 : Int32) = ii 97 := rfl
theorem i_99 : (99 : Int32) = ii 99 := rfl
theorem i_100 : (100 : Int32) = ii 100 := rfl
theorem i_101 : (101 : Int32) = ii 101 := rfl
theorem i_104 : (104 : Int32) = ii 104 := rfl
theorem i_108 : (108 : Int32) = ii 108 := rfl
theorem i_114 : (114 : Int32) = ii 114 := rfl
theorem i_115 : (115 : Int32) = ii 115 := rfl
theorem i_116 : (116 : Int32) = ii 116 := rfl
theorem i_119 : (119 : Int32) = ii 119 := rfl
theorem i_120 : (120 : Int32) = ii 120 := rfl
theorem i_122 : (122 : Int32) = ii 122 := rfl
theorem i_123 : (123 : Int32) = ii 123 := rfl
theorem i_125 : (125 : Int32) = ii 125 := rfl
theorem i_126 : (126 : Int32) = ii 126 := rfl
theorem i_174 : (174 : Int32) = ii 174 := rfl
theorem i_180 : (180 : Int32) = ii 180 := rfl
theorem i_200 : (200 : Int32) = ii 200 := rfl
theorem i_240 : (240 : Int32) = ii 240 := rfl
theorem i_255 : (255 : Int32) = ii 255 := rfl
theorem i_280 : (280 : Int32) = ii 280 := rfl
theorem i_396 : (396 : Int32) = ii 396 := rfl
theorem i_414 : (414 : Int32) = ii 414 := rfl
theorem i_500 : (500 : Int32) = ii 500 := rfl
theorem i_501 : (501 : Int32) = ii 501 := rfl
theorem i_654 : (654 : Int32) = ii 654 := rfl
theorem i_656 : (656 : Int32) = ii 656 := rfl
theorem i_657 : (657 : Int32) = ii 657 := rfl
theorem i_658 : (658 : Int32) = ii 658 := rfl
theorem i_659 : (659 : Int32) = ii 659 := rfl
theorem i_660 : (660 : Int32) = ii 660 := rfl
theorem i_661 : (661 : Int32) = ii 661 := rfl
theorem i_933 : (933 : Int32) = ii 933 := rfl
theorem i_934 : (934 : Int32) = ii 934 := rfl
theorem i_999 : (999 : Int32) = ii 999 := rfl
theorem i_1434 : (1434 : Int32) = ii 1434 := rfl
theorem i_3072 : (3072 : Int32) = ii 3072 := rfl
theorem i_9999 : (9999 : Int32) = ii 9999 := rfl
theorem i_14340 : (14340 : Int32) = ii 14340 := rfl
theorem i_1000000 : (1000000 : Int32) = ii 1000000 := rfl
theorem i_1000000000 : (1000000000 : Int32) = ii 1000000000 := rfl
theorem ii_of (n : Nat) : Int32.ofNat n = ii n := Int32.ofInt_eq_ofNat.symm
theorem ii_add (a b : Int) : ii a + ii b = ii (a + b) := (Int32.ofInt_add a b).symm
theorem ii_sub (a b : Int) : ii a - ii b = ii (a - b) := (Int32.ofInt_sub a b).symm
theorem ii_mul (a b : Int) : ii a * ii b = ii (a * b) := (Int32.ofInt_mul a b).symm
theorem ii_neg (a : Int) : -ii a = ii (-a) := (Int32.ofInt_neg a).symm
theorem ii_m1 : (-1 : Int32) = ii (-1) := rfl
theorem ii_toInt {a : Int} (h1 : -2147483648 ≤ a) (h2 : a < 2147483648) : (ii a).toInt = a := Int32.toInt_ofInt_of_le h1 h2
theorem ii_lt {a b : Int} (h1 : -2147483648 ≤ a) (h2 : a < 2147483648) (h3 : -2147483648 ≤ b) (h4 : b < 2147483648) : (ii a < ii b) = (a < b) := by
  rw [Int32.lt_iff_toInt_lt, ii_toInt h1 h2, ii_toInt h3 h4]
theorem ii_eq {a b : Int} (h1 : -2147483648 ≤ a) (h2 : a < 2147483648) (h3 : -2147483648 ≤ b) (h4 : b < 2147483648) : (ii a = ii b) = (a = b) := by
  apply propext
  constructor
  · intro h
    have := congrArg Int32.toInt h
    rwa [ii_toInt h1 h2, ii_toInt h3 h4] at this
  · intro h; rw [h]
theorem ii_nat {z : Int} (h1 : 0 ≤ z) (h2 : z < 2147483648) : (ii z).toNatClampNeg = z.toNat := Int32.toNatClampNeg_ofInt_of_le (by omega) h2
theorem ii_inB {z : Int} {n : Nat} (h1 : 0 ≤ z) (h2 : z < 2147483648) : (inB (ii z) n = true) = (z < n) := by
  unfold inB
  rw [ii_nat h1 h2, i_0, decide_eq_false (show ¬ ii z < ii 0 by rw [ii_lt (by omega) h2 (by omega) (by omega)]; omega)]
  apply propext
  simp
  omega
theorem ii_ex (x : Int32) : ∃ z : Int, x = ii z ∧ -2147483648 ≤ z ∧ z < 2147483648 := ⟨x.toInt, (Int32.ofInt_toInt x).symm, Int32.le_toInt x, Int32.toInt_lt x⟩
theorem bI_0 (b : Bool) : (bI b = ii 0) = (b = false) := by cases b <;> decide
theorem bI_1 (b : Bool) : (bI b = ii 1) = (b = true) := by cases b <;> decide
theorem bI_ok (b : Bool) : (rOK 1 (bI b) = true) = True := by cases b <;> decide
theorem rok_0 : (rOK 1 (ii 0) = true) = True := by decide
theorem rok_1 : (rOK 1 (ii 1) = true) = True := by decide
theorem bI_ite {p : Prop} [Decidable p] : (if p then ii 1 else ii 0) = bI (decide p) := by unfold bI; by_cases h : p <;> simp [h]
theorem bI_itn {p : Prop} [Decidable p] : (if p then ii 0 else ii 1) = bI (decide (¬ p)) := by unfold bI; by_cases h : p <;> simp [h]
section IT
variable {α : Sort _} {x y : α} {a b z : Int} {n : Nat}
theorem ltT [d : Decidable (ii a < ii b)] (h : -2147483648 ≤ a ∧ a < b ∧ b < 2147483648) : (if ii a < ii b then x else y) = x := if_pos (by rw [ii_lt (by omega) (by omega) (by omega) (by omega)]; omega)
theorem ltF [d : Decidable (ii a < ii b)] (h : -2147483648 ≤ b ∧ b ≤ a ∧ a < 2147483648) : (if ii a < ii b then x else y) = y := if_neg (by rw [ii_lt (by omega) (by omega) (by omega) (by omega)]; omega)
theorem ilt [d : Decidable (ii a < ii b)] (h : -2147483648 ≤ a ∧ a < 2147483648 ∧ -2147483648 ≤ b ∧ b < 2147483648) : (if ii a < ii b then x else y) = if a < b then x else y := by
  by_cases c : a < b
  · rw [ltT (by omega), if_pos c]
  · rw [ltF (by omega), if_neg c]
theorem eqT [d : Decidable (ii a = ii b)] (h : a = b) : (if ii a = ii b then x else y) = x := if_pos (by rw [h])
theorem eqF [d : Decidable (ii a = ii b)] (h : a ≠ b ∧ -2147483648 ≤ a ∧ a < 2147483648 ∧ -2147483648 ≤ b ∧ b < 2147483648) : (if ii a = ii b then x else y) = y := if_neg (by rw [ii_eq (by omega) (by omega) (by omega) (by omega)]; omega)
theorem ieq [d : Decidable (ii a = ii b)] (h : -2147483648 ≤ a ∧ a < 2147483648 ∧ -2147483648 ≤ b ∧ b < 2147483648) : (if ii a = ii b then x else y) = if a = b then x else y := by
  by_cases c : a = b
  · rw [eqT c, if_pos c]
  · rw [eqF (by omega), if_neg c]
theorem inbT [d : Decidable (inB (ii z) n = true)] (h : 0 ≤ z ∧ z < n ∧ z < 2147483648) : (if inB (ii z) n = true then x else y) = x := if_pos (by rw [ii_inB (by omega) (by omega)]; omega)
theorem bIT {b : Bool} [d : Decidable (bI b = ii 0)] : (if bI b = ii 0 then x else y) = bif b then y else x := by
  cases b
  · exact if_pos rfl
  · exact if_neg (by rw [bI_0]; decide)
theorem rkT {b : Bool} [d : Decidable (rOK 1 (bI b) = true)] : (if rOK 1 (bI b) = true then x else y) = x := if_pos (bI_ok b ▸ trivial)
theorem rk0 [d : Decidable (rOK 1 (ii 0) = true)] : (if rOK 1 (ii 0) = true then x else y) = x := if_pos rfl
theorem rk1 [d : Decidable (rOK 1 (ii 1) = true)] : (if rOK 1 (ii 1) = true then x else y) = x := if_pos rfl
end IT
section KB
variable {m mc ms nx : Nat} {K : KT} {ls r : List PV} {X X' : PX} {M' : Mem} {v : PV}
theorem kb0 : (some ((.inl none, M', X') : PRs)).bind (kRet true false m mc ms nx K ls r X) = K nx ls r M' X' := rfl
theorem kb1 : (some ((.inl (some v), M', X') : PRs)).bind (kRet true false m mc ms nx K ls r X) = K nx ls (v :: r) M' X' := rfl
end KB
theorem ln_lt (a : Nat) : ln a < 300000 := by
  rcases Nat.lt_or_ge a 829 with h | h
  · have h1 : ((List.range 829).all fun a => Nat.blt (ln a) 300000) = true := by decide +kernel
    exact lt_of_blt (List.all_eq_true.mp h1 a (List.mem_range.mpr h))
  · unfold ln
    rw [List.getD_eq_getElem?_getD, List.getElem?_eq_none (by rw [lay_len]; exact h)]
    decide
def rl (t : Nat) : Int := ln (t + 1)
theorem rl_lt (t : Nat) : 0 ≤ rl t ∧ rl t < 300000 := by
  have := ln_lt (t + 1)
  unfold rl
  omega
def cl (M : Mem) (t : Nat) (z : Int) : Int32 := M (t + 1) z.toNat
def sc (M : Mem) (t : Nat) (z : Int) (v : Int32) : Mem := upM M (t + 1) z.toNat v
section ROW
variable {t : Nat} {z : Int} {v : Int32} {M : Mem} {X : PX}
theorem S12 (h1 : 0 ≤ z) (h2 : z < rl t) : ev true 12 0 0 [pR 8 t, pI (ii z)] [] M X = some (.inl (some (pI (cl M t z))), M, X) := by
  have h3 := rl_lt t
  unfold rl at h2 h3
  rw [q12_0, i_0, ii_of, ltF (by omega), ltT (by omega), inbT (by omega), q12_23, ii_nat h1 (by omega)]
  rfl
theorem S12n (h1 : -2147483648 ≤ z) (h2 : z < 0) : ev true 12 0 0 [pR 8 t, pI (ii z)] [] M X = some (.inl (some (pI (ii 0))), M, X) := by
  rw [q12_0, i_0, ltT (by omega), q12_22, q12_23]
  rfl
theorem S12o (h1 : rl t ≤ z) (h2 : z < 2147483648) : ev true 12 0 0 [pR 8 t, pI (ii z)] [] M X = some (.inl (some (pI (ii 0))), M, X) := by
  have h3 := rl_lt t
  unfold rl at h1 h3
  rw [q12_0, i_0, ii_of, ltF (by omega), ltF (by omega), q12_22, q12_23]
  rfl
theorem S11 (h1 : 0 ≤ z) (h2 : z < rl t) : ev true 11 0 0 [pR 8 t, pI (ii z), pI v] [] M X = some (.inl none, sc M t z v, X) := by
  have h3 := rl_lt t
  unfold rl at h2 h3
  rw [q11_0, i_0, ii_of, ltF (by omega), ltT (by omega), inbT (by omega), q11_20, ii_nat h1 (by omega)]
  rfl
theorem S11o (h1 : z < 0 ∨ rl t ≤ z) (h2 : -2147483648 ≤ z) (h3 : z < 2147483648) : ev true 11 0 0 [pR 8 t, pI (ii z), pI v] [] M X = some (.inl none, M, X) := by
  have h4 := rl_lt t
  unfold rl at h1 h4
  rw [q11_0, i_0, ii_of]
  by_cases h : z < 0
  · rw [ltT (by omega), q11_20]
  · rw [ltF (by omega), ltF (by omega), q11_20]
theorem S15 (h1 : 0 ≤ z) (h2 : z < rl t) : ev true 15 0 0 [pR 8 t, pI (ii z), pI v] [] M X = some (.inl none, sc M t z (cl M t z + v), X) := by
  have h3 := rl_lt t
  unfold rl at h2 h3
  rw [q15_0, i_0, ii_of, ltF (by omega), ltT (by omega), inbT (by omega), inbT (by omega), q15_23, ii_nat h1 (by omega)]
  rfl
/-- all cells of an array filled from i on -/
def flM (M : Mem) (a i : Nat) (v : Int32) : Mem := fun b j => if b = a ∧ i ≤ j ∧ j < ln a then v else M b j
theorem S50l : ∀ (k i : Nat) (a : Nat) (M : Mem), i + k = ln a → ev true 50 0 5 [pR 14 a, pI v, pI (ii i), pI (ii (ln a))] [] M X = some (.inl none, flM M a i v, X) := by
  intro k
  induction k with
  | zero =>
    intro i a M h
    have h9 := ln_lt a
    rw [q50_5, ltF (by omega)]
    congr 3
    funext b j
    unfold flM
    rw [if_neg (by omega)]
  | succ k ih =>
    intro i a M h
    have h9 := ln_lt a
    rw [q50_5, ltT (by omega), inbT (by omega), ii_nat (by omega) (by omega), i_1, ii_add]
    have := ih (i + 1) a (upM M a i v) (by omega)
    rw [show ((i : Int) + OfNat.ofNat 1) = ((i + 1 : Nat) : Int) from rfl, show (i : Int).toNat = i from rfl, this]
    congr 3
    funext b j
    unfold flM upM
    by_cases hb : b = a
    · subst hb
      by_cases hj : j = i
      · subst hj; rw [if_neg (by omega), if_pos (by simp), if_pos (by omega)]
      · by_cases hk : i + 1 ≤ j ∧ j < ln b
        · rw [if_pos (by omega), if_pos (by omega)]
        · rw [if_neg (by omega), if_neg (by omega), if_neg (by omega)]
    · rw [if_neg (by omega), if_neg (by omega), if_neg (by omega)]
theorem S73 : ev true 73 0 0 [pR 8 t, pI v] [] M X = some (.inl none, flM M (t + 1) 0 v, X) := by
  rw [q73_0, q50_0, ii_of, show (0 : Int32) = ii ((0 : Nat) : Int) from rfl, S50l (ln (t + 1)) 0 (t + 1) M (by omega), kb0, q73_8]
theorem S74 {u n : Nat} (h1 : ln (t + 1) = n) (h2 : ln (u + 1) = n) : ev true 74 0 0 [pR 8 t, pR 8 u] [] M X = some (.inl none, cpM M (u + 1) 0 (t + 1) 0 n, X) := by
  have h9 := ln_lt (t + 1)
  rw [q74_0, h1, h2, ii_of, ite_self, q74_23, if_pos (by
    rw [i_0, h1, h2, ii_nat (by omega) (by omega), ii_nat (by omega) (by omega), ii_lt (by omega) (by omega) (by omega) (by omega), ii_lt (by omega) (by omega) (by omega) (by omega)]
    refine ⟨?_, ?_, ?_, ?_, ?_⟩ <;> omega), ii_nat (by omega) (by omega)]
  rfl
/-- the sum of the first n cells -/
def smC (f : Nat → Int32) : Nat → Int32
  | 0 => ii 0
  | n + 1 => smC f n + f n
theorem S14l : ∀ (k i : Nat) (z5 : PV), i + k = ln (t + 1) → ev true 14 0 13 [pR 8 t, pI (smC (M (t + 1)) i), pR 14 (t + 1), pI (ii (ln (t + 1))), pI (ii i), z5] [] M X = some (.inl (some (pI (smC (M (t + 1)) (ln (t + 1))))), M, X) := by
  intro k
  induction k with
  | zero =>
    intro i z5 h
    have h9 := ln_lt (t + 1)
    rw [q14_13, ltF (by omega), show i = ln (t + 1) by omega]
  | succ k ih =>
    intro i z5 h
    have h9 := ln_lt (t + 1)
    rw [q14_13, ltT (by omega), inbT (by omega), ii_nat (by omega) (by omega), i_1, ii_add]
    exact ih (i + 1) _ (by omega)
theorem S14 : ev true 14 0 0 [pR 8 t, p0, p0, p0, p0, p0] [] M X = some (.inl (some (pI (smC (M (t + 1)) (ln (t + 1))))), M, X) := by
  rw [q14_0, ii_of]
  exact S14l (ln (t + 1)) 0 _ (by omega)
theorem S13l {n : Nat} (hn : n ≤ ln (t + 1)) : ∀ (k i : Nat), i + k = n → ev true 13 0 2 [pR 8 t, pI v, pI (ii n), pI (ii i)] [] M X = some (.inl (some (pI (bI ((List.range' i k).any fun j => decide (M (t + 1) j = v))))), M, X) := by
  have h9 := ln_lt (t + 1)
  intro k
  induction k with
  | zero =>
    intro i h
    rw [q13_2, ltF (by omega), q13_34]
    rfl
  | succ k ih =>
    intro i h
    rw [q13_2, ii_of, ltT (by omega), ltT (by omega), inbT (by omega), ii_nat (by omega) (by omega), show (i : Int).toNat = i from rfl, List.range'_succ, List.any_cons]
    by_cases hv : M (t + 1) i = v
    · rw [if_pos hv, decide_eq_true hv]
      rfl
    · rw [if_neg hv, decide_eq_false hv, i_1, ii_add, Bool.false_or]
      exact ih (i + 1) (by omega)
theorem S13 {n : Nat} (hn : n ≤ ln (t + 1)) : ev true 13 0 0 [pR 8 t, pI v, pI (ii n), p0] [] M X = some (.inl (some (pI (bI ((List.range' 0 n).any fun j => decide (M (t + 1) j = v))))), M, X) := by
  rw [q13_0]
  exact S13l hn n 0 (by omega)
end ROW
end NUM
